section
-- ===== PART A: goes FIRST, ahead of the names: the tables' words, and 'selects' of the private methods out of them =====
/-- a private method of a class that the tables say can be made, by its rows of tables_1 -/
def lw_okq (q : MethodName × Nat) : Prop := (q.1.cls ≠ "java/lang/invoke/MethodHandle" ∧ q.1.cls ≠ "java/lang/invoke/VarHandle") ∧ Cond.instantiable q.1.cls q.2 ∈ tables_1 ∧ Cond.privateMethod q.1 ∈ tables_1 ∧ Cond.instanceMethod q.1 ∈ tables_1
theorem lw_p0 : lw_okq (⟨"SaidOnce", "remember", "()V"⟩, 10) := ⟨⟨by decide +kernel, by decide +kernel⟩, List.mem_of_getElem? (i := 32) (by decide +kernel), List.mem_of_getElem? (i := 460) (by decide +kernel), List.mem_of_getElem? (i := 461) (by decide +kernel)⟩
theorem lw_p1 : lw_okq (⟨"SaidOnce$School", "tellAll", "(I)Z"⟩, 6) := ⟨⟨by decide +kernel, by decide +kernel⟩, List.mem_of_getElem? (i := 76) (by decide +kernel), List.mem_of_getElem? (i := 539) (by decide +kernel), List.mem_of_getElem? (i := 540) (by decide +kernel)⟩
theorem lw_p2 : lw_okq (⟨"SaidOnce$School", "tellOne", "(III)Z"⟩, 6) := ⟨⟨by decide +kernel, by decide +kernel⟩, List.mem_of_getElem? (i := 76) (by decide +kernel), List.mem_of_getElem? (i := 547) (by decide +kernel), List.mem_of_getElem? (i := 548) (by decide +kernel)⟩
theorem lw_p3 : lw_okq (⟨"SaidOnce$Law", "holds", "(I)Z"⟩, 10) := ⟨⟨by decide +kernel, by decide +kernel⟩, List.mem_of_getElem? (i := 205) (by decide +kernel), List.mem_of_getElem? (i := 573) (by decide +kernel), List.mem_of_getElem? (i := 574) (by decide +kernel)⟩
theorem lw_p4 : lw_okq (⟨"SaidOnce$Tape", "isWithin", "(ICC)Z"⟩, 7) := ⟨⟨by decide +kernel, by decide +kernel⟩, List.mem_of_getElem? (i := 40) (by decide +kernel), List.mem_of_getElem? (i := 676) (by decide +kernel), List.mem_of_getElem? (i := 677) (by decide +kernel)⟩
theorem lw_p5 : lw_okq (⟨"SaidOnce$LawReader", "readCondition", "()Z"⟩, 6) := ⟨⟨by decide +kernel, by decide +kernel⟩, List.mem_of_getElem? (i := 376) (by decide +kernel), List.mem_of_getElem? (i := 760) (by decide +kernel), List.mem_of_getElem? (i := 761) (by decide +kernel)⟩
theorem lw_p6 : lw_okq (⟨"SaidOnce$LawReader", "readOpenings", "()Z"⟩, 6) := ⟨⟨by decide +kernel, by decide +kernel⟩, List.mem_of_getElem? (i := 376) (by decide +kernel), List.mem_of_getElem? (i := 764) (by decide +kernel), List.mem_of_getElem? (i := 765) (by decide +kernel)⟩
theorem lw_p7 : lw_okq (⟨"SaidOnce$LawReader", "await", "(I)V"⟩, 6) := ⟨⟨by decide +kernel, by decide +kernel⟩, List.mem_of_getElem? (i := 376) (by decide +kernel), List.mem_of_getElem? (i := 773) (by decide +kernel), List.mem_of_getElem? (i := 774) (by decide +kernel)⟩
theorem lw_p8 : lw_okq (⟨"SaidOnce$LawReader", "readFact", "()Z"⟩, 6) := ⟨⟨by decide +kernel, by decide +kernel⟩, List.mem_of_getElem? (i := 376) (by decide +kernel), List.mem_of_getElem? (i := 777) (by decide +kernel), List.mem_of_getElem? (i := 778) (by decide +kernel)⟩
theorem lw_p9 : lw_okq (⟨"SaidOnce$LawReader", "partHere", "()I"⟩, 6) := ⟨⟨by decide +kernel, by decide +kernel⟩, List.mem_of_getElem? (i := 376) (by decide +kernel), List.mem_of_getElem? (i := 786) (by decide +kernel), List.mem_of_getElem? (i := 787) (by decide +kernel)⟩
theorem lw_p10 : lw_okq (⟨"SaidOnce$LawReader", "readClosings", "()V"⟩, 6) := ⟨⟨by decide +kernel, by decide +kernel⟩, List.mem_of_getElem? (i := 376) (by decide +kernel), List.mem_of_getElem? (i := 798) (by decide +kernel), List.mem_of_getElem? (i := 799) (by decide +kernel)⟩
theorem lw_p11 : lw_okq (⟨"SaidOnce$LawReader", "settle", "(I)V"⟩, 6) := ⟨⟨by decide +kernel, by decide +kernel⟩, List.mem_of_getElem? (i := 376) (by decide +kernel), List.mem_of_getElem? (i := 802) (by decide +kernel), List.mem_of_getElem? (i := 803) (by decide +kernel)⟩
theorem lw_p12 : lw_okq (⟨"SaidOnce$SchoolReader", "readThing", "()Z"⟩, 3) := ⟨⟨by decide +kernel, by decide +kernel⟩, List.mem_of_getElem? (i := 349) (by decide +kernel), List.mem_of_getElem? (i := 822) (by decide +kernel), List.mem_of_getElem? (i := 823) (by decide +kernel)⟩
theorem lw_p13 : lw_okq (⟨"SaidOnce$SchoolReader", "readPerson", "()Z"⟩, 3) := ⟨⟨by decide +kernel, by decide +kernel⟩, List.mem_of_getElem? (i := 349) (by decide +kernel), List.mem_of_getElem? (i := 829) (by decide +kernel), List.mem_of_getElem? (i := 830) (by decide +kernel)⟩
theorem lw_p14 : lw_okq (⟨"SaidOnce$SchoolReader", "readThings", "()I"⟩, 3) := ⟨⟨by decide +kernel, by decide +kernel⟩, List.mem_of_getElem? (i := 349) (by decide +kernel), List.mem_of_getElem? (i := 842) (by decide +kernel), List.mem_of_getElem? (i := 843) (by decide +kernel)⟩
theorem lw_p15 : lw_okq (⟨"SaidOnce$SchoolReader", "readRule", "()Z"⟩, 3) := ⟨⟨by decide +kernel, by decide +kernel⟩, List.mem_of_getElem? (i := 349) (by decide +kernel), List.mem_of_getElem? (i := 851) (by decide +kernel), List.mem_of_getElem? (i := 852) (by decide +kernel)⟩
def lw_privs_1 : List (MethodName × Nat) := [(⟨"SaidOnce", "remember", "()V"⟩, 10), (⟨"SaidOnce$School", "tellAll", "(I)Z"⟩, 6), (⟨"SaidOnce$School", "tellOne", "(III)Z"⟩, 6), (⟨"SaidOnce$Law", "holds", "(I)Z"⟩, 10), (⟨"SaidOnce$Tape", "isWithin", "(ICC)Z"⟩, 7), (⟨"SaidOnce$LawReader", "readCondition", "()Z"⟩, 6), (⟨"SaidOnce$LawReader", "readOpenings", "()Z"⟩, 6), (⟨"SaidOnce$LawReader", "await", "(I)V"⟩, 6), (⟨"SaidOnce$LawReader", "readFact", "()Z"⟩, 6), (⟨"SaidOnce$LawReader", "partHere", "()I"⟩, 6), (⟨"SaidOnce$LawReader", "readClosings", "()V"⟩, 6), (⟨"SaidOnce$LawReader", "settle", "(I)V"⟩, 6), (⟨"SaidOnce$SchoolReader", "readThing", "()Z"⟩, 3), (⟨"SaidOnce$SchoolReader", "readPerson", "()Z"⟩, 3), (⟨"SaidOnce$SchoolReader", "readThings", "()I"⟩, 3), (⟨"SaidOnce$SchoolReader", "readRule", "()Z"⟩, 3)]
theorem lw_r1 : ∀ q ∈ lw_privs_1, lw_okq q := List.forall_mem_cons.mpr ⟨lw_p0, List.forall_mem_cons.mpr ⟨lw_p1, List.forall_mem_cons.mpr ⟨lw_p2, List.forall_mem_cons.mpr ⟨lw_p3, List.forall_mem_cons.mpr ⟨lw_p4, List.forall_mem_cons.mpr ⟨lw_p5, List.forall_mem_cons.mpr ⟨lw_p6, List.forall_mem_cons.mpr ⟨lw_p7, List.forall_mem_cons.mpr ⟨lw_p8, List.forall_mem_cons.mpr ⟨lw_p9, List.forall_mem_cons.mpr ⟨lw_p10, List.forall_mem_cons.mpr ⟨lw_p11, List.forall_mem_cons.mpr ⟨lw_p12, List.forall_mem_cons.mpr ⟨lw_p13, List.forall_mem_cons.mpr ⟨lw_p14, List.forall_mem_cons.mpr ⟨lw_p15, fun _ h => absurd h List.not_mem_nil⟩⟩⟩⟩⟩⟩⟩⟩⟩⟩⟩⟩⟩⟩⟩⟩
theorem lw_p16 : lw_okq (⟨"SaidOnce$SchoolReader", "readSaid", "()Z"⟩, 3) := ⟨⟨by decide +kernel, by decide +kernel⟩, List.mem_of_getElem? (i := 349) (by decide +kernel), List.mem_of_getElem? (i := 856) (by decide +kernel), List.mem_of_getElem? (i := 857) (by decide +kernel)⟩
theorem lw_p17 : lw_okq (⟨"SaidOnce$SchoolReader", "readAbsent", "()Z"⟩, 3) := ⟨⟨by decide +kernel, by decide +kernel⟩, List.mem_of_getElem? (i := 349) (by decide +kernel), List.mem_of_getElem? (i := 864) (by decide +kernel), List.mem_of_getElem? (i := 865) (by decide +kernel)⟩
theorem lw_p18 : lw_okq (⟨"SaidOnce$SchoolReader", "readLoud", "()Z"⟩, 3) := ⟨⟨by decide +kernel, by decide +kernel⟩, List.mem_of_getElem? (i := 349) (by decide +kernel), List.mem_of_getElem? (i := 869) (by decide +kernel), List.mem_of_getElem? (i := 870) (by decide +kernel)⟩
theorem lw_p19 : lw_okq (⟨"java/lang/Throwable", "fillInStackTrace", "(I)Ljava/lang/Throwable;"⟩, 6) := ⟨⟨by decide +kernel, by decide +kernel⟩, List.mem_of_getElem? (i := 918) (by decide +kernel), List.mem_of_getElem? (i := 916) (by decide +kernel), List.mem_of_getElem? (i := 917) (by decide +kernel)⟩
theorem lw_p20 : lw_okq (⟨"SaidOnce", "needThing", "(I)V"⟩, 10) := ⟨⟨by decide +kernel, by decide +kernel⟩, List.mem_of_getElem? (i := 32) (by decide +kernel), List.mem_of_getElem? (i := 996) (by decide +kernel), List.mem_of_getElem? (i := 997) (by decide +kernel)⟩
theorem lw_p21 : lw_okq (⟨"SaidOnce", "needPerson", "(I)V"⟩, 10) := ⟨⟨by decide +kernel, by decide +kernel⟩, List.mem_of_getElem? (i := 32) (by decide +kernel), List.mem_of_getElem? (i := 1058) (by decide +kernel), List.mem_of_getElem? (i := 1059) (by decide +kernel)⟩
theorem lw_p22 : lw_okq (⟨"SaidOnce", "needTwo", "(II)V"⟩, 10) := ⟨⟨by decide +kernel, by decide +kernel⟩, List.mem_of_getElem? (i := 32) (by decide +kernel), List.mem_of_getElem? (i := 1079) (by decide +kernel), List.mem_of_getElem? (i := 1080) (by decide +kernel)⟩
theorem lw_p23 : lw_okq (⟨"SaidOnce", "needSaying", "(II)V"⟩, 10) := ⟨⟨by decide +kernel, by decide +kernel⟩, List.mem_of_getElem? (i := 32) (by decide +kernel), List.mem_of_getElem? (i := 1092) (by decide +kernel), List.mem_of_getElem? (i := 1093) (by decide +kernel)⟩
theorem lw_p24 : lw_okq (⟨"SaidOnce$Planner", "prepare", "(I)V"⟩, 6) := ⟨⟨by decide +kernel, by decide +kernel⟩, List.mem_of_getElem? (i := 311) (by decide +kernel), List.mem_of_getElem? (i := 1218) (by decide +kernel), List.mem_of_getElem? (i := 1219) (by decide +kernel)⟩
theorem lw_p25 : lw_okq (⟨"SaidOnce$Planner", "mark", "(II)V"⟩, 6) := ⟨⟨by decide +kernel, by decide +kernel⟩, List.mem_of_getElem? (i := 311) (by decide +kernel), List.mem_of_getElem? (i := 1229) (by decide +kernel), List.mem_of_getElem? (i := 1230) (by decide +kernel)⟩
theorem lw_p26 : lw_okq (⟨"SaidOnce$Planner", "isBlank", "(II)Z"⟩, 6) := ⟨⟨by decide +kernel, by decide +kernel⟩, List.mem_of_getElem? (i := 311) (by decide +kernel), List.mem_of_getElem? (i := 1234) (by decide +kernel), List.mem_of_getElem? (i := 1235) (by decide +kernel)⟩
theorem lw_p27 : lw_okq (⟨"SaidOnce$Planner", "isMarked", "(II)Z"⟩, 6) := ⟨⟨by decide +kernel, by decide +kernel⟩, List.mem_of_getElem? (i := 311) (by decide +kernel), List.mem_of_getElem? (i := 1238) (by decide +kernel), List.mem_of_getElem? (i := 1239) (by decide +kernel)⟩
theorem lw_p28 : lw_okq (⟨"SaidOnce$Planner", "spread", "(II)Z"⟩, 6) := ⟨⟨by decide +kernel, by decide +kernel⟩, List.mem_of_getElem? (i := 311) (by decide +kernel), List.mem_of_getElem? (i := 1242) (by decide +kernel), List.mem_of_getElem? (i := 1243) (by decide +kernel)⟩
theorem lw_p29 : lw_okq (⟨"SaidOnce$Planner", "sayableBy", "(III)I"⟩, 6) := ⟨⟨by decide +kernel, by decide +kernel⟩, List.mem_of_getElem? (i := 311) (by decide +kernel), List.mem_of_getElem? (i := 1246) (by decide +kernel), List.mem_of_getElem? (i := 1247) (by decide +kernel)⟩
theorem lw_p30 : lw_okq (⟨"SaidOnce$Planner", "afterwards", "(III)I"⟩, 6) := ⟨⟨by decide +kernel, by decide +kernel⟩, List.mem_of_getElem? (i := 311) (by decide +kernel), List.mem_of_getElem? (i := 1250) (by decide +kernel), List.mem_of_getElem? (i := 1251) (by decide +kernel)⟩
theorem lw_p31 : lw_okq (⟨"SaidOnce$Planner", "keepOnlyWhatLeadsThere", "(I)V"⟩, 6) := ⟨⟨by decide +kernel, by decide +kernel⟩, List.mem_of_getElem? (i := 311) (by decide +kernel), List.mem_of_getElem? (i := 1254) (by decide +kernel), List.mem_of_getElem? (i := 1255) (by decide +kernel)⟩
def lw_privs_2 : List (MethodName × Nat) := [(⟨"SaidOnce$SchoolReader", "readSaid", "()Z"⟩, 3), (⟨"SaidOnce$SchoolReader", "readAbsent", "()Z"⟩, 3), (⟨"SaidOnce$SchoolReader", "readLoud", "()Z"⟩, 3), (⟨"java/lang/Throwable", "fillInStackTrace", "(I)Ljava/lang/Throwable;"⟩, 6), (⟨"SaidOnce", "needThing", "(I)V"⟩, 10), (⟨"SaidOnce", "needPerson", "(I)V"⟩, 10), (⟨"SaidOnce", "needTwo", "(II)V"⟩, 10), (⟨"SaidOnce", "needSaying", "(II)V"⟩, 10), (⟨"SaidOnce$Planner", "prepare", "(I)V"⟩, 6), (⟨"SaidOnce$Planner", "mark", "(II)V"⟩, 6), (⟨"SaidOnce$Planner", "isBlank", "(II)Z"⟩, 6), (⟨"SaidOnce$Planner", "isMarked", "(II)Z"⟩, 6), (⟨"SaidOnce$Planner", "spread", "(II)Z"⟩, 6), (⟨"SaidOnce$Planner", "sayableBy", "(III)I"⟩, 6), (⟨"SaidOnce$Planner", "afterwards", "(III)I"⟩, 6), (⟨"SaidOnce$Planner", "keepOnlyWhatLeadsThere", "(I)V"⟩, 6)]
theorem lw_r2 : ∀ q ∈ lw_privs_2, lw_okq q := List.forall_mem_cons.mpr ⟨lw_p16, List.forall_mem_cons.mpr ⟨lw_p17, List.forall_mem_cons.mpr ⟨lw_p18, List.forall_mem_cons.mpr ⟨lw_p19, List.forall_mem_cons.mpr ⟨lw_p20, List.forall_mem_cons.mpr ⟨lw_p21, List.forall_mem_cons.mpr ⟨lw_p22, List.forall_mem_cons.mpr ⟨lw_p23, List.forall_mem_cons.mpr ⟨lw_p24, List.forall_mem_cons.mpr ⟨lw_p25, List.forall_mem_cons.mpr ⟨lw_p26, List.forall_mem_cons.mpr ⟨lw_p27, List.forall_mem_cons.mpr ⟨lw_p28, List.forall_mem_cons.mpr ⟨lw_p29, List.forall_mem_cons.mpr ⟨lw_p30, List.forall_mem_cons.mpr ⟨lw_p31, fun _ h => absurd h List.not_mem_nil⟩⟩⟩⟩⟩⟩⟩⟩⟩⟩⟩⟩⟩⟩⟩⟩
theorem lw_p32 : lw_okq (⟨"SaidOnce$Planner", "leadsOn", "(II)Z"⟩, 6) := ⟨⟨by decide +kernel, by decide +kernel⟩, List.mem_of_getElem? (i := 311) (by decide +kernel), List.mem_of_getElem? (i := 1258) (by decide +kernel), List.mem_of_getElem? (i := 1259) (by decide +kernel)⟩
theorem lw_p33 : lw_okq (⟨"SaidOnce$Planner", "unmark", "(II)V"⟩, 6) := ⟨⟨by decide +kernel, by decide +kernel⟩, List.mem_of_getElem? (i := 311) (by decide +kernel), List.mem_of_getElem? (i := 1262) (by decide +kernel), List.mem_of_getElem? (i := 1263) (by decide +kernel)⟩
theorem lw_p34 : lw_okq (⟨"SaidOnce$Search", "hearFromEach", "(II)V"⟩, 2) := ⟨⟨by decide +kernel, by decide +kernel⟩, List.mem_of_getElem? (i := 336) (by decide +kernel), List.mem_of_getElem? (i := 1280) (by decide +kernel), List.mem_of_getElem? (i := 1281) (by decide +kernel)⟩
theorem lw_p35 : lw_okq (⟨"SaidOnce$Search", "spreadAmong", "(II)I"⟩, 2) := ⟨⟨by decide +kernel, by decide +kernel⟩, List.mem_of_getElem? (i := 336) (by decide +kernel), List.mem_of_getElem? (i := 1287) (by decide +kernel), List.mem_of_getElem? (i := 1288) (by decide +kernel)⟩
theorem lw_p36 : lw_okq (⟨"SaidOnce$Search", "heardFromAll", "(I)I"⟩, 2) := ⟨⟨by decide +kernel, by decide +kernel⟩, List.mem_of_getElem? (i := 336) (by decide +kernel), List.mem_of_getElem? (i := 1291) (by decide +kernel), List.mem_of_getElem? (i := 1292) (by decide +kernel)⟩
theorem lw_p37 : lw_okq (⟨"SaidOnce", "comesAsTold", "(III)Z"⟩, 10) := ⟨⟨by decide +kernel, by decide +kernel⟩, List.mem_of_getElem? (i := 32) (by decide +kernel), List.mem_of_getElem? (i := 1326) (by decide +kernel), List.mem_of_getElem? (i := 1327) (by decide +kernel)⟩
theorem lw_p38 : lw_okq (⟨"SaidOnce", "lead", "(II)I"⟩, 10) := ⟨⟨by decide +kernel, by decide +kernel⟩, List.mem_of_getElem? (i := 32) (by decide +kernel), List.mem_of_getElem? (i := 1353) (by decide +kernel), List.mem_of_getElem? (i := 1354) (by decide +kernel)⟩
theorem lw_p39 : lw_okq (⟨"SaidOnce", "rowAgo", "(I)I"⟩, 10) := ⟨⟨by decide +kernel, by decide +kernel⟩, List.mem_of_getElem? (i := 32) (by decide +kernel), List.mem_of_getElem? (i := 1486) (by decide +kernel), List.mem_of_getElem? (i := 1487) (by decide +kernel)⟩
theorem lw_p40 : lw_okq (⟨"SaidOnceModel", "readAll", "(Z)I"⟩, 27) := ⟨⟨by decide +kernel, by decide +kernel⟩, List.mem_of_getElem? (i := 1503) (by decide +kernel), List.mem_of_getElem? (i := 1620) (by decide +kernel), List.mem_of_getElem? (i := 1621) (by decide +kernel)⟩
theorem lw_p41 : lw_okq (⟨"SaidOnceModel", "uses", "()V"⟩, 27) := ⟨⟨by decide +kernel, by decide +kernel⟩, List.mem_of_getElem? (i := 1503) (by decide +kernel), List.mem_of_getElem? (i := 1624) (by decide +kernel), List.mem_of_getElem? (i := 1625) (by decide +kernel)⟩
theorem lw_p42 : lw_okq (⟨"SaidOnceModel", "blanks", "()V"⟩, 27) := ⟨⟨by decide +kernel, by decide +kernel⟩, List.mem_of_getElem? (i := 1503) (by decide +kernel), List.mem_of_getElem? (i := 1628) (by decide +kernel), List.mem_of_getElem? (i := 1629) (by decide +kernel)⟩
theorem lw_p43 : lw_okq (⟨"SaidOnceModel", "isAt", "(II)Z"⟩, 27) := ⟨⟨by decide +kernel, by decide +kernel⟩, List.mem_of_getElem? (i := 1503) (by decide +kernel), List.mem_of_getElem? (i := 1632) (by decide +kernel), List.mem_of_getElem? (i := 1633) (by decide +kernel)⟩
theorem lw_p44 : lw_okq (⟨"SaidOnceModel", "readLine", "(ZI)Z"⟩, 27) := ⟨⟨by decide +kernel, by decide +kernel⟩, List.mem_of_getElem? (i := 1503) (by decide +kernel), List.mem_of_getElem? (i := 1636) (by decide +kernel), List.mem_of_getElem? (i := 1637) (by decide +kernel)⟩
theorem lw_p45 : lw_okq (⟨"SaidOnceModel", "letters", "()V"⟩, 27) := ⟨⟨by decide +kernel, by decide +kernel⟩, List.mem_of_getElem? (i := 1503) (by decide +kernel), List.mem_of_getElem? (i := 1640) (by decide +kernel), List.mem_of_getElem? (i := 1641) (by decide +kernel)⟩
theorem lw_p46 : lw_okq (⟨"SaidOnceModel", "readSchoolLine", "()Z"⟩, 27) := ⟨⟨by decide +kernel, by decide +kernel⟩, List.mem_of_getElem? (i := 1503) (by decide +kernel), List.mem_of_getElem? (i := 1644) (by decide +kernel), List.mem_of_getElem? (i := 1645) (by decide +kernel)⟩
theorem lw_p47 : lw_okq (⟨"SaidOnceModel", "isWord", "(Ljava/lang/String;)Z"⟩, 27) := ⟨⟨by decide +kernel, by decide +kernel⟩, List.mem_of_getElem? (i := 1503) (by decide +kernel), List.mem_of_getElem? (i := 1649) (by decide +kernel), List.mem_of_getElem? (i := 1650) (by decide +kernel)⟩
def lw_privs_3 : List (MethodName × Nat) := [(⟨"SaidOnce$Planner", "leadsOn", "(II)Z"⟩, 6), (⟨"SaidOnce$Planner", "unmark", "(II)V"⟩, 6), (⟨"SaidOnce$Search", "hearFromEach", "(II)V"⟩, 2), (⟨"SaidOnce$Search", "spreadAmong", "(II)I"⟩, 2), (⟨"SaidOnce$Search", "heardFromAll", "(I)I"⟩, 2), (⟨"SaidOnce", "comesAsTold", "(III)Z"⟩, 10), (⟨"SaidOnce", "lead", "(II)I"⟩, 10), (⟨"SaidOnce", "rowAgo", "(I)I"⟩, 10), (⟨"SaidOnceModel", "readAll", "(Z)I"⟩, 27), (⟨"SaidOnceModel", "uses", "()V"⟩, 27), (⟨"SaidOnceModel", "blanks", "()V"⟩, 27), (⟨"SaidOnceModel", "isAt", "(II)Z"⟩, 27), (⟨"SaidOnceModel", "readLine", "(ZI)Z"⟩, 27), (⟨"SaidOnceModel", "letters", "()V"⟩, 27), (⟨"SaidOnceModel", "readSchoolLine", "()Z"⟩, 27), (⟨"SaidOnceModel", "isWord", "(Ljava/lang/String;)Z"⟩, 27)]
theorem lw_r3 : ∀ q ∈ lw_privs_3, lw_okq q := List.forall_mem_cons.mpr ⟨lw_p32, List.forall_mem_cons.mpr ⟨lw_p33, List.forall_mem_cons.mpr ⟨lw_p34, List.forall_mem_cons.mpr ⟨lw_p35, List.forall_mem_cons.mpr ⟨lw_p36, List.forall_mem_cons.mpr ⟨lw_p37, List.forall_mem_cons.mpr ⟨lw_p38, List.forall_mem_cons.mpr ⟨lw_p39, List.forall_mem_cons.mpr ⟨lw_p40, List.forall_mem_cons.mpr ⟨lw_p41, List.forall_mem_cons.mpr ⟨lw_p42, List.forall_mem_cons.mpr ⟨lw_p43, List.forall_mem_cons.mpr ⟨lw_p44, List.forall_mem_cons.mpr ⟨lw_p45, List.forall_mem_cons.mpr ⟨lw_p46, List.forall_mem_cons.mpr ⟨lw_p47, fun _ h => absurd h List.not_mem_nil⟩⟩⟩⟩⟩⟩⟩⟩⟩⟩⟩⟩⟩⟩⟩⟩
theorem lw_p48 : lw_okq (⟨"SaidOnceModel", "readThing", "()Z"⟩, 27) := ⟨⟨by decide +kernel, by decide +kernel⟩, List.mem_of_getElem? (i := 1503) (by decide +kernel), List.mem_of_getElem? (i := 1655) (by decide +kernel), List.mem_of_getElem? (i := 1656) (by decide +kernel)⟩
theorem lw_p49 : lw_okq (⟨"SaidOnceModel", "things", "()I"⟩, 27) := ⟨⟨by decide +kernel, by decide +kernel⟩, List.mem_of_getElem? (i := 1503) (by decide +kernel), List.mem_of_getElem? (i := 1659) (by decide +kernel), List.mem_of_getElem? (i := 1660) (by decide +kernel)⟩
theorem lw_p50 : lw_okq (⟨"SaidOnceModel", "number", "(II)I"⟩, 27) := ⟨⟨by decide +kernel, by decide +kernel⟩, List.mem_of_getElem? (i := 1503) (by decide +kernel), List.mem_of_getElem? (i := 1663) (by decide +kernel), List.mem_of_getElem? (i := 1664) (by decide +kernel)⟩
theorem lw_p51 : lw_okq (⟨"SaidOnceModel", "readPerson", "()Z"⟩, 27) := ⟨⟨by decide +kernel, by decide +kernel⟩, List.mem_of_getElem? (i := 1503) (by decide +kernel), List.mem_of_getElem? (i := 1668) (by decide +kernel), List.mem_of_getElem? (i := 1669) (by decide +kernel)⟩
theorem lw_p52 : lw_okq (⟨"SaidOnceModel", "people", "()I"⟩, 27) := ⟨⟨by decide +kernel, by decide +kernel⟩, List.mem_of_getElem? (i := 1503) (by decide +kernel), List.mem_of_getElem? (i := 1672) (by decide +kernel), List.mem_of_getElem? (i := 1673) (by decide +kernel)⟩
theorem lw_p53 : lw_okq (⟨"SaidOnceModel", "sitter", "(II)I"⟩, 27) := ⟨⟨by decide +kernel, by decide +kernel⟩, List.mem_of_getElem? (i := 1503) (by decide +kernel), List.mem_of_getElem? (i := 1676) (by decide +kernel), List.mem_of_getElem? (i := 1677) (by decide +kernel)⟩
theorem lw_p54 : lw_okq (⟨"SaidOnceModel", "of", "(II)I"⟩, 27) := ⟨⟨by decide +kernel, by decide +kernel⟩, List.mem_of_getElem? (i := 1503) (by decide +kernel), List.mem_of_getElem? (i := 1680) (by decide +kernel), List.mem_of_getElem? (i := 1681) (by decide +kernel)⟩
theorem lw_p55 : lw_okq (⟨"SaidOnceModel", "after", "(Ljava/lang/String;II)I"⟩, 27) := ⟨⟨by decide +kernel, by decide +kernel⟩, List.mem_of_getElem? (i := 1503) (by decide +kernel), List.mem_of_getElem? (i := 1688) (by decide +kernel), List.mem_of_getElem? (i := 1689) (by decide +kernel)⟩
theorem lw_p56 : lw_okq (⟨"SaidOnceModel", "passes", "(Ljava/lang/String;)Z"⟩, 27) := ⟨⟨by decide +kernel, by decide +kernel⟩, List.mem_of_getElem? (i := 1503) (by decide +kernel), List.mem_of_getElem? (i := 1694) (by decide +kernel), List.mem_of_getElem? (i := 1695) (by decide +kernel)⟩
theorem lw_p57 : lw_okq (⟨"SaidOnceModel", "thingTold", "()I"⟩, 27) := ⟨⟨by decide +kernel, by decide +kernel⟩, List.mem_of_getElem? (i := 1503) (by decide +kernel), List.mem_of_getElem? (i := 1698) (by decide +kernel), List.mem_of_getElem? (i := 1699) (by decide +kernel)⟩
theorem lw_p58 : lw_okq (⟨"SaidOnceModel", "isFigure", "()Z"⟩, 27) := ⟨⟨by decide +kernel, by decide +kernel⟩, List.mem_of_getElem? (i := 1503) (by decide +kernel), List.mem_of_getElem? (i := 1702) (by decide +kernel), List.mem_of_getElem? (i := 1703) (by decide +kernel)⟩
theorem lw_p59 : lw_okq (⟨"SaidOnceModel", "readRule", "()Z"⟩, 27) := ⟨⟨by decide +kernel, by decide +kernel⟩, List.mem_of_getElem? (i := 1503) (by decide +kernel), List.mem_of_getElem? (i := 1707) (by decide +kernel), List.mem_of_getElem? (i := 1708) (by decide +kernel)⟩
theorem lw_p60 : lw_okq (⟨"SaidOnceModel", "rules", "()I"⟩, 27) := ⟨⟨by decide +kernel, by decide +kernel⟩, List.mem_of_getElem? (i := 1503) (by decide +kernel), List.mem_of_getElem? (i := 1711) (by decide +kernel), List.mem_of_getElem? (i := 1712) (by decide +kernel)⟩
theorem lw_p61 : lw_okq (⟨"SaidOnceModel", "readSaid", "()Z"⟩, 27) := ⟨⟨by decide +kernel, by decide +kernel⟩, List.mem_of_getElem? (i := 1503) (by decide +kernel), List.mem_of_getElem? (i := 1716) (by decide +kernel), List.mem_of_getElem? (i := 1717) (by decide +kernel)⟩
theorem lw_p62 : lw_okq (⟨"SaidOnceModel", "wordings", "(I)I"⟩, 27) := ⟨⟨by decide +kernel, by decide +kernel⟩, List.mem_of_getElem? (i := 1503) (by decide +kernel), List.mem_of_getElem? (i := 1720) (by decide +kernel), List.mem_of_getElem? (i := 1721) (by decide +kernel)⟩
theorem lw_p63 : lw_okq (⟨"SaidOnceModel", "readLawLine", "(I)Z"⟩, 27) := ⟨⟨by decide +kernel, by decide +kernel⟩, List.mem_of_getElem? (i := 1503) (by decide +kernel), List.mem_of_getElem? (i := 1726) (by decide +kernel), List.mem_of_getElem? (i := 1727) (by decide +kernel)⟩
def lw_privs_4 : List (MethodName × Nat) := [(⟨"SaidOnceModel", "readThing", "()Z"⟩, 27), (⟨"SaidOnceModel", "things", "()I"⟩, 27), (⟨"SaidOnceModel", "number", "(II)I"⟩, 27), (⟨"SaidOnceModel", "readPerson", "()Z"⟩, 27), (⟨"SaidOnceModel", "people", "()I"⟩, 27), (⟨"SaidOnceModel", "sitter", "(II)I"⟩, 27), (⟨"SaidOnceModel", "of", "(II)I"⟩, 27), (⟨"SaidOnceModel", "after", "(Ljava/lang/String;II)I"⟩, 27), (⟨"SaidOnceModel", "passes", "(Ljava/lang/String;)Z"⟩, 27), (⟨"SaidOnceModel", "thingTold", "()I"⟩, 27), (⟨"SaidOnceModel", "isFigure", "()Z"⟩, 27), (⟨"SaidOnceModel", "readRule", "()Z"⟩, 27), (⟨"SaidOnceModel", "rules", "()I"⟩, 27), (⟨"SaidOnceModel", "readSaid", "()Z"⟩, 27), (⟨"SaidOnceModel", "wordings", "(I)I"⟩, 27), (⟨"SaidOnceModel", "readLawLine", "(I)Z"⟩, 27)]
theorem lw_r4 : ∀ q ∈ lw_privs_4, lw_okq q := List.forall_mem_cons.mpr ⟨lw_p48, List.forall_mem_cons.mpr ⟨lw_p49, List.forall_mem_cons.mpr ⟨lw_p50, List.forall_mem_cons.mpr ⟨lw_p51, List.forall_mem_cons.mpr ⟨lw_p52, List.forall_mem_cons.mpr ⟨lw_p53, List.forall_mem_cons.mpr ⟨lw_p54, List.forall_mem_cons.mpr ⟨lw_p55, List.forall_mem_cons.mpr ⟨lw_p56, List.forall_mem_cons.mpr ⟨lw_p57, List.forall_mem_cons.mpr ⟨lw_p58, List.forall_mem_cons.mpr ⟨lw_p59, List.forall_mem_cons.mpr ⟨lw_p60, List.forall_mem_cons.mpr ⟨lw_p61, List.forall_mem_cons.mpr ⟨lw_p62, List.forall_mem_cons.mpr ⟨lw_p63, fun _ h => absurd h List.not_mem_nil⟩⟩⟩⟩⟩⟩⟩⟩⟩⟩⟩⟩⟩⟩⟩⟩
theorem lw_p64 : lw_okq (⟨"SaidOnceModel", "readCond", "()Z"⟩, 27) := ⟨⟨by decide +kernel, by decide +kernel⟩, List.mem_of_getElem? (i := 1503) (by decide +kernel), List.mem_of_getElem? (i := 1734) (by decide +kernel), List.mem_of_getElem? (i := 1735) (by decide +kernel)⟩
theorem lw_p65 : lw_okq (⟨"SaidOnceModel", "readAllOf", "()Z"⟩, 27) := ⟨⟨by decide +kernel, by decide +kernel⟩, List.mem_of_getElem? (i := 1503) (by decide +kernel), List.mem_of_getElem? (i := 1738) (by decide +kernel), List.mem_of_getElem? (i := 1739) (by decide +kernel)⟩
theorem lw_p66 : lw_okq (⟨"SaidOnceModel", "readAtom", "()Z"⟩, 27) := ⟨⟨by decide +kernel, by decide +kernel⟩, List.mem_of_getElem? (i := 1503) (by decide +kernel), List.mem_of_getElem? (i := 1742) (by decide +kernel), List.mem_of_getElem? (i := 1743) (by decide +kernel)⟩
theorem lw_p67 : lw_okq (⟨"SaidOnceModel", "sign", "(I)Z"⟩, 27) := ⟨⟨by decide +kernel, by decide +kernel⟩, List.mem_of_getElem? (i := 1503) (by decide +kernel), List.mem_of_getElem? (i := 1746) (by decide +kernel), List.mem_of_getElem? (i := 1747) (by decide +kernel)⟩
theorem lw_p68 : lw_okq (⟨"SaidOnceModel", "emits", "(II)V"⟩, 27) := ⟨⟨by decide +kernel, by decide +kernel⟩, List.mem_of_getElem? (i := 1503) (by decide +kernel), List.mem_of_getElem? (i := 1751) (by decide +kernel), List.mem_of_getElem? (i := 1752) (by decide +kernel)⟩
theorem lw_p69 : lw_okq (⟨"SaidOnceModel", "readSum", "()Z"⟩, 27) := ⟨⟨by decide +kernel, by decide +kernel⟩, List.mem_of_getElem? (i := 1503) (by decide +kernel), List.mem_of_getElem? (i := 1756) (by decide +kernel), List.mem_of_getElem? (i := 1757) (by decide +kernel)⟩
theorem lw_p70 : lw_okq (⟨"SaidOnceModel", "readPart", "()Z"⟩, 27) := ⟨⟨by decide +kernel, by decide +kernel⟩, List.mem_of_getElem? (i := 1503) (by decide +kernel), List.mem_of_getElem? (i := 1760) (by decide +kernel), List.mem_of_getElem? (i := 1761) (by decide +kernel)⟩
theorem lw_p71 : lw_okq (⟨"SaidOnceModel", "throwsIf", "(ZI)Z"⟩, 27) := ⟨⟨by decide +kernel, by decide +kernel⟩, List.mem_of_getElem? (i := 1503) (by decide +kernel), List.mem_of_getElem? (i := 1771) (by decide +kernel), List.mem_of_getElem? (i := 1772) (by decide +kernel)⟩
theorem lw_p72 : lw_okq (⟨"SaidOnceModel", "noPerson", "(I)Z"⟩, 27) := ⟨⟨by decide +kernel, by decide +kernel⟩, List.mem_of_getElem? (i := 1503) (by decide +kernel), List.mem_of_getElem? (i := 1783) (by decide +kernel), List.mem_of_getElem? (i := 1784) (by decide +kernel)⟩
theorem lw_p73 : lw_okq (⟨"SaidOnceModel", "noWording", "(II)Z"⟩, 27) := ⟨⟨by decide +kernel, by decide +kernel⟩, List.mem_of_getElem? (i := 1503) (by decide +kernel), List.mem_of_getElem? (i := 1790) (by decide +kernel), List.mem_of_getElem? (i := 1791) (by decide +kernel)⟩
theorem lw_p74 : lw_okq (⟨"SaidOnceModel", "noThing", "(I)Z"⟩, 27) := ⟨⟨by decide +kernel, by decide +kernel⟩, List.mem_of_getElem? (i := 1503) (by decide +kernel), List.mem_of_getElem? (i := 1794) (by decide +kernel), List.mem_of_getElem? (i := 1795) (by decide +kernel)⟩
theorem lw_p75 : lw_okq (⟨"SaidOnceModel", "takes", "(III)I"⟩, 27) := ⟨⟨by decide +kernel, by decide +kernel⟩, List.mem_of_getElem? (i := 1503) (by decide +kernel), List.mem_of_getElem? (i := 1801) (by decide +kernel), List.mem_of_getElem? (i := 1802) (by decide +kernel)⟩
theorem lw_p76 : lw_okq (⟨"SaidOnceModel", "isHere", "(I)Z"⟩, 27) := ⟨⟨by decide +kernel, by decide +kernel⟩, List.mem_of_getElem? (i := 1503) (by decide +kernel), List.mem_of_getElem? (i := 1805) (by decide +kernel), List.mem_of_getElem? (i := 1806) (by decide +kernel)⟩
theorem lw_p77 : lw_okq (⟨"SaidOnceModel", "isHeard", "(III)Z"⟩, 27) := ⟨⟨by decide +kernel, by decide +kernel⟩, List.mem_of_getElem? (i := 1503) (by decide +kernel), List.mem_of_getElem? (i := 1809) (by decide +kernel), List.mem_of_getElem? (i := 1810) (by decide +kernel)⟩
theorem lw_p78 : lw_okq (⟨"SaidOnceModel", "sumOf", "(IIII)I"⟩, 27) := ⟨⟨by decide +kernel, by decide +kernel⟩, List.mem_of_getElem? (i := 1503) (by decide +kernel), List.mem_of_getElem? (i := 1813) (by decide +kernel), List.mem_of_getElem? (i := 1814) (by decide +kernel)⟩
theorem lw_p79 : lw_okq (⟨"SaidOnceModel", "holdsLine", "(IIII)Z"⟩, 27) := ⟨⟨by decide +kernel, by decide +kernel⟩, List.mem_of_getElem? (i := 1503) (by decide +kernel), List.mem_of_getElem? (i := 1817) (by decide +kernel), List.mem_of_getElem? (i := 1818) (by decide +kernel)⟩
def lw_privs_5 : List (MethodName × Nat) := [(⟨"SaidOnceModel", "readCond", "()Z"⟩, 27), (⟨"SaidOnceModel", "readAllOf", "()Z"⟩, 27), (⟨"SaidOnceModel", "readAtom", "()Z"⟩, 27), (⟨"SaidOnceModel", "sign", "(I)Z"⟩, 27), (⟨"SaidOnceModel", "emits", "(II)V"⟩, 27), (⟨"SaidOnceModel", "readSum", "()Z"⟩, 27), (⟨"SaidOnceModel", "readPart", "()Z"⟩, 27), (⟨"SaidOnceModel", "throwsIf", "(ZI)Z"⟩, 27), (⟨"SaidOnceModel", "noPerson", "(I)Z"⟩, 27), (⟨"SaidOnceModel", "noWording", "(II)Z"⟩, 27), (⟨"SaidOnceModel", "noThing", "(I)Z"⟩, 27), (⟨"SaidOnceModel", "takes", "(III)I"⟩, 27), (⟨"SaidOnceModel", "isHere", "(I)Z"⟩, 27), (⟨"SaidOnceModel", "isHeard", "(III)Z"⟩, 27), (⟨"SaidOnceModel", "sumOf", "(IIII)I"⟩, 27), (⟨"SaidOnceModel", "holdsLine", "(IIII)Z"⟩, 27)]
theorem lw_r5 : ∀ q ∈ lw_privs_5, lw_okq q := List.forall_mem_cons.mpr ⟨lw_p64, List.forall_mem_cons.mpr ⟨lw_p65, List.forall_mem_cons.mpr ⟨lw_p66, List.forall_mem_cons.mpr ⟨lw_p67, List.forall_mem_cons.mpr ⟨lw_p68, List.forall_mem_cons.mpr ⟨lw_p69, List.forall_mem_cons.mpr ⟨lw_p70, List.forall_mem_cons.mpr ⟨lw_p71, List.forall_mem_cons.mpr ⟨lw_p72, List.forall_mem_cons.mpr ⟨lw_p73, List.forall_mem_cons.mpr ⟨lw_p74, List.forall_mem_cons.mpr ⟨lw_p75, List.forall_mem_cons.mpr ⟨lw_p76, List.forall_mem_cons.mpr ⟨lw_p77, List.forall_mem_cons.mpr ⟨lw_p78, List.forall_mem_cons.mpr ⟨lw_p79, fun _ h => absurd h List.not_mem_nil⟩⟩⟩⟩⟩⟩⟩⟩⟩⟩⟩⟩⟩⟩⟩⟩
theorem lw_p80 : lw_okq (⟨"SaidOnceModel", "factOf", "(IIIII)I"⟩, 27) := ⟨⟨by decide +kernel, by decide +kernel⟩, List.mem_of_getElem? (i := 1503) (by decide +kernel), List.mem_of_getElem? (i := 1821) (by decide +kernel), List.mem_of_getElem? (i := 1822) (by decide +kernel)⟩
theorem lw_p81 : lw_okq (⟨"SaidOnceModel", "apartOf", "(II)I"⟩, 27) := ⟨⟨by decide +kernel, by decide +kernel⟩, List.mem_of_getElem? (i := 1503) (by decide +kernel), List.mem_of_getElem? (i := 1825) (by decide +kernel), List.mem_of_getElem? (i := 1826) (by decide +kernel)⟩
theorem lw_p82 : lw_okq (⟨"SaidOnceModel", "knows", "(II)Z"⟩, 27) := ⟨⟨by decide +kernel, by decide +kernel⟩, List.mem_of_getElem? (i := 1503) (by decide +kernel), List.mem_of_getElem? (i := 1831) (by decide +kernel), List.mem_of_getElem? (i := 1832) (by decide +kernel)⟩
theorem lw_p83 : lw_okq (⟨"SaidOnceModel", "takenAs", "(III)I"⟩, 27) := ⟨⟨by decide +kernel, by decide +kernel⟩, List.mem_of_getElem? (i := 1503) (by decide +kernel), List.mem_of_getElem? (i := 1838) (by decide +kernel), List.mem_of_getElem? (i := 1839) (by decide +kernel)⟩
theorem lw_p84 : lw_okq (⟨"SaidOnceModel", "hearers", "(IIZ)I"⟩, 27) := ⟨⟨by decide +kernel, by decide +kernel⟩, List.mem_of_getElem? (i := 1503) (by decide +kernel), List.mem_of_getElem? (i := 1846) (by decide +kernel), List.mem_of_getElem? (i := 1847) (by decide +kernel)⟩
theorem lw_p85 : lw_okq (⟨"SaidOnceModel", "leftOf", "(I)I"⟩, 27) := ⟨⟨by decide +kernel, by decide +kernel⟩, List.mem_of_getElem? (i := 1503) (by decide +kernel), List.mem_of_getElem? (i := 1854) (by decide +kernel), List.mem_of_getElem? (i := 1855) (by decide +kernel)⟩
theorem lw_p86 : lw_okq (⟨"SaidOnceModel", "isSaid", "(II)Z"⟩, 27) := ⟨⟨by decide +kernel, by decide +kernel⟩, List.mem_of_getElem? (i := 1503) (by decide +kernel), List.mem_of_getElem? (i := 1858) (by decide +kernel), List.mem_of_getElem? (i := 1859) (by decide +kernel)⟩
theorem lw_p87 : lw_okq (⟨"SaidOnceModel", "knowers", "(I)I"⟩, 27) := ⟨⟨by decide +kernel, by decide +kernel⟩, List.mem_of_getElem? (i := 1503) (by decide +kernel), List.mem_of_getElem? (i := 1862) (by decide +kernel), List.mem_of_getElem? (i := 1863) (by decide +kernel)⟩
theorem lw_p88 : lw_okq (⟨"SaidOnceModel", "sourcesOf", "(I)I"⟩, 27) := ⟨⟨by decide +kernel, by decide +kernel⟩, List.mem_of_getElem? (i := 1503) (by decide +kernel), List.mem_of_getElem? (i := 1866) (by decide +kernel), List.mem_of_getElem? (i := 1867) (by decide +kernel)⟩
theorem lw_p89 : lw_okq (⟨"SaidOnceModel", "closes", "(I)I"⟩, 27) := ⟨⟨by decide +kernel, by decide +kernel⟩, List.mem_of_getElem? (i := 1503) (by decide +kernel), List.mem_of_getElem? (i := 1871) (by decide +kernel), List.mem_of_getElem? (i := 1872) (by decide +kernel)⟩
theorem lw_p90 : lw_okq (⟨"SaidOnceModel", "ofRule", "(II)I"⟩, 27) := ⟨⟨by decide +kernel, by decide +kernel⟩, List.mem_of_getElem? (i := 1503) (by decide +kernel), List.mem_of_getElem? (i := 1875) (by decide +kernel), List.mem_of_getElem? (i := 1876) (by decide +kernel)⟩
theorem lw_p91 : lw_okq (⟨"SaidOnceModel", "lostBy", "(I)I"⟩, 27) := ⟨⟨by decide +kernel, by decide +kernel⟩, List.mem_of_getElem? (i := 1503) (by decide +kernel), List.mem_of_getElem? (i := 1883) (by decide +kernel), List.mem_of_getElem? (i := 1884) (by decide +kernel)⟩
theorem lw_p92 : lw_okq (⟨"SaidOnceModel", "canSay", "(III)Z"⟩, 27) := ⟨⟨by decide +kernel, by decide +kernel⟩, List.mem_of_getElem? (i := 1503) (by decide +kernel), List.mem_of_getElem? (i := 1903) (by decide +kernel), List.mem_of_getElem? (i := 1904) (by decide +kernel)⟩
theorem lw_p93 : lw_okq (⟨"SaidOnceModel", "remembers", "()V"⟩, 27) := ⟨⟨by decide +kernel, by decide +kernel⟩, List.mem_of_getElem? (i := 1503) (by decide +kernel), List.mem_of_getElem? (i := 1907) (by decide +kernel), List.mem_of_getElem? (i := 1908) (by decide +kernel)⟩
theorem lw_p94 : lw_okq (⟨"SaidOnceModel", "says", "(II)I"⟩, 27) := ⟨⟨by decide +kernel, by decide +kernel⟩, List.mem_of_getElem? (i := 1503) (by decide +kernel), List.mem_of_getElem? (i := 1911) (by decide +kernel), List.mem_of_getElem? (i := 1912) (by decide +kernel)⟩
theorem lw_p95 : lw_okq (⟨"SaidOnceModel", "draw", "(I)I"⟩, 27) := ⟨⟨by decide +kernel, by decide +kernel⟩, List.mem_of_getElem? (i := 1503) (by decide +kernel), List.mem_of_getElem? (i := 1915) (by decide +kernel), List.mem_of_getElem? (i := 1916) (by decide +kernel)⟩
def lw_privs_6 : List (MethodName × Nat) := [(⟨"SaidOnceModel", "factOf", "(IIIII)I"⟩, 27), (⟨"SaidOnceModel", "apartOf", "(II)I"⟩, 27), (⟨"SaidOnceModel", "knows", "(II)Z"⟩, 27), (⟨"SaidOnceModel", "takenAs", "(III)I"⟩, 27), (⟨"SaidOnceModel", "hearers", "(IIZ)I"⟩, 27), (⟨"SaidOnceModel", "leftOf", "(I)I"⟩, 27), (⟨"SaidOnceModel", "isSaid", "(II)Z"⟩, 27), (⟨"SaidOnceModel", "knowers", "(I)I"⟩, 27), (⟨"SaidOnceModel", "sourcesOf", "(I)I"⟩, 27), (⟨"SaidOnceModel", "closes", "(I)I"⟩, 27), (⟨"SaidOnceModel", "ofRule", "(II)I"⟩, 27), (⟨"SaidOnceModel", "lostBy", "(I)I"⟩, 27), (⟨"SaidOnceModel", "canSay", "(III)Z"⟩, 27), (⟨"SaidOnceModel", "remembers", "()V"⟩, 27), (⟨"SaidOnceModel", "says", "(II)I"⟩, 27), (⟨"SaidOnceModel", "draw", "(I)I"⟩, 27)]
theorem lw_r6 : ∀ q ∈ lw_privs_6, lw_okq q := List.forall_mem_cons.mpr ⟨lw_p80, List.forall_mem_cons.mpr ⟨lw_p81, List.forall_mem_cons.mpr ⟨lw_p82, List.forall_mem_cons.mpr ⟨lw_p83, List.forall_mem_cons.mpr ⟨lw_p84, List.forall_mem_cons.mpr ⟨lw_p85, List.forall_mem_cons.mpr ⟨lw_p86, List.forall_mem_cons.mpr ⟨lw_p87, List.forall_mem_cons.mpr ⟨lw_p88, List.forall_mem_cons.mpr ⟨lw_p89, List.forall_mem_cons.mpr ⟨lw_p90, List.forall_mem_cons.mpr ⟨lw_p91, List.forall_mem_cons.mpr ⟨lw_p92, List.forall_mem_cons.mpr ⟨lw_p93, List.forall_mem_cons.mpr ⟨lw_p94, List.forall_mem_cons.mpr ⟨lw_p95, fun _ h => absurd h List.not_mem_nil⟩⟩⟩⟩⟩⟩⟩⟩⟩⟩⟩⟩⟩⟩⟩⟩
theorem lw_p96 : lw_okq (⟨"SaidOnceModel", "tells", "(IIZ)V"⟩, 27) := ⟨⟨by decide +kernel, by decide +kernel⟩, List.mem_of_getElem? (i := 1503) (by decide +kernel), List.mem_of_getElem? (i := 1920) (by decide +kernel), List.mem_of_getElem? (i := 1921) (by decide +kernel)⟩
theorem lw_p97 : lw_okq (⟨"SaidOnceModel", "learns", "(II)V"⟩, 27) := ⟨⟨by decide +kernel, by decide +kernel⟩, List.mem_of_getElem? (i := 1503) (by decide +kernel), List.mem_of_getElem? (i := 1925) (by decide +kernel), List.mem_of_getElem? (i := 1926) (by decide +kernel)⟩
theorem lw_p98 : lw_okq (⟨"SaidOnceModel", "ofLog", "(II)I"⟩, 27) := ⟨⟨by decide +kernel, by decide +kernel⟩, List.mem_of_getElem? (i := 1503) (by decide +kernel), List.mem_of_getElem? (i := 1929) (by decide +kernel), List.mem_of_getElem? (i := 1930) (by decide +kernel)⟩
theorem lw_p99 : lw_okq (⟨"SaidOnceModel", "trades", "(II)V"⟩, 27) := ⟨⟨by decide +kernel, by decide +kernel⟩, List.mem_of_getElem? (i := 1503) (by decide +kernel), List.mem_of_getElem? (i := 1945) (by decide +kernel), List.mem_of_getElem? (i := 1946) (by decide +kernel)⟩
theorem lw_p100 : lw_okq (⟨"SaidOnceModel", "here", "()I"⟩, 27) := ⟨⟨by decide +kernel, by decide +kernel⟩, List.mem_of_getElem? (i := 1503) (by decide +kernel), List.mem_of_getElem? (i := 1953) (by decide +kernel), List.mem_of_getElem? (i := 1954) (by decide +kernel)⟩
theorem lw_p101 : lw_okq (⟨"SaidOnceModel", "sayings", "(I)I"⟩, 27) := ⟨⟨by decide +kernel, by decide +kernel⟩, List.mem_of_getElem? (i := 1503) (by decide +kernel), List.mem_of_getElem? (i := 1961) (by decide +kernel), List.mem_of_getElem? (i := 1962) (by decide +kernel)⟩
theorem lw_p102 : lw_okq (⟨"SaidOnceModel", "firstLeft", "(I)I"⟩, 27) := ⟨⟨by decide +kernel, by decide +kernel⟩, List.mem_of_getElem? (i := 1503) (by decide +kernel), List.mem_of_getElem? (i := 1965) (by decide +kernel), List.mem_of_getElem? (i := 1966) (by decide +kernel)⟩
theorem lw_p103 : lw_okq (⟨"SaidOnceModel", "knownHere", "()I"⟩, 27) := ⟨⟨by decide +kernel, by decide +kernel⟩, List.mem_of_getElem? (i := 1503) (by decide +kernel), List.mem_of_getElem? (i := 1973) (by decide +kernel), List.mem_of_getElem? (i := 1974) (by decide +kernel)⟩
theorem lw_p104 : lw_okq (⟨"SaidOnceModel", "silentThings", "()I"⟩, 27) := ⟨⟨by decide +kernel, by decide +kernel⟩, List.mem_of_getElem? (i := 1503) (by decide +kernel), List.mem_of_getElem? (i := 1977) (by decide +kernel), List.mem_of_getElem? (i := 1978) (by decide +kernel)⟩
theorem lw_p105 : lw_okq (⟨"SaidOnceModel", "plans", "(I)I"⟩, 27) := ⟨⟨by decide +kernel, by decide +kernel⟩, List.mem_of_getElem? (i := 1503) (by decide +kernel), List.mem_of_getElem? (i := 1993) (by decide +kernel), List.mem_of_getElem? (i := 1994) (by decide +kernel)⟩
theorem lw_p106 : lw_okq (⟨"SaidOnceModel", "laysRight", "(I)V"⟩, 27) := ⟨⟨by decide +kernel, by decide +kernel⟩, List.mem_of_getElem? (i := 1503) (by decide +kernel), List.mem_of_getElem? (i := 1997) (by decide +kernel), List.mem_of_getElem? (i := 1998) (by decide +kernel)⟩
theorem lw_p107 : lw_okq (⟨"SaidOnceModel", "saidOf", "(I)I"⟩, 27) := ⟨⟨by decide +kernel, by decide +kernel⟩, List.mem_of_getElem? (i := 1503) (by decide +kernel), List.mem_of_getElem? (i := 2004) (by decide +kernel), List.mem_of_getElem? (i := 2005) (by decide +kernel)⟩
theorem lw_p108 : lw_okq (⟨"SaidOnceModel", "leastStep", "(II)I"⟩, 27) := ⟨⟨by decide +kernel, by decide +kernel⟩, List.mem_of_getElem? (i := 1503) (by decide +kernel), List.mem_of_getElem? (i := 2011) (by decide +kernel), List.mem_of_getElem? (i := 2012) (by decide +kernel)⟩
theorem lw_p109 : lw_okq (⟨"SaidOnceModel", "canStep", "(IIII)Z"⟩, 27) := ⟨⟨by decide +kernel, by decide +kernel⟩, List.mem_of_getElem? (i := 1503) (by decide +kernel), List.mem_of_getElem? (i := 2015) (by decide +kernel), List.mem_of_getElem? (i := 2016) (by decide +kernel)⟩
theorem lw_p110 : lw_okq (⟨"SaidOnceModel", "byStep", "(IIII)I"⟩, 27) := ⟨⟨by decide +kernel, by decide +kernel⟩, List.mem_of_getElem? (i := 1503) (by decide +kernel), List.mem_of_getElem? (i := 2019) (by decide +kernel), List.mem_of_getElem? (i := 2020) (by decide +kernel)⟩
theorem lw_p111 : lw_okq (⟨"SaidOnceModel", "firstStep", "(I)I"⟩, 27) := ⟨⟨by decide +kernel, by decide +kernel⟩, List.mem_of_getElem? (i := 1503) (by decide +kernel), List.mem_of_getElem? (i := 2023) (by decide +kernel), List.mem_of_getElem? (i := 2024) (by decide +kernel)⟩
def lw_privs_7 : List (MethodName × Nat) := [(⟨"SaidOnceModel", "tells", "(IIZ)V"⟩, 27), (⟨"SaidOnceModel", "learns", "(II)V"⟩, 27), (⟨"SaidOnceModel", "ofLog", "(II)I"⟩, 27), (⟨"SaidOnceModel", "trades", "(II)V"⟩, 27), (⟨"SaidOnceModel", "here", "()I"⟩, 27), (⟨"SaidOnceModel", "sayings", "(I)I"⟩, 27), (⟨"SaidOnceModel", "firstLeft", "(I)I"⟩, 27), (⟨"SaidOnceModel", "knownHere", "()I"⟩, 27), (⟨"SaidOnceModel", "silentThings", "()I"⟩, 27), (⟨"SaidOnceModel", "plans", "(I)I"⟩, 27), (⟨"SaidOnceModel", "laysRight", "(I)V"⟩, 27), (⟨"SaidOnceModel", "saidOf", "(I)I"⟩, 27), (⟨"SaidOnceModel", "leastStep", "(II)I"⟩, 27), (⟨"SaidOnceModel", "canStep", "(IIII)Z"⟩, 27), (⟨"SaidOnceModel", "byStep", "(IIII)I"⟩, 27), (⟨"SaidOnceModel", "firstStep", "(I)I"⟩, 27)]
theorem lw_r7 : ∀ q ∈ lw_privs_7, lw_okq q := List.forall_mem_cons.mpr ⟨lw_p96, List.forall_mem_cons.mpr ⟨lw_p97, List.forall_mem_cons.mpr ⟨lw_p98, List.forall_mem_cons.mpr ⟨lw_p99, List.forall_mem_cons.mpr ⟨lw_p100, List.forall_mem_cons.mpr ⟨lw_p101, List.forall_mem_cons.mpr ⟨lw_p102, List.forall_mem_cons.mpr ⟨lw_p103, List.forall_mem_cons.mpr ⟨lw_p104, List.forall_mem_cons.mpr ⟨lw_p105, List.forall_mem_cons.mpr ⟨lw_p106, List.forall_mem_cons.mpr ⟨lw_p107, List.forall_mem_cons.mpr ⟨lw_p108, List.forall_mem_cons.mpr ⟨lw_p109, List.forall_mem_cons.mpr ⟨lw_p110, List.forall_mem_cons.mpr ⟨lw_p111, fun _ h => absurd h List.not_mem_nil⟩⟩⟩⟩⟩⟩⟩⟩⟩⟩⟩⟩⟩⟩⟩⟩
theorem lw_p112 : lw_okq (⟨"SaidOnceModel", "laysTeaches", "(I)V"⟩, 27) := ⟨⟨by decide +kernel, by decide +kernel⟩, List.mem_of_getElem? (i := 1503) (by decide +kernel), List.mem_of_getElem? (i := 2031) (by decide +kernel), List.mem_of_getElem? (i := 2032) (by decide +kernel)⟩
theorem lw_p113 : lw_okq (⟨"SaidOnceModel", "spreads", "(II)I"⟩, 27) := ⟨⟨by decide +kernel, by decide +kernel⟩, List.mem_of_getElem? (i := 1503) (by decide +kernel), List.mem_of_getElem? (i := 2035) (by decide +kernel), List.mem_of_getElem? (i := 2036) (by decide +kernel)⟩
theorem lw_p114 : lw_okq (⟨"SaidOnceModel", "comesSo", "(II)Z"⟩, 27) := ⟨⟨by decide +kernel, by decide +kernel⟩, List.mem_of_getElem? (i := 1503) (by decide +kernel), List.mem_of_getElem? (i := 2047) (by decide +kernel), List.mem_of_getElem? (i := 2048) (by decide +kernel)⟩
theorem lw_p115 : lw_okq (⟨"SaidOnceModel", "nothingSaid", "(I)Z"⟩, 27) := ⟨⟨by decide +kernel, by decide +kernel⟩, List.mem_of_getElem? (i := 1503) (by decide +kernel), List.mem_of_getElem? (i := 2055) (by decide +kernel), List.mem_of_getElem? (i := 2056) (by decide +kernel)⟩
theorem lw_p116 : lw_okq (⟨"SaidOnceModel", "keepsAll", "()V"⟩, 27) := ⟨⟨by decide +kernel, by decide +kernel⟩, List.mem_of_getElem? (i := 1503) (by decide +kernel), List.mem_of_getElem? (i := 2063) (by decide +kernel), List.mem_of_getElem? (i := 2064) (by decide +kernel)⟩
theorem lw_p117 : lw_okq (⟨"SaidOnceModel", "goesThrough", "()Z"⟩, 27) := ⟨⟨by decide +kernel, by decide +kernel⟩, List.mem_of_getElem? (i := 1503) (by decide +kernel), List.mem_of_getElem? (i := 2067) (by decide +kernel), List.mem_of_getElem? (i := 2068) (by decide +kernel)⟩
theorem lw_p118 : lw_okq (⟨"SaidOnceModel", "saysAll", "(II)Z"⟩, 27) := ⟨⟨by decide +kernel, by decide +kernel⟩, List.mem_of_getElem? (i := 1503) (by decide +kernel), List.mem_of_getElem? (i := 2071) (by decide +kernel), List.mem_of_getElem? (i := 2072) (by decide +kernel)⟩
theorem lw_p119 : lw_okq (⟨"SaidOnceModel", "bringsBack", "()V"⟩, 27) := ⟨⟨by decide +kernel, by decide +kernel⟩, List.mem_of_getElem? (i := 1503) (by decide +kernel), List.mem_of_getElem? (i := 2075) (by decide +kernel), List.mem_of_getElem? (i := 2076) (by decide +kernel)⟩
theorem lw_p120 : lw_okq (⟨"SaidOnceModel", "alikeOf", "(II)I"⟩, 27) := ⟨⟨by decide +kernel, by decide +kernel⟩, List.mem_of_getElem? (i := 1503) (by decide +kernel), List.mem_of_getElem? (i := 2083) (by decide +kernel), List.mem_of_getElem? (i := 2084) (by decide +kernel)⟩
theorem lw_p121 : lw_okq (⟨"SaidOnceModel", "groupOf", "(I)I"⟩, 27) := ⟨⟨by decide +kernel, by decide +kernel⟩, List.mem_of_getElem? (i := 1503) (by decide +kernel), List.mem_of_getElem? (i := 2096) (by decide +kernel), List.mem_of_getElem? (i := 2097) (by decide +kernel)⟩
theorem lw_p122 : lw_okq (⟨"SaidOnceModel", "marginOf", "(II)I"⟩, 27) := ⟨⟨by decide +kernel, by decide +kernel⟩, List.mem_of_getElem? (i := 1503) (by decide +kernel), List.mem_of_getElem? (i := 2104) (by decide +kernel), List.mem_of_getElem? (i := 2105) (by decide +kernel)⟩
theorem lw_p123 : lw_okq (⟨"SaidOnceModel", "leftIn", "(I)I"⟩, 27) := ⟨⟨by decide +kernel, by decide +kernel⟩, List.mem_of_getElem? (i := 1503) (by decide +kernel), List.mem_of_getElem? (i := 2108) (by decide +kernel), List.mem_of_getElem? (i := 2109) (by decide +kernel)⟩
theorem lw_p124 : lw_okq (⟨"SaidOnceModel", "mostBy", "(II)I"⟩, 27) := ⟨⟨by decide +kernel, by decide +kernel⟩, List.mem_of_getElem? (i := 1503) (by decide +kernel), List.mem_of_getElem? (i := 2120) (by decide +kernel), List.mem_of_getElem? (i := 2121) (by decide +kernel)⟩
theorem lw_p125 : lw_okq (⟨"SaidOnceModel", "rowOf", "(III)I"⟩, 27) := ⟨⟨by decide +kernel, by decide +kernel⟩, List.mem_of_getElem? (i := 1503) (by decide +kernel), List.mem_of_getElem? (i := 2136) (by decide +kernel), List.mem_of_getElem? (i := 2137) (by decide +kernel)⟩
theorem lw_p126 : lw_okq (⟨"SaidOnceModel", "taught", "(I)I"⟩, 27) := ⟨⟨by decide +kernel, by decide +kernel⟩, List.mem_of_getElem? (i := 1503) (by decide +kernel), List.mem_of_getElem? (i := 2144) (by decide +kernel), List.mem_of_getElem? (i := 2145) (by decide +kernel)⟩
theorem lw_p127 : lw_okq (⟨"SaidOnceModel", "isHeardAt", "(IIIII)Z"⟩, 27) := ⟨⟨by decide +kernel, by decide +kernel⟩, List.mem_of_getElem? (i := 1503) (by decide +kernel), List.mem_of_getElem? (i := 2156) (by decide +kernel), List.mem_of_getElem? (i := 2157) (by decide +kernel)⟩
def lw_privs_8 : List (MethodName × Nat) := [(⟨"SaidOnceModel", "laysTeaches", "(I)V"⟩, 27), (⟨"SaidOnceModel", "spreads", "(II)I"⟩, 27), (⟨"SaidOnceModel", "comesSo", "(II)Z"⟩, 27), (⟨"SaidOnceModel", "nothingSaid", "(I)Z"⟩, 27), (⟨"SaidOnceModel", "keepsAll", "()V"⟩, 27), (⟨"SaidOnceModel", "goesThrough", "()Z"⟩, 27), (⟨"SaidOnceModel", "saysAll", "(II)Z"⟩, 27), (⟨"SaidOnceModel", "bringsBack", "()V"⟩, 27), (⟨"SaidOnceModel", "alikeOf", "(II)I"⟩, 27), (⟨"SaidOnceModel", "groupOf", "(I)I"⟩, 27), (⟨"SaidOnceModel", "marginOf", "(II)I"⟩, 27), (⟨"SaidOnceModel", "leftIn", "(I)I"⟩, 27), (⟨"SaidOnceModel", "mostBy", "(II)I"⟩, 27), (⟨"SaidOnceModel", "rowOf", "(III)I"⟩, 27), (⟨"SaidOnceModel", "taught", "(I)I"⟩, 27), (⟨"SaidOnceModel", "isHeardAt", "(IIIII)Z"⟩, 27)]
theorem lw_r8 : ∀ q ∈ lw_privs_8, lw_okq q := List.forall_mem_cons.mpr ⟨lw_p112, List.forall_mem_cons.mpr ⟨lw_p113, List.forall_mem_cons.mpr ⟨lw_p114, List.forall_mem_cons.mpr ⟨lw_p115, List.forall_mem_cons.mpr ⟨lw_p116, List.forall_mem_cons.mpr ⟨lw_p117, List.forall_mem_cons.mpr ⟨lw_p118, List.forall_mem_cons.mpr ⟨lw_p119, List.forall_mem_cons.mpr ⟨lw_p120, List.forall_mem_cons.mpr ⟨lw_p121, List.forall_mem_cons.mpr ⟨lw_p122, List.forall_mem_cons.mpr ⟨lw_p123, List.forall_mem_cons.mpr ⟨lw_p124, List.forall_mem_cons.mpr ⟨lw_p125, List.forall_mem_cons.mpr ⟨lw_p126, List.forall_mem_cons.mpr ⟨lw_p127, fun _ h => absurd h List.not_mem_nil⟩⟩⟩⟩⟩⟩⟩⟩⟩⟩⟩⟩⟩⟩⟩⟩
theorem lw_p128 : lw_okq (⟨"SaidOnceModel", "reached", "(II)I"⟩, 27) := ⟨⟨by decide +kernel, by decide +kernel⟩, List.mem_of_getElem? (i := 1503) (by decide +kernel), List.mem_of_getElem? (i := 2164) (by decide +kernel), List.mem_of_getElem? (i := 2165) (by decide +kernel)⟩
theorem lw_p129 : lw_okq (⟨"SaidOnceModel", "takenBy", "(III)I"⟩, 27) := ⟨⟨by decide +kernel, by decide +kernel⟩, List.mem_of_getElem? (i := 1503) (by decide +kernel), List.mem_of_getElem? (i := 2176) (by decide +kernel), List.mem_of_getElem? (i := 2177) (by decide +kernel)⟩
def lw_privs_9 : List (MethodName × Nat) := [(⟨"SaidOnceModel", "reached", "(II)I"⟩, 27), (⟨"SaidOnceModel", "takenBy", "(III)I"⟩, 27)]
theorem lw_r9 : ∀ q ∈ lw_privs_9, lw_okq q := List.forall_mem_cons.mpr ⟨lw_p128, List.forall_mem_cons.mpr ⟨lw_p129, fun _ h => absurd h List.not_mem_nil⟩⟩
def lw_privs : List (MethodName × Nat) := lw_privs_1 ++ (lw_privs_2 ++ (lw_privs_3 ++ (lw_privs_4 ++ (lw_privs_5 ++ (lw_privs_6 ++ (lw_privs_7 ++ (lw_privs_8 ++ (lw_privs_9))))))))
def lw_tbl : List Cond := k2_sels lw_privs ++ tables_1
theorem lw_privs_ok : ∀ q ∈ lw_privs, lw_okq q := by
  show ∀ q ∈ lw_privs_1 ++ (lw_privs_2 ++ (lw_privs_3 ++ (lw_privs_4 ++ (lw_privs_5 ++ (lw_privs_6 ++ (lw_privs_7 ++ (lw_privs_8 ++ (lw_privs_9)))))))), lw_okq q
  exact List.forall_mem_append.mpr ⟨lw_r1, List.forall_mem_append.mpr ⟨lw_r2, List.forall_mem_append.mpr ⟨lw_r3, List.forall_mem_append.mpr ⟨lw_r4, List.forall_mem_append.mpr ⟨lw_r5, List.forall_mem_append.mpr ⟨lw_r6, List.forall_mem_append.mpr ⟨lw_r7, List.forall_mem_append.mpr ⟨lw_r8, lw_r9⟩⟩⟩⟩⟩⟩⟩⟩
end
section
/-! ===== BEGIN words of one list among another's, by their places ===== -/
theorem goodIn_r {big : List Cond} (ws : List Cond) (ps : List Nat) (hp : ws = ps.filterMap (fun i => big[i]?)) (h : ws.all goodWord = true) : GoodIn big ws := by
  intro w hw
  have h1 := List.all_eq_true.mp h w hw
  rw [hp] at hw
  obtain ⟨i, -, hi⟩ := List.mem_filterMap.mp hw
  have hm : w ∈ big := by first | exact List.mem_of_getElem? hi | exact List.getElem?_mem hi
  exact ⟨hm, good_of_word h1⟩
theorem goodIn_app {big a b : List Cond} (ha : GoodIn big a) (hb : GoodIn big b) : GoodIn big (a ++ b) := fun w h => (List.mem_append.mp h).elim (ha w) (hb w)
theorem goodIn_ca {big a b : List Cond} {c : Cond} (ha : GoodIn big (c :: a)) (hb : GoodIn big b) : GoodIn big (c :: (a ++ b)) := fun w h => (List.mem_cons.mp h).elim (fun e => ha w (List.mem_cons.mpr (Or.inl e))) (fun h => (List.mem_append.mp h).elim (fun h => ha w (List.mem_cons.mpr (Or.inr h))) (hb w))
theorem goodIn_sub {big ws : List Cond} (hm : ∀ w ∈ ws, w ∈ big) (h : ws.all goodWord = true) : GoodIn big ws := fun w hw => ⟨hm w hw, good_of_word (List.all_eq_true.mp h w hw)⟩
/-! ===== END ===== -/
/-! ===== BEGIN exceptions that leave a method, and their catching by the caller (launches without stack traces) ===== -/
section VXA
/-! The laws vx_back, vx_callV, vx_callS, vx_callSW, vx_throw0, vx_throwS follow proofs of the library, with one case more: JvmDerived/Free/Laws.lean (Back.of_free), Shelf42/LK1.lean (callV, callS), Shelf/KitTraced.lean (throwNew0V, throwNewS). -/
/-- where a method has thrown q: the class by its name, the cell, what was written, the world -/
def vx_T (XC : String → State → State → Prop) (st : State) (q : Addr) (t : State) (mc ms : Nat) (free : Addr → Prop) : Prop :=
  ∃ (E : String) (ce : Cell) (L : List Loc), XC E st t ∧ t.heap[q]? = some ce ∧ ce.vm = .none ∧ st.vm.findClass E = some ce.cls ∧ st.WarmedH t.vm ∧ st.sameButNew ({ t with vm := st.vm } : State) L mc ms ∧ ∀ z ∈ L, free z.base
def vx_Q (Qc : Array Value → State → Outcome → State → Prop) (XC : String → State → State → Prop) (mc ms : Nat) (free : Addr → Prop) : Array Value → State → Outcome → State → Prop := fun a st o t =>
  (Qc a st o t ∧ ∃ L, FrameEnd st o t L mc ms ∧ ∀ q ∈ L, free q.base) ∨ ∃ q, o = .threw q ∧ vx_T XC st q t mc ms free
/-- a callee that returns or throws -/
def vx_Met (l : Launch) (y : MethodName) (ws : List Cond) (rm : Room) (Pc : Array Value → State → Prop) (Qc : Array Value → State → Outcome → State → Prop) (XC : String → State → State → Prop) (mc ms : Nat) (free : Addr → Prop) : Prop :=
  MetFree l y (headSpec ws rm) Pc (fun _ _ _ _ _ => True) (vx_Q Qc XC mc ms free)
def vx_Post (XC : String → State → State → Prop) (mc ms : Nat) (free : Addr → Prop) : Pt → Array Value → Addr → Pt → Prop := fun A a q B =>
  ∃ (g : JFrame) (mk : MethodId) (t : State) (L : List Loc) (E : String) (ce : Cell), B.U.heap = t.heap ∧ B.U.vm = t.vm ∧ XC E (A.U.calling g mk a) t ∧ t.heap[q]? = some ce ∧ ce.vm = .none ∧ A.U.vm.findClass E = some ce.cls ∧ B.locs = A.locs ++ L ∧ (∀ z ∈ L, free z.base) ∧ B.cells = A.cells + mc ∧ B.slots = A.slots + ms
def vx_Back (l : Launch) (R : Room) (p : Program) (e : Env) (below : List Frame) (s : State) (sargs : Array Value) (y : MethodName) (len W9 : Nat)
    (Pre : Pt → Array Value → Prop) (Post : Pt → Array Value → Option Value → Pt → Prop) (PostX : Pt → Array Value → Addr → Pt → Prop) : Prop :=
  ∀ (m : MethodId) (meth : Method) (c : Code) (A : Pt) (g : JFrame) (ig : Instr) (mk : MethodId) (a : Array Value),
    Stand p l e R s m sargs below meth c A.U A.locs A.cells A.slots → g.method = m → g.locals.size = c.maxLocals → decode c.code g.pc = .ok (ig, len) →
    2 * g.monitorRoom + (g.stack.map fun v => v.category).sum ≤ W9 → A.U.methodNamed? y = some mk → Pre A a →
    (∃ (v : Option Value) (B : Pt), Stand p l e R s m sargs below meth c B.U B.locs B.cells B.slots ∧ Post A a v B ∧
      Steps p.tables e below (doInvoke e (A.U.setTop g) [] mk a).1 (B.U.setTop { g with pc := g.pc + len, stack := v.toList ++ g.stack })) ∨
    (∃ (q : Addr) (B : Pt), Stand p l e R s m sargs below meth c B.U B.locs B.cells B.slots ∧ PostX A a q B ∧
      Steps p.tables e below (doInvoke e (A.U.setTop g) [] mk a).1 ((B.U.setTop g).pushFrame (.throwing q)))
section Payer
variable {l : Launch} {R : Room} {p : Program} {e : Env} {below : List Frame} {s : State} {sargs : Array Value} {y : MethodName} {len W9 : Nat}
theorem vx_back {ws : List Cond} {rm : Room} {Pc : Array Value → State → Prop} {Qc : Array Value → State → Outcome → State → Prop} {XC : String → State → State → Prop} {mc ms : Nat} {free : Addr → Prop} {bytes : ByteArray} {maxL : Nat} {ret : Option FieldType}
    (hM : vx_Met l y ws rm Pc Qc XC mc ms free) (hblind : FrameBlind Pc) (hrc : rm.cells = mc) (hrs : rm.slots = ms)
    (hframes : rm.frames + 1 ≤ R.frames) (hlocals : W9 + (maxL + 11) + rm.locals ≤ R.locals)
    (hws : ∀ w ∈ ws, ∀ a' U, s.WarmedH U.vm → w.before a' U = true) (hcode : Cond.code y bytes maxL ret ∈ ws) (hinit : ∀ a' U, s.WarmedH U.vm → (Cond.initialized y.cls).before a' U = true) :
    vx_Back l R p e below s sargs y len W9 (PreOf R mc ms Pc) (PostOf Qc mc ms free) (vx_Post XC mc ms free) := by
  intro m meth c A g ig mk a X hg hsize hdg hW hn hp
  have h1 : (headSpec ws rm).pre.before a A.U = true := atoms_intro fun w hw => hws w hw _ _ X.warmed
  have h2 : (Cond.code y bytes maxL ret).before a A.U = true := hws _ hcode _ _ X.warmed
  have h3 : (Cond.initialized y.cls).before a A.U = true := hinit _ _ X.warmed
  have h4 : A.cells + (headSpec ws rm).room.cells ≤ R.cells := by rw [show (headSpec ws rm).room.cells = mc from hrc]; exact hp.1
  have h5 : A.slots + (headSpec ws rm).room.slots ≤ R.slots := by rw [show (headSpec ws rm).room.slots = ms from hrs]; exact hp.2.1
  have hPc : Pc a (A.U.calling g mk a) := hblind _ _ _ _ hp.2.2
  obtain ⟨U, Ls, c0, s0⟩ := A
  dsimp only [Pt.U, Pt.locs, Pt.cells, Pt.slots] at h1 h2 h3 h4 h5 X hn hPc ⊢
  obtain ⟨methY, cY, hmY, hcY, -, hlY, -, -, -, -⟩ := Cond.code_spec hn h2
  obtain ⟨kY, hkY, -⟩ := className_of_methodNamed hn
  have hinitY : kY.init = .initialized := Cond.initialized_spec (findClass_of_methodNamed hn) hkY h3
  have h : At U g.method c below := by rw [hg]; exact X.here
  have hlocals9 : W9 + (maxL + 11) + (headSpec ws rm).room.locals ≤ R.locals := hlocals
  have happ : (headSpec ws rm).appliesLoose y e.platform (U.calling g mk a) = true :=
    Spec.appliesLoose_calling (g := g) h hdg hn hkY hinitY
      (X.room_calling (g := g) (R' := (headSpec ws rm).room) hsize hmY hcY hframes (by rw [hlY]; omega) h4 h5) h1
  obtain ⟨mid, hmid⟩ := h.above
  have hfr : (U.setTop g).frames = (.java g :: mid) ++ below := by rw [State.frames_setTop' g h.top, hmid]; rfl
  obtain ⟨o, s₂, hsteps, -, hend, hq⟩ := Steps.callFree hM p X.admits X.cas X.clock (acts := []) hfr happ hPc trivial
  have hq' : vx_Q Qc XC mc ms free a (U.calling g mk a) o s₂ := hq
  rw [State.frames_setTop' g h.top] at hend
  obtain ⟨g₀, hg0⟩ := Option.isSome_iff_exists.mp h.top
  obtain ⟨r, hr⟩ := State.topJava?_eq_some.mp hg0
  have hr' : (({ U with heap := s₂.heap, slotsUsed := s₂.slotsUsed } : State).setVm s₂.vm).frames = .java g₀ :: r := hr
  rcases hq' with ⟨hqc, L, hfe, hL⟩ | ⟨q, rfl, E, ce, L, hx, hce, hcv, hcl, hW₂, hsm, hL⟩
  · obtain ⟨⟨v, rfl⟩, hW₂, e2, q2, q3, q4, q5, q6⟩ := id hfe
    have e3 : s₂ = ({ (U.calling g mk a).setFrames s₂.frames with heap := s₂.heap, slotsUsed := s₂.slotsUsed } : State).setVm s₂.vm := by
      have : s₂ = ({ s₂ with vm := (U.calling g mk a).vm } : State).setVm s₂.vm := rfl
      rw [e2] at this
      exact this
    obtain ⟨c₂, i₂, len₂, hc₂, hd₂, hf₂⟩ := hend
    have hW' : U.WarmedH s₂.vm := hW₂
    have hcc : c₂ = c := by
      have h1 : s₂.code? g.method = U.code? g.method := by
        rw [State.code?_eq, State.code?_eq, hW'.alike.method?]
      exact Option.some.inj (hc₂.symm.trans (h1.trans h.code))
    subst hcc
    have hlen : len₂ = len := by rw [hdg] at hd₂; cases hd₂; rfl
    subst hlen
    have hs₂ : s₂ = (({ U with heap := s₂.heap, slotsUsed := s₂.slotsUsed } : State).setVm s₂.vm).setTop { g with pc := g.pc + len₂, stack := v.toList ++ g.stack } := by
      refine e3.trans ?_
      rw [hf₂, State.calling_eq h.top, State.setFrames_setFrames, State.setTop_of_frames _ hr', hr]
      rfl
    have hsame : U.sameButNew ({ U with heap := s₂.heap, slotsUsed := s₂.slotsUsed } : State) L mc ms := by
      refine ⟨?_, q2, q3, q4, q5, q6⟩
      obtain ⟨t, ht, -⟩ := State.frames_cons hr
      show ({ U with heap := s₂.heap, slotsUsed := s₂.slotsUsed } : State) = { U.setFrames U.frames with heap := s₂.heap, slotsUsed := s₂.slotsUsed }
      rw [State.setFrames_self ht]
    subst hg
    refine Or.inl ⟨v, ⟨(({ U with heap := s₂.heap, slotsUsed := s₂.slotsUsed } : State).setVm s₂.vm), Ls ++ L, c0 + mc, s0 + ms⟩,
      ⟨X.admits, X.cas, X.clock, X.frames, X.room, X.hears, X.method, X.code, (X.here.setHeapUsed s₂.heap s₂.slotsUsed).setVm hW'.alike, X.tail, State.WarmedH.trans X.warmed hW', X.limits, X.bytes, X.same.trans (hsame.setVm s.vm)⟩,
      ⟨g, mk, s₂, L, rfl, rfl, hqc, rfl, hL, rfl, rfl⟩, ?_⟩
    show Steps p.tables e below _ ((({ U with heap := s₂.heap, slotsUsed := s₂.slotsUsed } : State).setVm s₂.vm).setTop { g with pc := g.pc + len₂, stack := v.toList ++ g.stack })
    rw [← hs₂]
    exact hsteps
  · obtain ⟨e2, q2, q3, q4, q5, q6⟩ := id hsm
    have e3 : s₂ = ({ (U.calling g mk a).setFrames s₂.frames with heap := s₂.heap, slotsUsed := s₂.slotsUsed } : State).setVm s₂.vm := by
      have : s₂ = ({ s₂ with vm := (U.calling g mk a).vm } : State).setVm s₂.vm := rfl
      rw [e2] at this
      exact this
    have hf₂ : s₂.frames = .throwing q :: .java g :: U.frames.tail := hend
    have hW' : U.WarmedH s₂.vm := hW₂
    have hs₂ : s₂ = ((({ U with heap := s₂.heap, slotsUsed := s₂.slotsUsed } : State).setVm s₂.vm).setTop g).pushFrame (.throwing q) := by
      refine e3.trans ?_
      rw [hf₂, State.calling_eq h.top, State.setFrames_setFrames, State.pushFrame, State.frames_setTop _ hr', State.setTop_of_frames _ hr', State.setFrames_setFrames, hr]
      rfl
    have hsame : U.sameButNew ({ U with heap := s₂.heap, slotsUsed := s₂.slotsUsed } : State) L mc ms := by
      refine ⟨?_, q2, q3, q4, q5, q6⟩
      obtain ⟨t, ht, -⟩ := State.frames_cons hr
      show ({ U with heap := s₂.heap, slotsUsed := s₂.slotsUsed } : State) = { U.setFrames U.frames with heap := s₂.heap, slotsUsed := s₂.slotsUsed }
      rw [State.setFrames_self ht]
    subst hg
    refine Or.inr ⟨q, ⟨(({ U with heap := s₂.heap, slotsUsed := s₂.slotsUsed } : State).setVm s₂.vm), Ls ++ L, c0 + mc, s0 + ms⟩,
      ⟨X.admits, X.cas, X.clock, X.frames, X.room, X.hears, X.method, X.code, (X.here.setHeapUsed s₂.heap s₂.slotsUsed).setVm hW'.alike, X.tail, State.WarmedH.trans X.warmed hW', X.limits, X.bytes, X.same.trans (hsame.setVm s.vm)⟩,
      ⟨g, mk, s₂, L, E, ce, rfl, rfl, hx, hce, hcv, hcl, rfl, hL, rfl, rfl⟩, ?_⟩
    show Steps p.tables e below _ (((({ U with heap := s₂.heap, slotsUsed := s₂.slotsUsed } : State).setVm s₂.vm).setTop g).pushFrame (.throwing q))
    rw [← hs₂]
    exact hsteps
end Payer
section Calls
variable {p : Program} {l : Launch} {e : Env} {R : Room} {s : State} {m : MethodId} {args : Array Value} {below : List Frame} {meth : Method} {c : Code} {T : State} {locs : List Loc} {cells slots : Nat}
theorem vx_callV (X : Stand p l e R s m args below meth c T locs cells slots) (hexec : p.tables.exec = Jvm.exec) {own C : String} {index : Nat} {y : MethodName} {bytes : ByteArray} {maxL : Nat} {ret : Option FieldType}
    (hown : s.vm.findClass own = some m.cls) (hlink : (Cond.methodLink own index y).before args s = true) (hinst : (Cond.instanceMethod y).before args s = true) (hsel : (Cond.selects C y y).before args s = true)
    (hcode : (Cond.code y bytes maxL ret).before args s = true) (hy : y.cls ≠ "java/lang/invoke/MethodHandle" ∧ y.cls ≠ "java/lang/invoke/VarHandle")
    {W9 : Nat} {Pre : Pt → Array Value → Prop} {Post : Pt → Array Value → Option Value → Pt → Prop} {PostX : Pt → Array Value → Addr → Pt → Prop} (hK : vx_Back l R p e below s args y 3 W9 Pre Post PostX)
    {b : Addr} {cellB : Cell} (hcell : T.heap[b]? = some cellB) (hobj : cellB.vm.isStatics = false) (hcls : s.vm.findClass C = some cellB.cls)
    {g : JFrame} (hg : g.method = m) (hsize : g.locals.size = c.maxLocals) {argsL rest : List Value} (hlen : ∀ sig, parseMethodDescriptor y.desc = some sig → argsL.length = sig.parameters.length)
    (hstack : g.stack = argsL.reverse ++ .ref b :: rest) (hW : 2 * g.monitorRoom + (rest.map fun v => v.category).sum ≤ W9) (hdg : decode c.code g.pc = .ok (.invokevirtual index, 3))
    (hpre : ∀ vm₁, s.WarmedH vm₁ → Pre ⟨T.setVm vm₁, locs, cells, slots⟩ (Value.ref b :: argsL).toArray) :
    (∃ (v : Option Value) (vm₁ : Vm) (B : Pt), s.WarmedH vm₁ ∧ Stand p l e R s m args below meth c B.U B.locs B.cells B.slots ∧ Post ⟨T.setVm vm₁, locs, cells, slots⟩ (Value.ref b :: argsL).toArray v B ∧
      ∀ target, Steps p.tables e below (B.U.setTop { g with pc := g.pc + 3, stack := v.toList ++ rest }) target → Steps p.tables e below (T.setTop g) target) ∨
    (∃ (q : Addr) (vm₁ : Vm) (B : Pt), s.WarmedH vm₁ ∧ Stand p l e R s m args below meth c B.U B.locs B.cells B.slots ∧ PostX ⟨T.setVm vm₁, locs, cells, slots⟩ (Value.ref b :: argsL).toArray q B ∧
      Steps p.tables e below (T.setTop g) ((B.U.setTop { g with stack := rest }).pushFrame (.throwing q))) := by
  obtain ⟨mk, methM, hnamed, hmethM, hstM, habM⟩ := Cond.instanceMethod_spec hinst
  obtain ⟨methM', cM, hmethM', -, -, -, -, -, -, hsigM⟩ := Cond.code_spec hnamed hcode
  cases hmethM.symm.trans hmethM'
  obtain ⟨c2, r2, m2, q1, q2, q3, q4, kP, hkP, hkPi⟩ := Cond.selects_spec hsel
  cases hcls.symm.trans q1
  cases (State.methodFound?_of_named hnamed hy).symm.trans q2
  cases hnamed.symm.trans q3
  have hselP : selectMethod e.platform s.vm cellB.cls mk = .method mk := by rw [Launch.admits_selectMethod X.admits]; exact q4
  obtain ⟨vm₁, X₁, hstep₁⟩ := X.invokevirtual hexec hown hlink hnamed hmethM hstM hkP hkPi hy (a := b) (cell := cellB) hcell
    (fun z h => by rw [h] at hobj; cases hobj) hselP hmethM habM hkP hkPi (g := g) hg (argsL := argsL) (rest := rest) (hlen _ hsigM) hstack hdg
  rcases hK m meth c ⟨T.setVm vm₁, locs, cells, slots⟩ { g with stack := rest } (.invokevirtual index) mk (Value.ref b :: argsL).toArray X₁ hg hsize hdg hW (X₁.named hnamed) (hpre vm₁ X₁.warmed) with ⟨v, B, X', hpost, hsteps⟩ | ⟨q, B, X', hpost, hsteps⟩
  · exact Or.inl ⟨v, vm₁, B, X₁.warmed, X', hpost, fun target h => hstep₁ _ fun acts => by rw [doInvoke_state]; exact hsteps.trans h⟩
  · exact Or.inr ⟨q, vm₁, B, X₁.warmed, X', hpost, hstep₁ _ fun acts => by rw [doInvoke_state]; exact hsteps⟩
theorem vx_callS (X : Stand p l e R s m args below meth c T locs cells slots) (hexec : p.tables.exec = Jvm.exec) {own : String} {index : Nat} {y : MethodName} {bytes : ByteArray} {maxL : Nat} {ret : Option FieldType}
    (hown : s.vm.findClass own = some m.cls) (hlink : (Cond.methodLink own index y).before args s = true) (hstat : (Cond.static y).before args s = true) (hinit : (Cond.initialized y.cls).before args s = true)
    (hcode : (Cond.code y bytes maxL ret).before args s = true) (hy : y.cls ≠ "java/lang/invoke/MethodHandle" ∧ y.cls ≠ "java/lang/invoke/VarHandle")
    {W9 : Nat} {Pre : Pt → Array Value → Prop} {Post : Pt → Array Value → Option Value → Pt → Prop} {PostX : Pt → Array Value → Addr → Pt → Prop} (hK : vx_Back l R p e below s args y 3 W9 Pre Post PostX)
    {g : JFrame} (hg : g.method = m) (hsize : g.locals.size = c.maxLocals) {argsL rest : List Value} (hlen : ∀ sig, parseMethodDescriptor y.desc = some sig → argsL.length = sig.parameters.length)
    (hstack : g.stack = argsL.reverse ++ rest) (hW : 2 * g.monitorRoom + (rest.map fun v => v.category).sum ≤ W9) (hdg : decode c.code g.pc = .ok (.invokestatic index, 3))
    (hpre : ∀ vm₁, s.WarmedH vm₁ → Pre ⟨T.setVm vm₁, locs, cells, slots⟩ argsL.toArray) :
    (∃ (v : Option Value) (vm₁ : Vm) (B : Pt), s.WarmedH vm₁ ∧ Stand p l e R s m args below meth c B.U B.locs B.cells B.slots ∧ Post ⟨T.setVm vm₁, locs, cells, slots⟩ argsL.toArray v B ∧
      ∀ target, Steps p.tables e below (B.U.setTop { g with pc := g.pc + 3, stack := v.toList ++ rest }) target → Steps p.tables e below (T.setTop g) target) ∨
    (∃ (q : Addr) (vm₁ : Vm) (B : Pt), s.WarmedH vm₁ ∧ Stand p l e R s m args below meth c B.U B.locs B.cells B.slots ∧ PostX ⟨T.setVm vm₁, locs, cells, slots⟩ argsL.toArray q B ∧
      Steps p.tables e below (T.setTop g) ((B.U.setTop { g with stack := rest }).pushFrame (.throwing q))) := by
  obtain ⟨mk, hnamed⟩ := Cond.code_named hcode
  obtain ⟨methM, cM, hmethM, -, -, -, -, -, -, hsigM⟩ := Cond.code_spec hnamed hcode
  have hstatic : methM.isStatic = true := Cond.static_spec hnamed hmethM hstat
  obtain ⟨kP, hkP, -⟩ := className_of_methodNamed hnamed
  have hinitP : kP.init = .initialized := Cond.initialized_spec (findClass_of_methodNamed hnamed) hkP hinit
  obtain ⟨vm₁, X₁, hstep₁⟩ := X.invokestatic hexec hown hlink hnamed hmethM hstatic hkP hinitP hy (g := g) hg (argsL := argsL) (rest := rest) (hlen _ hsigM) hstack hdg
  rcases hK m meth c ⟨T.setVm vm₁, locs, cells, slots⟩ { g with stack := rest } (.invokestatic index) mk argsL.toArray X₁ hg hsize hdg hW (X₁.named hnamed) (hpre vm₁ X₁.warmed) with ⟨v, B, X', hpost, hsteps⟩ | ⟨q, B, X', hpost, hsteps⟩
  · exact Or.inl ⟨v, vm₁, B, X₁.warmed, X', hpost, fun target h => hstep₁ _ fun acts => by rw [doInvoke_state]; exact hsteps.trans h⟩
  · exact Or.inr ⟨q, vm₁, B, X₁.warmed, X', hpost, hstep₁ _ fun acts => by rw [doInvoke_state]; exact hsteps⟩
end Calls
theorem vx_cls {s : State} {T : State} {vm₁ : Vm} {E : String} {k : ClassId} (hW : s.WarmedH vm₁) (h : (T.setVm vm₁).vm.findClass E = some k) : s.vm.findClass E = some k := by
  have h1 : vm₁.findClass E = some k := h
  rw [hW.alike.findClass] at h1
  exact h1
/-- the method's frame g, with q thrown over it -/
def vx_W (p : Program) (l : Launch) (e : Env) (R : Room) (s : State) (m : MethodId) (args : Array Value) (below : List Frame) (meth : Method) (c : Code) (H : Heap) (locs : List Loc) (cells slots : Nat) (Q : State → Prop) (g : JFrame) (q : Addr) : Prop :=
  ∀ T : State, T.heap = H → Stand p l e R s m args below meth c T locs cells slots → ∃ t, Steps p.tables e below ((T.setTop g).pushFrame (.throwing q)) t ∧ Q t
def vx_Run (p : Program) (l : Launch) (e : Env) (R : Room) (s : State) (m : MethodId) (args : Array Value) (below : List Frame) (meth : Method) (c : Code) (H : Heap) (locs : List Loc) (cells slots mc ms : Nat) (g : JFrame) (rest : List Value) (Qa : State → Outcome → State → Prop) (XC : String → State → State → Prop) (free : Addr → Prop) : Prop :=
  ∀ T : State, T.heap = H → Stand p l e R s m args below meth c T locs cells slots →
    (∃ (v : Option Value) (st₀ t T' : State) (L : List Loc), st₀.heap = H ∧ Stand p l e R s m args below meth c T' (locs ++ L) (cells + mc) (slots + ms) ∧ (∀ q ∈ L, free q.base) ∧ T'.heap = t.heap ∧ T'.vm = t.vm ∧ Qa st₀ (.returned v) t ∧
      Goes p e below T g T' { g with pc := g.pc + 3, stack := v.toList ++ rest }) ∨
    (∃ (q : Addr) (st₀ t T' : State) (L : List Loc) (E : String) (ce : Cell), st₀.heap = H ∧ Stand p l e R s m args below meth c T' (locs ++ L) (cells + mc) (slots + ms) ∧ (∀ z ∈ L, free z.base) ∧ T'.heap = t.heap ∧ T'.vm = t.vm ∧ XC E st₀ t ∧ t.heap[q]? = some ce ∧ ce.vm = .none ∧ s.vm.findClass E = some ce.cls ∧
      Steps p.tables e below (T.setTop g) ((T'.setTop { g with stack := rest }).pushFrame (.throwing q)))
def vx_X {S : Type} (px : S → Prop) (B : String → S → State → Prop) (A : Nat → Prop) : String → State → State → Prop := fun E st t => ∃ u : S, px u ∧ B E u t ∧ va_F A st t
section Runs
variable {p : Program} {l : Launch} {e : Env} {R : Room} {s : State} {m : MethodId} {args : Array Value} {below : List Frame} {meth : Method} {c : Code} {H : Heap} {locs : List Loc} {cells slots : Nat}
variable {y : MethodName} {bytes cc : ByteArray} {maxL nL mc ms n index : Nat} {ret : Option FieldType} {ws : List Cond} {rm : Room} {Pc : Array Value → State → Prop} {Qc : Array Value → State → Outcome → State → Prop} {XC : String → State → State → Prop} {free : Addr → Prop} {Ts : List Cond} {own C : String} {b : Addr} {As rest : List Value} {g : JFrame}
theorem vx_callBack (cb : CallB R s args own index y bytes maxL ret ws rm mc ms n) (hM : vx_Met l y ws rm Pc Qc XC mc ms free) (hbl : FrameBlind Pc) : vx_Back l R p e below s args y 3 8 (PreOf R mc ms Pc) (PostOf Qc mc ms free) (vx_Post XC mc ms free) := by
  obtain ⟨hrc, hrs, hfr, hlo, hws, hcw, -, hini, -⟩ := cb
  exact vx_back (bytes := bytes) (maxL := maxL) (ret := ret) hM hbl hrc hrs hfr hlo hws hcw (fun a' U hW => word_at hW (Or.inl (by first | rfl | simp [Cond.onTables, Cond.keeps, Cond.steady])) hini)
theorem vx_runV (S : CallFix p m c cc nL s args Ts own) (hM : vx_Met l y ws rm Pc Qc XC mc ms free) (cw : CallW R s args own C index y bytes maxL ret ws rm mc ms n) (hp : PreV s H C b Pc As)
    (hg : g.method = m) (hn : As.length = n) (hsize : g.locals.size = nL) (hstack : g.stack = As.reverse ++ .ref b :: rest) (hW : 2 * g.monitorRoom + (rest.map fun v => v.category).sum ≤ 8) (hdg : decode cc g.pc = .ok (.invokevirtual index, 3)) (hf : cells + mc ≤ R.cells ∧ slots + ms ≤ R.slots) :
    vx_Run p l e R s m args below meth c H locs cells slots mc ms g rest (Qc (Value.ref b :: As).toArray) XC free := by
  have hK : vx_Back l R p e below s args y 3 8 (PreOf R mc ms Pc) (PostOf Qc mc ms free) (vx_Post XC mc ms free) := vx_callBack cw.1 hM hp.1
  obtain ⟨⟨-, -, -, -, -, -, hcode, -, hy, hlen, hl⟩, hin, hse⟩ := cw
  obtain ⟨hx, hb, hml, ho, -⟩ := S
  obtain ⟨-, ⟨cellB, hcB, hoB, hclB⟩, hPc⟩ := hp
  intro T hT X
  rcases vx_callV X hx (C := C) (bytes := bytes) (maxL := maxL) (ret := ret) ho hl hin hse hcode hy hK (by rw [hT]; exact hcB) hoB hclB hg (hsize.trans hml.symm) (argsL := As) (rest := rest) (fun sig h => hn.trans (hlen sig h)) hstack hW (by rw [hb]; exact hdg)
    (fun vm₁ hW₁ => ⟨hf.1, hf.2, hPc (T.setVm vm₁) hT hW₁⟩) with ⟨v, vm₁, ⟨U', l2, c2, s2⟩, hW₁, X', ⟨g', mk, t, L, e1, e2, hq, h1, hL, h2, h3⟩, st⟩ | ⟨q, vm₁, ⟨U', l2, c2, s2⟩, hW₁, X', ⟨g', mk, t, L, E, ce, e1, e2, hq, hce, hcv, hcl, h1, hL, h2, h3⟩, st⟩
  · dsimp only [Pt.U, Pt.locs, Pt.cells, Pt.slots] at X' e1 e2 h1 h2 h3 st
    subst h1; subst h2; subst h3
    exact Or.inl ⟨v, (T.setVm vm₁).calling g' mk (Value.ref b :: As).toArray, t, U', L, hT, X', hL, e1, e2, hq, st⟩
  · dsimp only [Pt.U, Pt.locs, Pt.cells, Pt.slots] at X' e1 e2 h1 h2 h3 st hcl
    subst h1; subst h2; subst h3
    exact Or.inr ⟨q, (T.setVm vm₁).calling g' mk (Value.ref b :: As).toArray, t, U', L, E, ce, hT, X', hL, e1, e2, hq, hce, hcv, vx_cls hW₁ hcl, st⟩
theorem vx_runS (S : CallFix p m c cc nL s args Ts own) (hM : vx_Met l y ws rm Pc Qc XC mc ms free) (cw : CallB R s args own index y bytes maxL ret ws rm mc ms n ∧ (Cond.static y).before args s = true) (hp : PreS s H Pc As)
    (hg : g.method = m) (hn : As.length = n) (hsize : g.locals.size = nL) (hstack : g.stack = As.reverse ++ rest) (hW : 2 * g.monitorRoom + (rest.map fun v => v.category).sum ≤ 8) (hdg : decode cc g.pc = .ok (.invokestatic index, 3)) (hf : cells + mc ≤ R.cells ∧ slots + ms ≤ R.slots) :
    vx_Run p l e R s m args below meth c H locs cells slots mc ms g rest (Qc As.toArray) XC free := by
  have hK : vx_Back l R p e below s args y 3 8 (PreOf R mc ms Pc) (PostOf Qc mc ms free) (vx_Post XC mc ms free) := vx_callBack cw.1 hM hp.1
  obtain ⟨⟨-, -, -, -, -, -, hcode, hini, hy, hlen, hl⟩, hstt⟩ := cw
  obtain ⟨hx, hb, hml, ho, -⟩ := S
  intro T hT X
  rcases vx_callS X hx (bytes := bytes) (maxL := maxL) (ret := ret) ho hl hstt hini hcode hy hK hg (hsize.trans hml.symm) (argsL := As) (rest := rest) (fun sig h => hn.trans (hlen sig h)) hstack hW (by rw [hb]; exact hdg)
    (fun vm₁ hW₁ => ⟨hf.1, hf.2, hp.2 (T.setVm vm₁) hT hW₁⟩) with ⟨v, vm₁, ⟨U', l2, c2, s2⟩, hW₁, X', ⟨g', mk, t, L, e1, e2, hq, h1, hL, h2, h3⟩, st⟩ | ⟨q, vm₁, ⟨U', l2, c2, s2⟩, hW₁, X', ⟨g', mk, t, L, E, ce, e1, e2, hq, hce, hcv, hcl, h1, hL, h2, h3⟩, st⟩
  · dsimp only [Pt.U, Pt.locs, Pt.cells, Pt.slots] at X' e1 e2 h1 h2 h3 st
    subst h1; subst h2; subst h3
    exact Or.inl ⟨v, (T.setVm vm₁).calling g' mk As.toArray, t, U', L, hT, X', hL, e1, e2, hq, st⟩
  · dsimp only [Pt.U, Pt.locs, Pt.cells, Pt.slots] at X' e1 e2 h1 h2 h3 st hcl
    subst h1; subst h2; subst h3
    exact Or.inr ⟨q, (T.setVm vm₁).calling g' mk As.toArray, t, U', L, E, ce, hT, X', hL, e1, e2, hq, hce, hcv, vx_cls hW₁ hcl, st⟩
end Runs
section Rows
variable {p : Program} {l : Launch} {e : Env} {R : Room} {s : State} {m : MethodId} {args : Array Value} {below : List Frame} {meth : Method} {c : Code} {H : Heap} {locs : List Loc} {cells slots : Nat} {Q : State → Prop}
variable {mc ms : Nat} {free : Addr → Prop} {A0 A1 : Nat → Prop} {H0 : Heap} {a : Array Value} {pc : Nat} {ls : Array Slot} {st0 rest : List Value}
theorem vx_keep {st₀ t T' : State} {L : List Loc} (h0 : st₀.heap = H) (e1 : T'.heap = t.heap) (hS : va_S A0 H0 H locs) (hA : ∀ q, q < H.size → A1 q → A0 q) (hf : ∀ q, free q → A0 q) (hL : ∀ q ∈ L, free q.base) (hF : va_F A1 st₀ t) :
    H.size ≤ T'.heap.size ∧ (∀ q : Nat, q < H.size → ¬ A1 q → T'.heap[q]? = H[q]?) ∧ va_S A0 H0 T'.heap (locs ++ L) := by
  obtain ⟨hz, hk⟩ := hF
  rw [h0] at hz hk
  exact ⟨by rw [e1]; exact hz, fun q h1 h2 => by rw [e1]; exact hk q h1 h2,
    ⟨Nat.le_trans hS.1 (by rw [e1]; exact hz), fun q h1 h2 => by rw [e1, hk q (Nat.lt_of_lt_of_le h1 hS.1) (fun z => h2 (hA q (Nat.lt_of_lt_of_le h1 hS.1) z))]; exact hS.2.1 q h1 h2, fun q hq => by
      rcases List.mem_append.mp hq with h | h
      · exact hS.2.2 q h
      · exact hf _ (hL q h)⟩⟩
theorem vx_calli {S SX : Type} {post : Int32 → S → Prop} {px : SX → Prop} {B : S → State → Prop} {BX : String → SX → State → Prop} {AX : Nat → Prop} (hr : vx_Run p l e R s m args below meth c H locs cells slots mc ms (F0 m pc ls st0) rest (va_Qi post B A1 a) (vx_X px BX AX) free) (hS : va_S A0 H0 H locs) (hA : ∀ q, q < H.size → A1 q → A0 q) (hf : ∀ q, free q → A0 q) (hAX : ∀ q, q < H.size → AX q → A0 q)
    (kx : ∀ (E : String) (ce : Cell) (q9 : Addr) (u : SX) (t : State) (H1 : Heap) (locs1 : List Loc), t.heap = H1 → s.vm.Alike t.vm → px u → BX E u t → H.size ≤ H1.size → (∀ q : Nat, q < H.size → ¬ AX q → H1[q]? = H[q]?) → va_S A0 H0 H1 locs1 → H1[q9]? = some ce → ce.vm = .none → s.vm.findClass E = some ce.cls → vx_W p l e R s m args below meth c H1 locs1 (cells + mc) (slots + ms) Q (F0 m pc ls rest) q9)
    (kk : ∀ (r : Int32) (u : S) (t : State) (H1 : Heap) (locs1 : List Loc), t.heap = H1 → s.vm.Alike t.vm → post r u → B u t → H.size ≤ H1.size → (∀ q : Nat, q < H.size → ¬ A1 q → H1[q]? = H[q]?) → va_S A0 H0 H1 locs1 → W p l e R s m args below meth c H1 locs1 (cells + mc) (slots + ms) Q (F0 m (pc + 3) ls (.int r :: rest))) : W p l e R s m args below meth c H locs cells slots Q (F0 m pc ls st0) := by
  intro T hT X
  rcases hr T hT X with ⟨v, st₀, t, T', L, h0, X', hL, e1, e2, ⟨⟨r, u, hv, hp, hb⟩, hF⟩, st⟩ | ⟨q, st₀, t, T', L, E, ce, h0, X', hL, e1, e2, ⟨u, hp, hb, hF⟩, hce, hcv, hcl, st⟩
  · cases hv
    obtain ⟨k1, k2, k3⟩ := vx_keep h0 e1 hS hA hf hL hF
    obtain ⟨t2, a1, b1⟩ := kk r u t T'.heap (locs ++ L) e1.symm (by rw [← e2]; exact X'.warmed.alike) hp hb k1 k2 k3 T' rfl X'
    exact ⟨t2, st t2 a1, b1⟩
  · obtain ⟨k1, k2, k3⟩ := vx_keep h0 e1 hS hAX hf hL hF
    obtain ⟨t2, a1, b1⟩ := kx E ce q u t T'.heap (locs ++ L) e1.symm (by rw [← e2]; exact X'.warmed.alike) hp hb k1 k2 k3 (by rw [e1]; exact hce) hcv hcl T' rfl X'
    exact ⟨t2, st.trans a1, b1⟩
theorem vx_calll {S SX : Type} {post : Int64 → S → Prop} {px : SX → Prop} {B : S → State → Prop} {BX : String → SX → State → Prop} {AX : Nat → Prop} (hr : vx_Run p l e R s m args below meth c H locs cells slots mc ms (F0 m pc ls st0) rest (va_Ql post B A1 a) (vx_X px BX AX) free) (hS : va_S A0 H0 H locs) (hA : ∀ q, q < H.size → A1 q → A0 q) (hf : ∀ q, free q → A0 q) (hAX : ∀ q, q < H.size → AX q → A0 q)
    (kx : ∀ (E : String) (ce : Cell) (q9 : Addr) (u : SX) (t : State) (H1 : Heap) (locs1 : List Loc), t.heap = H1 → s.vm.Alike t.vm → px u → BX E u t → H.size ≤ H1.size → (∀ q : Nat, q < H.size → ¬ AX q → H1[q]? = H[q]?) → va_S A0 H0 H1 locs1 → H1[q9]? = some ce → ce.vm = .none → s.vm.findClass E = some ce.cls → vx_W p l e R s m args below meth c H1 locs1 (cells + mc) (slots + ms) Q (F0 m pc ls rest) q9)
    (kk : ∀ (r : Int64) (u : S) (t : State) (H1 : Heap) (locs1 : List Loc), t.heap = H1 → s.vm.Alike t.vm → post r u → B u t → H.size ≤ H1.size → (∀ q : Nat, q < H.size → ¬ A1 q → H1[q]? = H[q]?) → va_S A0 H0 H1 locs1 → W p l e R s m args below meth c H1 locs1 (cells + mc) (slots + ms) Q (F0 m (pc + 3) ls (.long r :: rest))) : W p l e R s m args below meth c H locs cells slots Q (F0 m pc ls st0) := by
  intro T hT X
  rcases hr T hT X with ⟨v, st₀, t, T', L, h0, X', hL, e1, e2, ⟨⟨r, u, hv, hp, hb⟩, hF⟩, st⟩ | ⟨q, st₀, t, T', L, E, ce, h0, X', hL, e1, e2, ⟨u, hp, hb, hF⟩, hce, hcv, hcl, st⟩
  · cases hv
    obtain ⟨k1, k2, k3⟩ := vx_keep h0 e1 hS hA hf hL hF
    obtain ⟨t2, a1, b1⟩ := kk r u t T'.heap (locs ++ L) e1.symm (by rw [← e2]; exact X'.warmed.alike) hp hb k1 k2 k3 T' rfl X'
    exact ⟨t2, st t2 a1, b1⟩
  · obtain ⟨k1, k2, k3⟩ := vx_keep h0 e1 hS hAX hf hL hF
    obtain ⟨t2, a1, b1⟩ := kx E ce q u t T'.heap (locs ++ L) e1.symm (by rw [← e2]; exact X'.warmed.alike) hp hb k1 k2 k3 (by rw [e1]; exact hce) hcv hcl T' rfl X'
    exact ⟨t2, st.trans a1, b1⟩
theorem vx_callf {S SX : Type} {post : UInt32 → S → Prop} {px : SX → Prop} {B : S → State → Prop} {BX : String → SX → State → Prop} {AX : Nat → Prop} (hr : vx_Run p l e R s m args below meth c H locs cells slots mc ms (F0 m pc ls st0) rest (va_Qf post B A1 a) (vx_X px BX AX) free) (hS : va_S A0 H0 H locs) (hA : ∀ q, q < H.size → A1 q → A0 q) (hf : ∀ q, free q → A0 q) (hAX : ∀ q, q < H.size → AX q → A0 q)
    (kx : ∀ (E : String) (ce : Cell) (q9 : Addr) (u : SX) (t : State) (H1 : Heap) (locs1 : List Loc), t.heap = H1 → s.vm.Alike t.vm → px u → BX E u t → H.size ≤ H1.size → (∀ q : Nat, q < H.size → ¬ AX q → H1[q]? = H[q]?) → va_S A0 H0 H1 locs1 → H1[q9]? = some ce → ce.vm = .none → s.vm.findClass E = some ce.cls → vx_W p l e R s m args below meth c H1 locs1 (cells + mc) (slots + ms) Q (F0 m pc ls rest) q9)
    (kk : ∀ (r : UInt32) (u : S) (t : State) (H1 : Heap) (locs1 : List Loc), t.heap = H1 → s.vm.Alike t.vm → post r u → B u t → H.size ≤ H1.size → (∀ q : Nat, q < H.size → ¬ A1 q → H1[q]? = H[q]?) → va_S A0 H0 H1 locs1 → W p l e R s m args below meth c H1 locs1 (cells + mc) (slots + ms) Q (F0 m (pc + 3) ls (.float r :: rest))) : W p l e R s m args below meth c H locs cells slots Q (F0 m pc ls st0) := by
  intro T hT X
  rcases hr T hT X with ⟨v, st₀, t, T', L, h0, X', hL, e1, e2, ⟨⟨r, u, hv, hp, hb⟩, hF⟩, st⟩ | ⟨q, st₀, t, T', L, E, ce, h0, X', hL, e1, e2, ⟨u, hp, hb, hF⟩, hce, hcv, hcl, st⟩
  · cases hv
    obtain ⟨k1, k2, k3⟩ := vx_keep h0 e1 hS hA hf hL hF
    obtain ⟨t2, a1, b1⟩ := kk r u t T'.heap (locs ++ L) e1.symm (by rw [← e2]; exact X'.warmed.alike) hp hb k1 k2 k3 T' rfl X'
    exact ⟨t2, st t2 a1, b1⟩
  · obtain ⟨k1, k2, k3⟩ := vx_keep h0 e1 hS hAX hf hL hF
    obtain ⟨t2, a1, b1⟩ := kx E ce q u t T'.heap (locs ++ L) e1.symm (by rw [← e2]; exact X'.warmed.alike) hp hb k1 k2 k3 (by rw [e1]; exact hce) hcv hcl T' rfl X'
    exact ⟨t2, st.trans a1, b1⟩
theorem vx_calld {S SX : Type} {post : UInt64 → S → Prop} {px : SX → Prop} {B : S → State → Prop} {BX : String → SX → State → Prop} {AX : Nat → Prop} (hr : vx_Run p l e R s m args below meth c H locs cells slots mc ms (F0 m pc ls st0) rest (va_Qd post B A1 a) (vx_X px BX AX) free) (hS : va_S A0 H0 H locs) (hA : ∀ q, q < H.size → A1 q → A0 q) (hf : ∀ q, free q → A0 q) (hAX : ∀ q, q < H.size → AX q → A0 q)
    (kx : ∀ (E : String) (ce : Cell) (q9 : Addr) (u : SX) (t : State) (H1 : Heap) (locs1 : List Loc), t.heap = H1 → s.vm.Alike t.vm → px u → BX E u t → H.size ≤ H1.size → (∀ q : Nat, q < H.size → ¬ AX q → H1[q]? = H[q]?) → va_S A0 H0 H1 locs1 → H1[q9]? = some ce → ce.vm = .none → s.vm.findClass E = some ce.cls → vx_W p l e R s m args below meth c H1 locs1 (cells + mc) (slots + ms) Q (F0 m pc ls rest) q9)
    (kk : ∀ (r : UInt64) (u : S) (t : State) (H1 : Heap) (locs1 : List Loc), t.heap = H1 → s.vm.Alike t.vm → post r u → B u t → H.size ≤ H1.size → (∀ q : Nat, q < H.size → ¬ A1 q → H1[q]? = H[q]?) → va_S A0 H0 H1 locs1 → W p l e R s m args below meth c H1 locs1 (cells + mc) (slots + ms) Q (F0 m (pc + 3) ls (.double r :: rest))) : W p l e R s m args below meth c H locs cells slots Q (F0 m pc ls st0) := by
  intro T hT X
  rcases hr T hT X with ⟨v, st₀, t, T', L, h0, X', hL, e1, e2, ⟨⟨r, u, hv, hp, hb⟩, hF⟩, st⟩ | ⟨q, st₀, t, T', L, E, ce, h0, X', hL, e1, e2, ⟨u, hp, hb, hF⟩, hce, hcv, hcl, st⟩
  · cases hv
    obtain ⟨k1, k2, k3⟩ := vx_keep h0 e1 hS hA hf hL hF
    obtain ⟨t2, a1, b1⟩ := kk r u t T'.heap (locs ++ L) e1.symm (by rw [← e2]; exact X'.warmed.alike) hp hb k1 k2 k3 T' rfl X'
    exact ⟨t2, st t2 a1, b1⟩
  · obtain ⟨k1, k2, k3⟩ := vx_keep h0 e1 hS hAX hf hL hF
    obtain ⟨t2, a1, b1⟩ := kx E ce q u t T'.heap (locs ++ L) e1.symm (by rw [← e2]; exact X'.warmed.alike) hp hb k1 k2 k3 (by rw [e1]; exact hce) hcv hcl T' rfl X'
    exact ⟨t2, st.trans a1, b1⟩
theorem vx_callv {S SX : Type} {post : S → Prop} {px : SX → Prop} {B : S → State → Prop} {BX : String → SX → State → Prop} {AX : Nat → Prop} (hr : vx_Run p l e R s m args below meth c H locs cells slots mc ms (F0 m pc ls st0) rest (va_Qv post B A1 a) (vx_X px BX AX) free) (hS : va_S A0 H0 H locs) (hA : ∀ q, q < H.size → A1 q → A0 q) (hf : ∀ q, free q → A0 q) (hAX : ∀ q, q < H.size → AX q → A0 q)
    (kx : ∀ (E : String) (ce : Cell) (q9 : Addr) (u : SX) (t : State) (H1 : Heap) (locs1 : List Loc), t.heap = H1 → s.vm.Alike t.vm → px u → BX E u t → H.size ≤ H1.size → (∀ q : Nat, q < H.size → ¬ AX q → H1[q]? = H[q]?) → va_S A0 H0 H1 locs1 → H1[q9]? = some ce → ce.vm = .none → s.vm.findClass E = some ce.cls → vx_W p l e R s m args below meth c H1 locs1 (cells + mc) (slots + ms) Q (F0 m pc ls rest) q9)
    (kk : ∀ (u : S) (t : State) (H1 : Heap) (locs1 : List Loc), t.heap = H1 → s.vm.Alike t.vm → post u → B u t → H.size ≤ H1.size → (∀ q : Nat, q < H.size → ¬ A1 q → H1[q]? = H[q]?) → va_S A0 H0 H1 locs1 → W p l e R s m args below meth c H1 locs1 (cells + mc) (slots + ms) Q (F0 m (pc + 3) ls (rest))) : W p l e R s m args below meth c H locs cells slots Q (F0 m pc ls st0) := by
  intro T hT X
  rcases hr T hT X with ⟨v, st₀, t, T', L, h0, X', hL, e1, e2, ⟨⟨u, hv, hp, hb⟩, hF⟩, st⟩ | ⟨q, st₀, t, T', L, E, ce, h0, X', hL, e1, e2, ⟨u, hp, hb, hF⟩, hce, hcv, hcl, st⟩
  · cases hv
    obtain ⟨k1, k2, k3⟩ := vx_keep h0 e1 hS hA hf hL hF
    obtain ⟨t2, a1, b1⟩ := kk u t T'.heap (locs ++ L) e1.symm (by rw [← e2]; exact X'.warmed.alike) hp hb k1 k2 k3 T' rfl X'
    exact ⟨t2, st t2 a1, b1⟩
  · obtain ⟨k1, k2, k3⟩ := vx_keep h0 e1 hS hAX hf hL hF
    obtain ⟨t2, a1, b1⟩ := kx E ce q u t T'.heap (locs ++ L) e1.symm (by rw [← e2]; exact X'.warmed.alike) hp hb k1 k2 k3 (by rw [e1]; exact hce) hcv hcl T' rfl X'
    exact ⟨t2, st.trans a1, b1⟩
/-- caught by the row x of this method's table; the rows ahead don't take it -/
theorem vx_catch {own name : String} {E : String} {ce : Cell} {q : Addr} (hown : s.vm.findClass own = some m.cls) (pre : List ExceptionTableEntry) (x : ExceptionTableEntry) (suf : List ExceptionTableEntry) (hsplit : c.exceptionTable.toList = pre ++ x :: suf)
    (hpass : ∀ z ∈ pre, covers z pc = false ∨ (z.catchType ≠ 0 ∧ ∃ nm : String, (Cond.classLink own z.catchType nm).before args s = true ∧ va_Nc E nm s)) (hx : covers x pc = true) (h0 : x.catchType ≠ 0)
    (hlink : (Cond.classLink own x.catchType name).before args s = true) (hcast : (Cond.castable E name).before args s = true) (hcell : H[q]? = some ce) (hv : ce.vm = .none) (hcl : s.vm.findClass E = some ce.cls)
    (kk : W p l e R s m args below meth c H locs cells slots Q (F0 m x.handlerPc ls [.ref q])) : vx_W p l e R s m args below meth c H locs cells slots Q (F0 m pc ls rest) q := by
  intro T hT X
  have hpl : e.platform.magicAccessors = ({} : Platform).magicAccessors := by rw [X.admits.platform]
  obtain ⟨c3, c4, hc3, hc4, hasg⟩ := Cond.castable_spec hcast
  cases Option.some.inj (hc3.symm.trans hcl)
  obtain ⟨c5, hc5, hcl5⟩ := Cond.classLink_spec hown hlink e.platform hpl
  cases Option.some.inj (hc4.symm.trans hc5)
  obtain ⟨vm', X', st⟩ := X.thenCaughtThrough q (g := F0 m pc ls rest) rfl (Steps.refl _) (by rw [hT]; exact hcell) (by rw [hv]; rfl) (by obtain ⟨k9, h9, -⟩ := Vm.findClass_spec hcl; exact ⟨k9, h9⟩) pre x suf hsplit
    (fun z hz => by
      rcases hpass z hz with h | ⟨hz0, nm, hl1, hn1⟩
      · exact Or.inl h
      · obtain ⟨c6, hc6, hcl6⟩ := Cond.classLink_spec hown hl1 e.platform hpl
        obtain ⟨a8, b8, h1, h2, h3⟩ := hn1
        cases Option.some.inj (h1.symm.trans hcl)
        cases Option.some.inj (h2.symm.trans hc6)
        exact Or.inr ⟨hz0, _, hcl6, h3⟩) hx (Or.inr ⟨h0, c4, hcl5, hasg⟩)
  obtain ⟨t, a1, b1⟩ := kk (T.setVm vm') hT X'
  exact ⟨t, st.trans a1, b1⟩
end Rows
section Ends
variable {p : Program} {l : Launch} {e : Env} {R : Room} {s : State} {m : MethodId} {args : Array Value} {below : List Frame} {meth : Method} {c : Code} {H : Heap} {locs : List Loc} {cells slots : Nat} {Q : State → Prop}
variable {mc ms : Nat} {free : Addr → Prop} {A0 A1 : Nat → Prop} {H0 : Heap} {a : Array Value} {ls : Array Slot} {st0 rest : List Value}
variable {Qc : Array Value → State → Outcome → State → Prop} {XC : String → State → State → Prop}
/-- what a body that may throw owes at its end -/
def vx_MQ (below : List Frame) (Qc : Array Value → State → Outcome → State → Prop) (XC : String → State → State → Prop) (a : Array Value) (s : State) (mc ms : Nat) (free : Addr → Prop) : State → Prop := fun t =>
  ∃ o, t.status = .running ∧ Ended t below o ∧ vx_Q Qc XC mc ms free a s o t
theorem vx_ret {g : JFrame} {mc ms : Nat} (k : W p l e R s m args below meth c H locs cells slots (MQ below Qc args s mc ms free) g) : W p l e R s m args below meth c H locs cells slots (vx_MQ below Qc XC args s mc ms free) g := by
  intro T hT X
  obtain ⟨t, a1, o, b1, b2, b3, b4⟩ := k T hT X
  exact ⟨t, a1, o, b1, b2, Or.inl ⟨b3, b4⟩⟩
/-- not caught here: it goes on to the caller -/
theorem vx_widen {g : JFrame} {q : Addr} {k n : Nat} (h1 : cells ≤ k) (h2 : slots ≤ n) (kk : vx_W p l e R s m args below meth c H locs k n Q g q) : vx_W p l e R s m args below meth c H locs cells slots Q g q := fun T hT X => kk T hT (stand_widen X h1 h2)
theorem vx_out {pc : Nat} {E : String} {ce : Cell} {q : Addr} {mc ms : Nat} (hout : ∀ x ∈ c.exceptionTable.toList, covers x pc = false) (hlocks : meth.locks = false) (hcell : H[q]? = some ce) (hv : ce.vm = .none) (hcl : s.vm.findClass E = some ce.cls)
    (hx : ∀ t : State, t.heap = H → s.vm.Alike t.vm → XC E s t) (hf : ∀ z ∈ locs, free z.base) (hc : cells ≤ mc) (hs : slots ≤ ms) :
    vx_W p l e R s m args below meth c H locs cells slots (vx_MQ below Qc XC args s mc ms free) (F0 m pc ls rest) q := by
  intro T hT X
  obtain ⟨st1, hrun, hend, hW, hsm⟩ := X.leaveThrown q (g := F0 m pc ls rest) rfl rfl rfl hout hlocks
  have hcell9 : (T.setFrames (.throwing q :: below)).heap[q]? = some ce := by
    show T.heap[q]? = some ce
    rw [hT]; exact hcell
  exact ⟨_, st1, .threw q, hrun, hend, Or.inr ⟨q, rfl, E, ce, locs, hx _ hT hW.alike, hcell9, hv, hcl, hW, hsm.mono hc hs, hf⟩⟩
theorem vx_frame {U : State} {k n : Nat} (h : s.sameButNew ({ U with vm := s.vm } : State) locs k n) : s.heap.size ≤ U.heap.size ∧ ∀ q : Nat, q < s.heap.size → (∀ z ∈ locs, z.base ≠ q) → U.heap[q]? = s.heap[q]? := by
  obtain ⟨-, h2, -, -, -, h6⟩ := h
  refine ⟨h2, fun q hq hz => ?_⟩
  obtain ⟨c9, e1, e2, e3, e4⟩ := h6 q _ (Array.getElem?_eq_getElem hq)
  have hs : c9.slots = (s.heap[q]).slots := Array.ext_getElem? fun i => e4 i fun hm => hz _ hm rfl
  have h9 : c9 = s.heap[q] := by
    rw [hs] at e2
    exact e2
  have e5 : U.heap[q]? = some c9 := e1
  rw [e5, h9, Array.getElem?_eq_getElem hq]
/-- the words of a throw but the four that speak of the heap -/
def vx_no (w : Cond) : Bool := decide (w ≠ .isRef (.static Bundle.tN "UNASSIGNED_STACK" Bundle.steD)) && decide (w ≠ .isRef (.static Bundle.tN "SUPPRESSED_SENTINEL" Bundle.listD)) && decide (w ≠ .laysStatic Bundle.tN "UNASSIGNED_STACK" Bundle.steD) && decide (w ≠ .laysStatic Bundle.tN "SUPPRESSED_SENTINEL" Bundle.listD)
def vx_at0 (own : String) (ic : Nat) (X : String) (names : List String) : List Cond := (Bundle.ownAtoms0 own ic X names).filter vx_no
def vx_atS (own : String) (ic : Nat) (X : String) (names : List String) : List Cond := (Bundle.ownAtoms own ic X names).filter vx_no
/-- a word that the tables alone decide, or a good one -/
def vx_ot (w : Cond) : Bool := w.onTables || goodWord w
theorem vx_ot_at {args a' : Array Value} {s U : State} {w : Cond} (hW : s.WarmedH U.vm) (hvm : s.vm = U.vm) (hg : vx_ot w = true) (h : w.before args s = true) : w.before a' U = true := by
  simp only [vx_ot, Bool.or_eq_true] at hg
  rcases hg with hg | hg
  · exact va_tabs hg hvm h
  · exact word_at hW (good_of_word hg) h
/-- a list's words: the good ones out of the method's own list, the others by premises of their own -/
theorem vx_hat {args : Array Value} {s : State} {L B : List Cond} (h1 : ∀ w ∈ L.filter goodWord, w.before args s = true) (h2 : ∀ w ∈ L.filter (fun w => !goodWord w), w ∈ B) (h3 : ∀ w ∈ B, w.before args s = true) : ∀ w ∈ L, w.before args s = true := by
  intro w hw
  by_cases g : goodWord w = true
  · exact h1 w (List.mem_filter.mpr ⟨hw, g⟩)
  · refine h3 w (h2 w (List.mem_filter.mpr ⟨hw, ?_⟩))
    show (!goodWord w) = true
    cases hgw : goodWord w
    · rfl
    · exact absurd hgw g
theorem vx_c {args : Array Value} {s : State} {w : Cond} {B : List Cond} (h : w.before args s = true) (t : ∀ w ∈ B, w.before args s = true) : ∀ w' ∈ w :: B, w'.before args s = true := fun w' h' => (List.mem_cons.mp h').elim (fun e => by rw [e]; exact h) (t w')
theorem vx_n {args : Array Value} {s : State} : ∀ w ∈ ([] : List Cond), w.before args s = true := fun _ h => nomatch h
theorem vx_own {args : Array Value} {s : State} {L : List Cond} (h1 : ∀ w ∈ L.filter vx_no, w.before args s = true)
    (hU : (Cond.isRef (.static Bundle.tN "UNASSIGNED_STACK" Bundle.steD)).before args s = true) (hN : (Cond.isRef (.static Bundle.tN "SUPPRESSED_SENTINEL" Bundle.listD)).before args s = true)
    (lU : (Cond.laysStatic Bundle.tN "UNASSIGNED_STACK" Bundle.steD).before args s = true) (lN : (Cond.laysStatic Bundle.tN "SUPPRESSED_SENTINEL" Bundle.listD).before args s = true) : ∀ w ∈ L, w.before args s = true := by
  intro w hw
  by_cases e1 : w = .isRef (.static Bundle.tN "UNASSIGNED_STACK" Bundle.steD)
  · rw [e1]; exact hU
  · by_cases e2 : w = .isRef (.static Bundle.tN "SUPPRESSED_SENTINEL" Bundle.listD)
    · rw [e2]; exact hN
    · by_cases e3 : w = .laysStatic Bundle.tN "UNASSIGNED_STACK" Bundle.steD
      · rw [e3]; exact lU
      · by_cases e4 : w = .laysStatic Bundle.tN "SUPPRESSED_SENTINEL" Bundle.listD
        · rw [e4]; exact lN
        · exact h1 w (List.mem_filter.mpr ⟨hw, by unfold vx_no; rw [decide_eq_true e1, decide_eq_true e2, decide_eq_true e3, decide_eq_true e4]; rfl⟩)
/-- where a static field lies, its class's statics cell in H -/
def vx_L (C n d : String) (A : Nat → Prop) (U : State) (H : Heap) : Prop := ∃ (c : ClassId) (k : Class) (i : Nat) (f : Field) (a : Nat) (cell : Cell), U.vm.findClass C = some c ∧ U.fieldFound? C n d = some (c, k, i, f) ∧ f.isStatic = true ∧ k.statics = some a ∧ H[a]? = some cell ∧ cell.vm.isStatics = true ∧ cell.cls = c ∧ f.slot < cell.slots.size ∧ k.staticTypes[f.slot]? = some f.type ∧ ¬ A a
theorem vx_L.moved {C n d : String} {A : Nat → Prop} {u U : State} {H : Heap} (hvm : u.vm.Alike U.vm) (h : vx_L C n d A u H) : vx_L C n d A U H := by
  obtain ⟨c, k, i, f, a, cell, h1, h2, h3, h4, h5, h6, h7, h8, h9, h10⟩ := h
  obtain ⟨k', hi', he⟩ := State.fieldFound?_setVm hvm h2
  exact ⟨c, k', i, f, a, cell, by rw [hvm.findClass]; exact h1, hi', h3, by rw [he]; exact h4, h5, h6, h7, h8, by rw [he]; exact h9, h10⟩
theorem vx_L.kept {C n d : String} {A : Nat → Prop} {U : State} {H H1 : Heap} (h : vx_L C n d A U H) (hq : ∀ a : Nat, a < H.size → ¬ A a → H1[a]? = H[a]?) : vx_L C n d A U H1 := by
  obtain ⟨c, k, i, f, a, cell, h1, h2, h3, h4, h5, h6, h7, h8, h9, h10⟩ := h
  exact ⟨c, k, i, f, a, cell, h1, h2, h3, h4, by rw [hq a (Array.getElem?_eq_some_iff.mp h5).1 h10]; exact h5, h6, h7, h8, h9, h10⟩
theorem vx_L.narrow {C n d : String} {A B : Nat → Prop} {U : State} {H : Heap} (h : vx_L C n d A U H) (hAB : ∀ q, B q → A q) : vx_L C n d B U H := by
  obtain ⟨c, k, i, f, a, cell, h1, h2, h3, h4, h5, h6, h7, h8, h9, h10⟩ := h
  exact ⟨c, k, i, f, a, cell, h1, h2, h3, h4, h5, h6, h7, h8, h9, fun z => h10 (hAB _ z)⟩
theorem vx_L.word {C n d : String} {A : Nat → Prop} {s : State} {args : Array Value} (h : vx_L C n d A s s.heap) : (Cond.laysStatic C n d).before args s = true := by
  obtain ⟨c, k, i, f, a, cell, h1, h2, h3, h4, h5, h6, h7, h8, h9, -⟩ := h
  show (Cond.laysStatic C n d).holds args s none s [] = true
  exact Cond.laysStatic_of h1 h2 h3 h4 h5 h6 h7 h8 h9
/-- .. and what it holds: null or some reference -/
def vx_Zq (C n d : String) (A : Nat → Prop) (U : State) (H : Heap) : Prop := va_Zq C n d A U H ∧ vx_L C n d A U H
theorem vx_Zq.moved {C n d : String} {A : Nat → Prop} {u U : State} {H : Heap} (hvm : u.vm.Alike U.vm) (h : vx_Zq C n d A u H) : vx_Zq C n d A U H := ⟨va_Zq.moved hvm h.1, vx_L.moved hvm h.2⟩
theorem vx_Zq.kept {C n d : String} {A : Nat → Prop} {U : State} {H H1 : Heap} (h : vx_Zq C n d A U H) (hq : ∀ a : Nat, a < H.size → ¬ A a → H1[a]? = H[a]?) : vx_Zq C n d A U H1 := ⟨va_Zq.kept h.1 hq, vx_L.kept h.2 hq⟩
theorem vx_Zq.narrow {C n d : String} {A B : Nat → Prop} {U : State} {H : Heap} (h : vx_Zq C n d A U H) (hAB : ∀ q, B q → A q) : vx_Zq C n d B U H := ⟨va_Zq.narrow h.1 hAB, vx_L.narrow h.2 hAB⟩
theorem vx_Zqof {args : Array Value} {s : State} {C n d : String} {A : Nat → Prop} (hl : (Cond.laysStatic C n d).before args s = true) (hini : (Cond.initialized C).before args s = true) (h : (Cond.isRef (.static C n d)).before args s = true) (hA : ∀ a : Nat, a < s.heap.size → ¬ A a) : vx_Zq C n d A s s.heap := by
  refine ⟨va_Zqof hl hini h hA, ?_⟩
  obtain ⟨c, k, i, f, a, cell, h1, h2, h3, h4, h5, h6, h7, h8, h9⟩ := Cond.laysStatic_spec hl
  exact ⟨c, k, i, f, a, cell, h1, h2, h3, h4, h5, h6, h7, h8, h9, hA a (Array.getElem?_eq_some_iff.mp h5).1⟩
theorem vx_isRef {C n d : String} {v : Value} {A : Nat → Prop} {s : State} {args : Array Value} (h : va_Z C n d v A s s.heap) (hv : v.isRef = true) : (Cond.isRef (.static C n d)).before args s = true := by
  obtain ⟨cf, kf, fi, f, a, cell, h1, h2, h3, h4, h5, h6, h7, -⟩ := h
  have he : (Term.static C n d).eval args s none [] s = some v := by
    simp [Term.eval, State.fieldNamed?, h1, h2, h4, h5, h6, h7]
  simp only [Cond.before, Cond.holds, Cond.value, he]
  cases v <;> simp_all [Value.isRef]
theorem vx_isRefq {C n d : String} {A : Nat → Prop} {s : State} {args : Array Value} (h : va_Zq C n d A s s.heap) : (Cond.isRef (.static C n d)).before args s = true := by
  rcases h with h | ⟨t, h⟩
  · exact vx_isRef h rfl
  · exact vx_isRef h rfl
/-- the same frame, seen from here: as if the method were called anew in this heap -/
theorem vx_rebase {T : State} (X : Stand p l e R s m args below meth c T locs cells slots) {R' : Room} (hf : R'.frames ≤ R.frames) (hl : R'.locals ≤ R.locals) (hc : cells + R'.cells ≤ R.cells) (hs : slots + R'.slots ≤ R.slots) :
    Stand p l e R' ((T.setVm s.vm).setFrames (.invoking m args :: below)) m args below meth c T [] 0 0 := by
  have htop : (T.setVm s.vm).topJava?.isSome := X.here.top
  have hF : ((T.setVm s.vm).setFrames (.invoking m args :: below)).frames = .invoking m args :: below := State.frames_setFrames _ (State.cur_lt_of_top htop)
  obtain ⟨g₀, hg0⟩ := Option.isSome_iff_exists.mp htop
  obtain ⟨r, hr⟩ := State.topJava?_eq_some.mp hg0
  have hl9 : e.platform.stackLimits (T.setVm s.vm).me = e.platform.stackLimits s.me := X.limits
  have hb9 : (T.setVm s.vm).me.stackBytes = s.me.stackBytes := X.bytes
  refine ⟨X.admits, X.cas, X.clock, hF, ?_, X.hears, X.method, X.code, X.here, X.tail, X.warmed, ?_, ?_, ?_⟩
  · have h := X.room
    have hU : ((T.setVm s.vm).setFrames (.invoking m args :: below)).localsInUse = s.localsInUse := by
      rw [State.localsInUse_invoking hF (meth := meth) (c := c) X.method X.code, State.localsInUse_invoking X.frames X.method X.code]
    simp only [State.hasRoom, Bool.and_eq_true, decide_eq_true_eq] at h ⊢
    obtain ⟨⟨⟨⟨h1, h2, h3, h4, h5, h6⟩, h7⟩, h8⟩, h9⟩ := h
    rw [X.frames, List.length_cons] at h2 h3
    have q1 := X.heapSize
    have q2 := X.used
    simp only [hF, hU, List.length_cons, State.stackLimits_setFrames, State.stackBytes_setFrames, hl9, hb9]
    refine ⟨⟨⟨⟨by omega, by omega, by omega, by omega, by omega, h6⟩, ?_⟩, ?_⟩, X.book⟩
    · show T.heap.size + R'.cells ≤ e.platform.maxCells
      omega
    · show T.slotsUsed + R'.slots ≤ e.platform.maxSlots
      omega
  · rw [State.stackLimits_setFrames]; rfl
  · rw [State.stackBytes_setFrames]; rfl
  · refine ⟨?_, Nat.le_refl _, Nat.le_refl _, ?_, ?_, fun a c9 h9 => ⟨c9, h9, rfl, rfl, fun _ _ => rfl⟩⟩
    · obtain ⟨t, ht, -⟩ := State.frames_cons hr
      show T.setVm s.vm = { ((T.setVm s.vm).setFrames (.invoking m args :: below)).setFrames (T.setVm s.vm).frames with heap := T.heap, slotsUsed := T.slotsUsed }
      rw [State.setFrames_setFrames, State.setFrames_self ht]
      rfl
    · show T.slotsUsed = T.slotsUsed + ((T.heap.toList.drop T.heap.size).map (·.slots.size)).sum
      rw [List.drop_eq_nil_of_le (Nat.le_of_eq Array.length_toList)]
      rfl
    · show ((T.heap.toList.drop T.heap.size).map (·.slots.size)).sum ≤ 0
      rw [List.drop_eq_nil_of_le (Nat.le_of_eq Array.length_toList)]
      exact Nat.le_refl _
/-- 'throw new E()': new; dup; invokespecial; athrow -/
theorem vx_throw0 {cc : ByteArray} {pc : Nat} (hexec : p.tables.exec = Jvm.exec) (hb : c.code = cc) (hl : l.stackTraces = false) {own cls : String} {names : List String} {ik ic mc ms : Nat} {A : Nat → Prop}
    (hown : s.vm.findClass own = some m.cls) (hcls : Bundle.fit cls = true) (hnames : ∀ n ∈ names, Bundle.fit n = true)
    (hk : (Cond.classLink own ik cls).before args s = true) (hini : (Cond.initialized cls).before args s = true) (hat : ∀ w ∈ vx_at0 own ic cls names, w.before args s = true)
    (hgood : ∀ w ∈ Cond.classLink own ik cls :: Cond.initialized cls :: vx_at0 own ic cls names, vx_ot w = true)
    (hU : vx_Zq Bundle.tN "UNASSIGNED_STACK" Bundle.steD A s s.heap) (hN : vx_Zq Bundle.tN "SUPPRESSED_SENTINEL" Bundle.listD A s s.heap) (hS : va_S A s.heap H locs) (hsize : ls.size = c.maxLocals)
    (d0 : decode cc pc = .ok (.new ik, 3)) (d3 : decode cc (pc + 3) = .ok (.dup, 1)) (d4 : decode cc (pc + 4) = .ok (.invokespecial ic, 3)) (d7 : decode cc (pc + 7) = .ok (.athrow, 1))
    (hout : ∀ x ∈ c.exceptionTable.toList, covers x (pc + 7) = false)
    (hRframes : names.length + 3 < R.frames) (hRlocals : (rest.map fun v => v.category).sum + (13 * (names.length + 1) + 42) ≤ R.locals) (hRcells : cells + 1 ≤ R.cells) (hRslots : slots + 6 ≤ R.slots) (hlocks : meth.locks = false)
    (hx : ∀ t : State, s.vm.Alike t.vm → H.size ≤ t.heap.size → (∀ q : Nat, q < H.size → t.heap[q]? = H[q]?) → XC cls s t)
    (hf : ∀ z ∈ locs, free z.base) (hc : cells + 1 ≤ mc) (hs : slots + 6 ≤ ms) :
    W p l e R s m args below meth c H locs cells slots (vx_MQ below Qc XC args s mc ms free) (F0 m pc ls rest) := by
  intro T hT X
  have htr : e.platform.stackTraces = false := (show e.platform.stackTraces = l.stackTraces by rw [X.admits.platform]).trans hl
  have Y := vx_rebase X (R' := { frames := R.frames, locals := R.locals, cells := 1, slots := 6 }) (Nat.le_refl _) (Nat.le_refl _) hRcells hRslots
  obtain ⟨s', hA⟩ : ∃ z, z = (T.setVm s.vm).setFrames (.invoking m args :: below) := ⟨_, rfl⟩
  rw [← hA] at Y
  have hvm : s'.vm = s.vm := by rw [hA]; rfl
  have hhp : s'.heap = H := by rw [hA]; exact hT
  have hW0 : s.WarmedH s'.vm := by rw [hvm]; exact State.WarmedH.refl s
  have hat' : ∀ w ∈ vx_at0 own ic cls names, w.before args s' = true := fun w hw => vx_ot_at hW0 hvm.symm (hgood w (List.mem_cons_of_mem _ (List.mem_cons_of_mem _ hw))) (hat w hw)
  have hk' : (Cond.classLink own ik cls).before args s' = true := vx_ot_at hW0 hvm.symm (hgood _ List.mem_cons_self) hk
  have hini' : (Cond.initialized cls).before args s' = true := vx_ot_at hW0 hvm.symm (hgood _ (List.mem_cons_of_mem _ List.mem_cons_self)) hini
  have hU' : vx_Zq Bundle.tN "UNASSIGNED_STACK" Bundle.steD A s' s'.heap := by rw [hhp]; exact vx_Zq.moved hW0.alike (hU.kept hS.2.1)
  have hN' : vx_Zq Bundle.tN "SUPPRESSED_SENTINEL" Bundle.listD A s' s'.heap := by rw [hhp]; exact vx_Zq.moved hW0.alike (hN.kept hS.2.1)
  have h : ∀ w ∈ Bundle.ownAtoms0 own ic cls names, w.before args s' = true := vx_own hat' (vx_isRefq hU'.1) (vx_isRefq hN'.1) hU'.2.word hN'.2.word
  have hown' : s'.vm.findClass own = some m.cls := by rw [hvm]; exact hown
  have hins : (Cond.instantiable cls 6).before args s' = true := h _ (by simp [Bundle.ownAtoms0])
  obtain ⟨vm₁, cX, kX, hfX, hkX, -, -, X₁, st1⟩ := Y.newCold hexec (own := own) (C := cls) (index := ik) (n := 6) hown' hk' hins hini'
    (g := F0 m pc ls rest) rfl (by rw [hb]; exact d0) (Nat.le_refl _) (Nat.le_refl _)
  generalize hT1 : (T.setVm vm₁).pushCell { cls := cX, slots := kX.instanceTypes.map defaultValue, vm := .none } = T1 at X₁ st1
  have hcat : (Value.ref T.heap.size).category = 1 := rfl
  have hcellA : T1.heap[T.heap.size]? = some (freshCell cX kX) := by rw [← hT1]; exact State.heap_pushCell_size _ _
  have d3' : decode c.code (pc + 3) = .ok (.dup, 1) := by rw [hb]; exact d3
  obtain ⟨U, hsteps, hrun, hend, hW, hsame, ce, hce, hO⟩ := X₁.ctorThrow0 hexec htr (own := own) (cls := cls) (names := names) (ic := ic) hown' hcls hnames h (fun x hx => nomatch hx) hfX hkX hcellA (by rw [hhp, hT]; exact Nat.le_refl _)
    (g := { method := m, pc := pc + 4, locals := ls, stack := .ref T.heap.size :: .ref T.heap.size :: rest, locked := none }) rfl hsize rfl rfl (rest := rest) rfl
    (by rw [hb]; exact d4) (by rw [hb]; exact d7) hout hRframes (by simp only [List.map_cons, List.sum_cons, hcat]; omega) hlocks
  obtain ⟨f1, f2⟩ := vx_frame hsame
  rw [hhp] at f1 f2
  have hWs : s.WarmedH U.vm := State.WarmedH.trans hW0 hW
  have hcl : s.vm.findClass cls = some ce.cls := by
    have h9 := hO.cls
    rw [hvm] at h9
    exact h9
  have hall : s.sameButNew ({ U with vm := s.vm } : State) locs mc ms := by
    subst hA
    obtain ⟨e1, e2⟩ := hsame
    rw [State.setFrames_setFrames] at e1
    have h2 : (T.setVm s.vm).sameButNew ({ U with vm := s.vm } : State) [] (0 + 1) (0 + 6) := ⟨e1, e2⟩
    have h3 := X.same.trans h2
    rw [List.append_nil] at h3
    exact h3.mono hc hs
  refine ⟨U, ?_, .threw T.heap.size, hrun, hend, Or.inr ⟨T.heap.size, rfl, cls, ce, locs, hx U hWs.alike f1 (fun q hq => f2 q hq (fun z hz => nomatch hz)), hce, hO.vm, hcl, hWs, hall, hf⟩⟩
  refine st1 _ ?_
  show Steps p.tables e below (T1.setTop { method := m, pc := pc + 3, locals := ls, stack := .ref T.heap.size :: rest, locked := none }) _
  jvm_step X₁.here [X₁.here.top, hexec, d3', Value.category]
  exact hsteps
/-- 'throw new E("text")': new; dup; ldc; invokespecial; athrow -/
theorem vx_throwS {cc : ByteArray} {pc : Nat} (hexec : p.tables.exec = Jvm.exec) (hb : c.code = cc) (hl : l.stackTraces = false) {own cls text : String} {names : List String} {ik is ic mc ms sa : Nat} {A : Nat → Prop}
    (hown : s.vm.findClass own = some m.cls) (hcls : Bundle.fit cls = true) (hnames : ∀ n ∈ names, Bundle.fit n = true)
    (hk : (Cond.classLink own ik cls).before args s = true) (hini : (Cond.initialized cls).before args s = true) (hstr : vk_R own is text sa s) (hat : ∀ w ∈ vx_atS own ic cls names, w.before args s = true)
    (hgood : ∀ w ∈ Cond.classLink own ik cls :: Cond.initialized cls :: vx_atS own ic cls names, vx_ot w = true)
    (hU : vx_Zq Bundle.tN "UNASSIGNED_STACK" Bundle.steD A s s.heap) (hN : vx_Zq Bundle.tN "SUPPRESSED_SENTINEL" Bundle.listD A s s.heap) (hS : va_S A s.heap H locs) (hsize : ls.size = c.maxLocals)
    (d0 : decode cc pc = .ok (.new ik, 3)) (d3 : decode cc (pc + 3) = .ok (.dup, 1)) (d4 : decode cc (pc + 4) = .ok (.ldc is, 2)) (d6 : decode cc (pc + 6) = .ok (.invokespecial ic, 3)) (d9 : decode cc (pc + 9) = .ok (.athrow, 1))
    (hout : ∀ x ∈ c.exceptionTable.toList, covers x (pc + 9) = false)
    (hRframes : names.length + 3 < R.frames) (hRlocals : (rest.map fun v => v.category).sum + (13 * (names.length + 1) + 43) ≤ R.locals) (hRcells : cells + 1 ≤ R.cells) (hRslots : slots + 6 ≤ R.slots) (hlocks : meth.locks = false)
    (hx : ∀ t : State, s.vm.Alike t.vm → H.size ≤ t.heap.size → (∀ q : Nat, q < H.size → t.heap[q]? = H[q]?) → XC cls s t)
    (hf : ∀ z ∈ locs, free z.base) (hc : cells + 1 ≤ mc) (hs : slots + 6 ≤ ms) :
    W p l e R s m args below meth c H locs cells slots (vx_MQ below Qc XC args s mc ms free) (F0 m pc ls rest) := by
  intro T hT X
  have htr : e.platform.stackTraces = false := (show e.platform.stackTraces = l.stackTraces by rw [X.admits.platform]).trans hl
  have Y := vx_rebase X (R' := { frames := R.frames, locals := R.locals, cells := 1, slots := 6 }) (Nat.le_refl _) (Nat.le_refl _) hRcells hRslots
  obtain ⟨s', hA⟩ : ∃ z, z = (T.setVm s.vm).setFrames (.invoking m args :: below) := ⟨_, rfl⟩
  rw [← hA] at Y
  have hvm : s'.vm = s.vm := by rw [hA]; rfl
  have hhp : s'.heap = H := by rw [hA]; exact hT
  have hW0 : s.WarmedH s'.vm := by rw [hvm]; exact State.WarmedH.refl s
  have hat' : ∀ w ∈ vx_atS own ic cls names, w.before args s' = true := fun w hw => vx_ot_at hW0 hvm.symm (hgood w (List.mem_cons_of_mem _ (List.mem_cons_of_mem _ hw))) (hat w hw)
  have hk' : (Cond.classLink own ik cls).before args s' = true := vx_ot_at hW0 hvm.symm (hgood _ List.mem_cons_self) hk
  have hini' : (Cond.initialized cls).before args s' = true := vx_ot_at hW0 hvm.symm (hgood _ (List.mem_cons_of_mem _ List.mem_cons_self)) hini
  have hU' : vx_Zq Bundle.tN "UNASSIGNED_STACK" Bundle.steD A s' s'.heap := by rw [hhp]; exact vx_Zq.moved hW0.alike (hU.kept hS.2.1)
  have hN' : vx_Zq Bundle.tN "SUPPRESSED_SENTINEL" Bundle.listD A s' s'.heap := by rw [hhp]; exact vx_Zq.moved hW0.alike (hN.kept hS.2.1)
  have h : ∀ w ∈ Bundle.ownAtoms own ic cls names, w.before args s' = true := vx_own hat' (vx_isRefq hU'.1) (vx_isRefq hN'.1) hU'.2.word hN'.2.word
  have hown' : s'.vm.findClass own = some m.cls := by rw [hvm]; exact hown
  have hins : (Cond.instantiable cls 6).before args s' = true := h _ (by simp [Bundle.ownAtoms])
  obtain ⟨vm₁, cX, kX, hfX, hkX, -, -, X₁, st1⟩ := Y.newCold hexec (own := own) (C := cls) (index := ik) (n := 6) hown' hk' hins hini'
    (g := F0 m pc ls rest) rfl (by rw [hb]; exact d0) (Nat.le_refl _) (Nat.le_refl _)
  generalize hT1 : (T.setVm vm₁).pushCell { cls := cX, slots := kX.instanceTypes.map defaultValue, vm := .none } = T1 at X₁ st1
  have hcat : (Value.ref T.heap.size).category = 1 := rfl
  have hcellA : T1.heap[T.heap.size]? = some (freshCell cX kX) := by rw [← hT1]; exact State.heap_pushCell_size _ _
  have d3' : decode c.code (pc + 3) = .ok (.dup, 1) := by rw [hb]; exact d3
  have d4' : decode c.code (pc + 4) = .ok (.ldc is, 2) := by rw [hb]; exact d4
  have hstr' : vk_R own is text sa s' := vk_R.warm hW0 hstr
  obtain ⟨U, hsteps, hrun, hend, hW, hsame, ce, hce, hO⟩ := X₁.ctorThrowS hexec htr (own := own) (cls := cls) (names := names) (ic := ic) hown' hcls hnames h (fun x hx => nomatch hx) hfX hkX hcellA (by rw [hhp, hT]; exact Nat.le_refl _) (msg := .ref sa) rfl
    (g := { method := m, pc := pc + 6, locals := ls, stack := .ref sa :: .ref T.heap.size :: .ref T.heap.size :: rest, locked := none }) rfl hsize rfl rfl (rest := rest) rfl
    (by rw [hb]; exact d6) (by rw [hb]; exact d9) hout hRframes (by simp only [List.map_cons, List.sum_cons, hcat]; omega) hlocks
  obtain ⟨f1, f2⟩ := vx_frame hsame
  rw [hhp] at f1 f2
  have hWs : s.WarmedH U.vm := State.WarmedH.trans hW0 hW
  have hcl : s.vm.findClass cls = some ce.cls := by
    have h9 := hO.cls
    rw [hvm] at h9
    exact h9
  have hall : s.sameButNew ({ U with vm := s.vm } : State) locs mc ms := by
    subst hA
    obtain ⟨e1, e2⟩ := hsame
    rw [State.setFrames_setFrames] at e1
    have h2 : (T.setVm s.vm).sameButNew ({ U with vm := s.vm } : State) [] (0 + 1) (0 + 6) := ⟨e1, e2⟩
    have h3 := X.same.trans h2
    rw [List.append_nil] at h3
    exact h3.mono hc hs
  refine ⟨U, ?_, .threw T.heap.size, hrun, hend, Or.inr ⟨T.heap.size, rfl, cls, ce, locs, hx U hWs.alike f1 (fun q hq => f2 q hq (fun z hz => nomatch hz)), hce, hO.vm, hcl, hWs, hall, hf⟩⟩
  refine st1 _ ?_
  show Steps p.tables e below (T1.setTop { method := m, pc := pc + 3, locals := ls, stack := .ref T.heap.size :: rest, locked := none }) _
  jvm_step X₁.here [X₁.here.top, hexec, d3', Value.category]
  exact X₁.ldcString hexec (own := own) (text := text) (index := is) (a := sa) hown' hstr'.1 hstr'.2
    (g := { method := m, pc := pc + 4, locals := ls, stack := .ref T.heap.size :: .ref T.heap.size :: rest, locked := none }) rfl d4' _ hsteps
/-- 'throw new E("text")', the text by a wide index -/
theorem vx_throwSW {cc : ByteArray} {pc : Nat} (hexec : p.tables.exec = Jvm.exec) (hb : c.code = cc) (hl : l.stackTraces = false) {own cls text : String} {names : List String} {ik is ic mc ms sa : Nat} {A : Nat → Prop}
    (hown : s.vm.findClass own = some m.cls) (hcls : Bundle.fit cls = true) (hnames : ∀ n ∈ names, Bundle.fit n = true)
    (hk : (Cond.classLink own ik cls).before args s = true) (hini : (Cond.initialized cls).before args s = true) (hstr : vk_R own is text sa s) (hat : ∀ w ∈ vx_atS own ic cls names, w.before args s = true)
    (hgood : ∀ w ∈ Cond.classLink own ik cls :: Cond.initialized cls :: vx_atS own ic cls names, vx_ot w = true)
    (hU : vx_Zq Bundle.tN "UNASSIGNED_STACK" Bundle.steD A s s.heap) (hN : vx_Zq Bundle.tN "SUPPRESSED_SENTINEL" Bundle.listD A s s.heap) (hS : va_S A s.heap H locs) (hsize : ls.size = c.maxLocals)
    (d0 : decode cc pc = .ok (.new ik, 3)) (d3 : decode cc (pc + 3) = .ok (.dup, 1)) (d4 : decode cc (pc + 4) = .ok (.ldc_w is, 3)) (d7 : decode cc (pc + 7) = .ok (.invokespecial ic, 3)) (d10 : decode cc (pc + 10) = .ok (.athrow, 1))
    (hout : ∀ x ∈ c.exceptionTable.toList, covers x (pc + 10) = false)
    (hRframes : names.length + 3 < R.frames) (hRlocals : (rest.map fun v => v.category).sum + (13 * (names.length + 1) + 43) ≤ R.locals) (hRcells : cells + 1 ≤ R.cells) (hRslots : slots + 6 ≤ R.slots) (hlocks : meth.locks = false)
    (hx : ∀ t : State, s.vm.Alike t.vm → H.size ≤ t.heap.size → (∀ q : Nat, q < H.size → t.heap[q]? = H[q]?) → XC cls s t)
    (hf : ∀ z ∈ locs, free z.base) (hc : cells + 1 ≤ mc) (hs : slots + 6 ≤ ms) :
    W p l e R s m args below meth c H locs cells slots (vx_MQ below Qc XC args s mc ms free) (F0 m pc ls rest) := by
  intro T hT X
  have htr : e.platform.stackTraces = false := (show e.platform.stackTraces = l.stackTraces by rw [X.admits.platform]).trans hl
  have Y := vx_rebase X (R' := { frames := R.frames, locals := R.locals, cells := 1, slots := 6 }) (Nat.le_refl _) (Nat.le_refl _) hRcells hRslots
  obtain ⟨s', hA⟩ : ∃ z, z = (T.setVm s.vm).setFrames (.invoking m args :: below) := ⟨_, rfl⟩
  rw [← hA] at Y
  have hvm : s'.vm = s.vm := by rw [hA]; rfl
  have hhp : s'.heap = H := by rw [hA]; exact hT
  have hW0 : s.WarmedH s'.vm := by rw [hvm]; exact State.WarmedH.refl s
  have hat' : ∀ w ∈ vx_atS own ic cls names, w.before args s' = true := fun w hw => vx_ot_at hW0 hvm.symm (hgood w (List.mem_cons_of_mem _ (List.mem_cons_of_mem _ hw))) (hat w hw)
  have hk' : (Cond.classLink own ik cls).before args s' = true := vx_ot_at hW0 hvm.symm (hgood _ List.mem_cons_self) hk
  have hini' : (Cond.initialized cls).before args s' = true := vx_ot_at hW0 hvm.symm (hgood _ (List.mem_cons_of_mem _ List.mem_cons_self)) hini
  have hU' : vx_Zq Bundle.tN "UNASSIGNED_STACK" Bundle.steD A s' s'.heap := by rw [hhp]; exact vx_Zq.moved hW0.alike (hU.kept hS.2.1)
  have hN' : vx_Zq Bundle.tN "SUPPRESSED_SENTINEL" Bundle.listD A s' s'.heap := by rw [hhp]; exact vx_Zq.moved hW0.alike (hN.kept hS.2.1)
  have h : ∀ w ∈ Bundle.ownAtoms own ic cls names, w.before args s' = true := vx_own hat' (vx_isRefq hU'.1) (vx_isRefq hN'.1) hU'.2.word hN'.2.word
  have hown' : s'.vm.findClass own = some m.cls := by rw [hvm]; exact hown
  have hins : (Cond.instantiable cls 6).before args s' = true := h _ (by simp [Bundle.ownAtoms])
  obtain ⟨vm₁, cX, kX, hfX, hkX, -, -, X₁, st1⟩ := Y.newCold hexec (own := own) (C := cls) (index := ik) (n := 6) hown' hk' hins hini'
    (g := F0 m pc ls rest) rfl (by rw [hb]; exact d0) (Nat.le_refl _) (Nat.le_refl _)
  generalize hT1 : (T.setVm vm₁).pushCell { cls := cX, slots := kX.instanceTypes.map defaultValue, vm := .none } = T1 at X₁ st1
  have hcat : (Value.ref T.heap.size).category = 1 := rfl
  have hcellA : T1.heap[T.heap.size]? = some (freshCell cX kX) := by rw [← hT1]; exact State.heap_pushCell_size _ _
  have d3' : decode c.code (pc + 3) = .ok (.dup, 1) := by rw [hb]; exact d3
  have d4' : decode c.code (pc + 4) = .ok (.ldc_w is, 3) := by rw [hb]; exact d4
  have hstr' : vk_R own is text sa s' := vk_R.warm hW0 hstr
  obtain ⟨U, hsteps, hrun, hend, hW, hsame, ce, hce, hO⟩ := X₁.ctorThrowS hexec htr (own := own) (cls := cls) (names := names) (ic := ic) hown' hcls hnames h (fun x hx => nomatch hx) hfX hkX hcellA (by rw [hhp, hT]; exact Nat.le_refl _) (msg := .ref sa) rfl
    (g := { method := m, pc := pc + 7, locals := ls, stack := .ref sa :: .ref T.heap.size :: .ref T.heap.size :: rest, locked := none }) rfl hsize rfl rfl (rest := rest) rfl
    (by rw [hb]; exact d7) (by rw [hb]; exact d10) hout hRframes (by simp only [List.map_cons, List.sum_cons, hcat]; omega) hlocks
  obtain ⟨f1, f2⟩ := vx_frame hsame
  rw [hhp] at f1 f2
  have hWs : s.WarmedH U.vm := State.WarmedH.trans hW0 hW
  have hcl : s.vm.findClass cls = some ce.cls := by
    have h9 := hO.cls
    rw [hvm] at h9
    exact h9
  have hall : s.sameButNew ({ U with vm := s.vm } : State) locs mc ms := by
    subst hA
    obtain ⟨e1, e2⟩ := hsame
    rw [State.setFrames_setFrames] at e1
    have h2 : (T.setVm s.vm).sameButNew ({ U with vm := s.vm } : State) [] (0 + 1) (0 + 6) := ⟨e1, e2⟩
    have h3 := X.same.trans h2
    rw [List.append_nil] at h3
    exact h3.mono hc hs
  refine ⟨U, ?_, .threw T.heap.size, hrun, hend, Or.inr ⟨T.heap.size, rfl, cls, ce, locs, hx U hWs.alike f1 (fun q hq => f2 q hq (fun z hz => nomatch hz)), hce, hO.vm, hcl, hWs, hall, hf⟩⟩
  refine st1 _ ?_
  show Steps p.tables e below (T1.setTop { method := m, pc := pc + 3, locals := ls, stack := .ref T.heap.size :: rest, locked := none }) _
  jvm_step X₁.here [X₁.here.top, hexec, d3', Value.category]
  exact X₁.ldcStringW hexec (own := own) (text := text) (index := is) (a := sa) hown' hstr'.1 hstr'.2
    (g := { method := m, pc := pc + 4, locals := ls, stack := .ref T.heap.size :: .ref T.heap.size :: rest, locked := none }) rfl d4' _ hsteps
end Ends
section Bodies
variable {l : Launch}
theorem vx_ofW {y : MethodName} {ws ws' : List Cond} {rm : Room} {Pc : Array Value → State → Prop} {Qc : Array Value → State → Outcome → State → Prop} {XC : String → State → State → Prop} {mc ms : Nat} {free : Addr → Prop} {cc : ByteArray} {maxL : Nat} {ret : Option FieldType}
    (hy : plainName y.cls = true) (hw : ws = Cond.code y cc maxL ret :: ws')
    (body : ∀ p e s m args below meth c s₁, BodyLoose p l y (headSpec ws rm) cc maxL ret e s m args below meth c s₁ → c.maxLocals = maxL → (∀ x ∈ c.exceptionTable.toList, False) → Pc args s →
      W p l e (headSpec ws rm).room s m args below meth c s.heap [] 0 0 (vx_MQ below Qc XC args s mc ms free) (entryFrame m args maxL)) : vx_Met l y ws rm Pc Qc XC mc ms free := by
  refine MetFree.of_bodyS (code := cc) (maxLocals := maxL) (ret := ret) hy ?_ ?_
  · intro args s m h hn
    obtain ⟨meth, c, h1, h2, h3, h4, h5, h6, -, -⟩ := Cond.code_spec hn (atoms_spec (ws := ws) h _ (by rw [hw]; exact List.mem_cons_self))
    exact ⟨meth, c, h1, h2, h3, h4, h5, h6⟩
  · intro p e s m args below meth c s₁ B hml hP _
    have hh0 : s₁.heap = s.heap := by rw [B.state]; rfl
    have ht : ∀ x ∈ c.exceptionTable.toList, False := by
      obtain ⟨meth9, c9, h1, h2, -, -, -, -, h7, -⟩ := Cond.code_spec B.named (atoms_spec (ws := ws) B.pre _ (by rw [hw]; exact List.mem_cons_self))
      cases Option.some.inj (h1.symm.trans B.method)
      cases Option.some.inj (h2.symm.trans (Stand.of_body B).code)
      intro x hx
      rw [Array.isEmpty_iff.mp h7] at hx
      cases hx
    obtain ⟨t, a1, o, b1, b2, b3⟩ := body p e s m args below meth c s₁ B hml ht hP s₁ hh0 (Stand.of_body B)
    exact ⟨t, o, a1, b1, b2, b3⟩
/-- the table of a body with handlers -/
theorem vx_table {p : Program} {x y : MethodName} {S : Spec} {cc bytes : ByteArray} {maxL maxL' : Nat} {ret ret' : Option FieldType} {e : Env} {s s₁ : State} {m : MethodId} {args : Array Value} {below : List Frame} {meth : Method} {c : Code} {hh : List (Nat × Nat × Nat × Nat)}
    (B : BodyLoose p l y S cc maxL ret e s m args below meth c s₁) (h : (Cond.codeWith y bytes maxL' ret' hh).before args s = true) : c.exceptionTable.toList = tableOf hh := by
  obtain ⟨m9, meth9, c9, hn9, h1, h2, -, -, h6, -⟩ := Cond.codeWith_spec h
  cases Option.some.inj (hn9.symm.trans B.named)
  cases Option.some.inj (h1.symm.trans B.method)
  cases Option.some.inj (h2.symm.trans (Stand.of_body B).code)
  rw [← h6, table_eq]
end Bodies
end VXA
/-! ===== END ===== -/
/-! ===== BEGIN a static call of a method with an exception table ===== -/
section VXS
variable {p : Program} {l : Launch} {e : Env} {R : Room} {s : State} {m : MethodId} {args : Array Value} {below : List Frame} {meth : Method} {c : Code} {T : State} {H : Heap} {locs : List Loc} {cells slots : Nat}
abbrev vx_CSW (R : Room) (s : State) (args : Array Value) (own : String) (index : Nat) (y : MethodName) (bytes : ByteArray) (maxL : Nat) (ret : Option FieldType) (hh : List (Nat × Nat × Nat × Nat)) (ws : List Cond) (rm : Room) (mc ms n : Nat) : Prop :=
  (rm.cells = mc ∧ rm.slots = ms ∧ rm.frames + 1 ≤ R.frames ∧ 8 + (maxL + 11) + rm.locals ≤ R.locals ∧ (∀ w ∈ ws, ∀ (a' : Array Value) (U : State), s.WarmedH U.vm → w.before a' U = true) ∧ Cond.codeWith y bytes maxL ret hh ∈ ws) ∧
  (Cond.codeWith y bytes maxL ret hh).before args s = true ∧ (Cond.initialized y.cls).before args s = true ∧ (y.cls ≠ "java/lang/invoke/MethodHandle" ∧ y.cls ≠ "java/lang/invoke/VarHandle") ∧
  (∀ sig, parseMethodDescriptor y.desc = some sig → n = sig.parameters.length) ∧ (Cond.methodLink own index y).before args s = true ∧ (Cond.static y).before args s = true
theorem vx_cwSW {own : String} {index maxL mc ms : Nat} {y : MethodName} {bytes : ByteArray} {ret : Option FieldType} {hh : List (Nat × Nat × Nat × Nat)} {Ts ws ws' : List Cond} {rm : Room} (n : Nat) (ht : ∀ w ∈ Ts, w.before args s = true) (hT : GoodIn Ts (va_wsS own index y ws)) (hw : ws = Cond.codeWith y bytes maxL ret hh :: ws') (hrc : rm.cells = mc) (hrs : rm.slots = ms)
    (hd : y.cls ≠ "java/lang/invoke/MethodHandle" ∧ y.cls ≠ "java/lang/invoke/VarHandle" ∧ (parseMethodDescriptor y.desc).map (fun d => d.parameters.length) = some n) (hR : rm.frames + 1 ≤ R.frames ∧ 8 + (maxL + 11) + rm.locals ≤ R.locals) :
    vx_CSW R s args own index y bytes maxL ret hh ws rm mc ms n := by
  have ok : ∀ w ∈ va_wsS own index y ws, w.before args s = true := fun w h => ht w (hT w h).1
  have hG : GoodIn Ts ws := fun w h => hT w (by unfold va_wsS; exact List.mem_append_right _ h)
  have hc : Cond.codeWith y bytes maxL ret hh ∈ ws := by rw [hw]; exact List.mem_cons_self
  refine ⟨⟨hrc, hrs, hR.1, hR.2, pay_in ht hG, hc⟩, ht _ (hG _ hc).1, ok _ (by simp [va_wsS]), ⟨hd.1, hd.2.1⟩, fun sig h => ?_, ok _ (by simp [va_wsS]), ok _ (by simp [va_wsS])⟩
  have h2 := hd.2.2
  rw [h] at h2
  exact (Option.some.inj h2).symm
theorem vx_callSW (X : Stand p l e R s m args below meth c T locs cells slots) (hexec : p.tables.exec = Jvm.exec) {own : String} {index : Nat} {y : MethodName} {bytes : ByteArray} {maxL : Nat} {ret : Option FieldType} {hh : List (Nat × Nat × Nat × Nat)}
    (hown : s.vm.findClass own = some m.cls) (hlink : (Cond.methodLink own index y).before args s = true) (hstat : (Cond.static y).before args s = true) (hinit : (Cond.initialized y.cls).before args s = true)
    (hcode : (Cond.codeWith y bytes maxL ret hh).before args s = true) (hy : y.cls ≠ "java/lang/invoke/MethodHandle" ∧ y.cls ≠ "java/lang/invoke/VarHandle")
    {W9 : Nat} {Pre : Pt → Array Value → Prop} {Post : Pt → Array Value → Option Value → Pt → Prop} (hK : Back l R p e below s args y 3 W9 Pre Post)
    {g : JFrame} (hg : g.method = m) (hsize : g.locals.size = c.maxLocals) {argsL rest : List Value} (hlen : ∀ sig, parseMethodDescriptor y.desc = some sig → argsL.length = sig.parameters.length)
    (hstack : g.stack = argsL.reverse ++ rest) (hW : 2 * g.monitorRoom + (rest.map fun v => v.category).sum ≤ W9) (hdg : decode c.code g.pc = .ok (.invokestatic index, 3))
    (hpre : ∀ vm₁, s.WarmedH vm₁ → Pre ⟨T.setVm vm₁, locs, cells, slots⟩ argsL.toArray) :
    ∃ (v : Option Value) (vm₁ : Vm) (B : Pt), s.WarmedH vm₁ ∧ Stand p l e R s m args below meth c B.U B.locs B.cells B.slots ∧ Post ⟨T.setVm vm₁, locs, cells, slots⟩ argsL.toArray v B ∧
      ∀ target, Steps p.tables e below (B.U.setTop { g with pc := g.pc + 3, stack := v.toList ++ rest }) target → Steps p.tables e below (T.setTop g) target := by
  obtain ⟨mk, methM, cM, hnamed, hmethM, -, -, -, -, -, -, hsigM⟩ := Cond.codeWith_spec hcode
  have hstatic : methM.isStatic = true := Cond.static_spec hnamed hmethM hstat
  obtain ⟨kP, hkP, -⟩ := className_of_methodNamed hnamed
  have hinitP : kP.init = .initialized := Cond.initialized_spec (findClass_of_methodNamed hnamed) hkP hinit
  obtain ⟨vm₁, X₁, hstep₁⟩ := X.invokestatic hexec hown hlink hnamed hmethM hstatic hkP hinitP hy (g := g) hg (argsL := argsL) (rest := rest) (hlen _ hsigM) hstack hdg
  obtain ⟨v, B, X', hpost, hsteps⟩ := hK m meth c ⟨T.setVm vm₁, locs, cells, slots⟩ { g with stack := rest } (.invokestatic index) mk argsL.toArray X₁ hg hsize hdg hW (X₁.named hnamed) (hpre vm₁ X₁.warmed)
  exact ⟨v, vm₁, B, X₁.warmed, X', hpost, fun target h => hstep₁ _ fun acts => by rw [doInvoke_state]; exact hsteps.trans h⟩
theorem vx_runSW {y : MethodName} {bytes cc : ByteArray} {maxL nL mc ms n index : Nat} {ret : Option FieldType} {hh : List (Nat × Nat × Nat × Nat)} {ws : List Cond} {rm : Room} {Pc : Array Value → State → Prop} {Qc : Array Value → State → Outcome → State → Prop} {free : Addr → Prop} {Ts : List Cond} {own : String} {As rest : List Value} {g : JFrame}
    (S : CallFix p m c cc nL s args Ts own) (hM : Met l y ws rm Pc Qc mc ms free) (cw : vx_CSW R s args own index y bytes maxL ret hh ws rm mc ms n) (hp : PreS s H Pc As)
    (hg : g.method = m) (hn : As.length = n) (hsize : g.locals.size = nL) (hstack : g.stack = As.reverse ++ rest) (hW : 2 * g.monitorRoom + (rest.map fun v => v.category).sum ≤ 8) (hdg : decode cc g.pc = .ok (.invokestatic index, 3)) (hf : cells + mc ≤ R.cells ∧ slots + ms ≤ R.slots) :
    va_Run p l e R s m args below meth c H locs cells slots mc ms g rest (Qc As.toArray) (free) := by
  obtain ⟨⟨hrc, hrs, hfr, hlo, hws, hcw⟩, hcode, hini, hy, hlen, hl, hstt⟩ := cw
  have hK : Back l R p e below s args y 3 8 (PreOf R mc ms Pc) (PostOf Qc mc ms free) := va_backW (hh := hh) (bytes := bytes) (maxL := maxL) (ret := ret) hM hp.1 hrc hrs hfr hlo hws hcw (fun a' U hW => word_at hW (Or.inl (by first | rfl | simp [Cond.onTables, Cond.keeps, Cond.steady])) hini)
  obtain ⟨hx, hb, hml, ho, -⟩ := S
  intro T hT X
  obtain ⟨v, vm₁, ⟨U', l2, c2, s2⟩, hW₁, X', ⟨g', mk, t, L, e1, e2, hq, h1, hL, h2, h3⟩, st⟩ := vx_callSW X hx (hh := hh) (bytes := bytes) (maxL := maxL) (ret := ret) ho hl hstt hini hcode hy hK hg (hsize.trans hml.symm) (argsL := As) (rest := rest) (fun sig h => hn.trans (hlen sig h)) hstack hW (by rw [hb]; exact hdg)
    (fun vm₁ hW₁ => ⟨hf.1, hf.2, hp.2 (T.setVm vm₁) hT hW₁⟩)
  dsimp only [Pt.U, Pt.locs, Pt.cells, Pt.slots] at X' e1 e2 h1 h2 h3 st
  subst h1; subst h2; subst h3
  exact ⟨v, (T.setVm vm₁).calling g' mk As.toArray, t, U', L, hT, X', hL, e1, e2, hq, st⟩
/-- not caught here, past rows that name other classes: it goes on to the caller -/
theorem vx_outP {p : Program} {l : Launch} {e : Env} {R : Room} {s : State} {m : MethodId} {args : Array Value} {below : List Frame} {meth : Method} {c : Code} {H : Heap} {locs : List Loc} {cells slots : Nat} {free : Addr → Prop} {ls : Array Slot} {rest : List Value} {Qc : Array Value → State → Outcome → State → Prop} {XC : String → State → State → Prop}
    {pc : Nat} {own E : String} {ce : Cell} {q : Addr} {mc ms : Nat} (hown : s.vm.findClass own = some m.cls) (hlocks : meth.locks = false)
    (hpass : ∀ z ∈ c.exceptionTable.toList, covers z pc = false ∨ (z.catchType ≠ 0 ∧ ∃ nm : String, (Cond.classLink own z.catchType nm).before args s = true ∧ va_Nc E nm s)) (hcell : H[q]? = some ce) (hv : ce.vm = .none) (hcl : s.vm.findClass E = some ce.cls)
    (hx : ∀ t : State, t.heap = H → s.vm.Alike t.vm → XC E s t) (hf : ∀ z ∈ locs, free z.base) (hc : cells ≤ mc) (hs : slots ≤ ms) :
    vx_W p l e R s m args below meth c H locs cells slots (vx_MQ below Qc XC args s mc ms free) (F0 m pc ls rest) q := by
  intro T hT X
  have hpl : e.platform.magicAccessors = ({} : Platform).magicAccessors := by rw [X.admits.platform]
  obtain ⟨vm', hW', X', st⟩ := X.outThrough hlocks q (g := F0 m pc ls rest) rfl rfl rfl (cell := ce) (by rw [hT]; exact hcell) (by rw [hv]; rfl)
    (by obtain ⟨k9, h9, -⟩ := Vm.findClass_spec hcl; exact ⟨k9, h9⟩) (fun z hz => by
      rcases hpass z hz with h | ⟨hz0, nm, hl1, hn1⟩
      · exact Or.inl h
      · obtain ⟨c6, hc6, hcl6⟩ := Cond.classLink_spec hown hl1 e.platform hpl
        obtain ⟨a8, b8, h1, h2, h3⟩ := hn1
        cases Option.some.inj (h1.symm.trans hcl)
        cases Option.some.inj (h2.symm.trans hc6)
        exact Or.inr ⟨hz0, _, hcl6, h3⟩)
  obtain ⟨g₀, hfr⟩ := X'.frames_eq
  have hcell9 : ((T.setVm vm').setFrames (.throwing q :: below)).heap[q]? = some ce := by
    show T.heap[q]? = some ce
    rw [hT]; exact hcell
  have hend : Ended ((T.setVm vm').setFrames (.throwing q :: below)) below (.threw q) := State.frames_setFrames _ (State.cur_lt_of_frames hfr)
  refine ⟨(T.setVm vm').setFrames (.throwing q :: below), ?_, .threw q, X'.here.running, hend, Or.inr ⟨q, rfl, E, ce, locs, hx _ hT (X'.ends _).1.alike, hcell9, hv, hcl, (X'.ends _).1, (X'.ends _).2.mono hc hs, hf⟩⟩
  rw [X.pushThrowing_eq]
  exact st
/-- a thing of a world lies in the heap -/
theorem vx_lt {D : va_G} {cl : List vw_C} {ws : va_W} {H1 : Heap} (h : va_P D cl ws H1) {k : Nat} {q : Nat × va_E} (hk : ws[k]? = some q) : q.1 < H1.size := (h k q hk).lt
end VXS
/-! ===== END ===== -/
/-! ===== BEGIN methods with a table of their own: called by a name, returning or throwing ===== -/
section VXH
/-! vx_backW, vx_callVX, vx_callSX, vx_callVW, vx_runVW, vx_runVX, vx_runSX, vx_ofWH follow the same proofs as their sisters above (Free/Laws.lean, Shelf42/LK1.lean); vx_outP calls Shelf42/NT130.lean (outThrough). -/
section
variable {l : Launch} {R : Room} {p : Program} {e : Env} {below : List Frame} {s : State} {sargs : Array Value} {y : MethodName} {len W9 : Nat}
theorem vx_backW {ws : List Cond} {rm : Room} {Pc : Array Value → State → Prop} {Qc : Array Value → State → Outcome → State → Prop} {XC : String → State → State → Prop} {mc ms : Nat} {free : Addr → Prop} {bytes : ByteArray} {maxL : Nat} {ret : Option FieldType} {hh : List (Nat × Nat × Nat × Nat)}
    (hM : vx_Met l y ws rm Pc Qc XC mc ms free) (hblind : FrameBlind Pc) (hrc : rm.cells = mc) (hrs : rm.slots = ms)
    (hframes : rm.frames + 1 ≤ R.frames) (hlocals : W9 + (maxL + 11) + rm.locals ≤ R.locals)
    (hws : ∀ w ∈ ws, ∀ a' U, s.WarmedH U.vm → w.before a' U = true) (hcode : Cond.codeWith y bytes maxL ret hh ∈ ws) (hinit : ∀ a' U, s.WarmedH U.vm → (Cond.initialized y.cls).before a' U = true) :
    vx_Back l R p e below s sargs y len W9 (PreOf R mc ms Pc) (PostOf Qc mc ms free) (vx_Post XC mc ms free) := by
  intro m meth c A g ig mk a X hg hsize hdg hW hn hp
  have h1 : (headSpec ws rm).pre.before a A.U = true := atoms_intro fun w hw => hws w hw _ _ X.warmed
  have h2 : (Cond.codeWith y bytes maxL ret hh).before a A.U = true := hws _ hcode _ _ X.warmed
  have h3 : (Cond.initialized y.cls).before a A.U = true := hinit _ _ X.warmed
  have h4 : A.cells + (headSpec ws rm).room.cells ≤ R.cells := by rw [show (headSpec ws rm).room.cells = mc from hrc]; exact hp.1
  have h5 : A.slots + (headSpec ws rm).room.slots ≤ R.slots := by rw [show (headSpec ws rm).room.slots = ms from hrs]; exact hp.2.1
  have hPc : Pc a (A.U.calling g mk a) := hblind _ _ _ _ hp.2.2
  obtain ⟨U, Ls, c0, s0⟩ := A
  dsimp only [Pt.U, Pt.locs, Pt.cells, Pt.slots] at h1 h2 h3 h4 h5 X hn hPc ⊢
  obtain ⟨m9, methY, cY, hn9, hmY, hcY, -, hlY, -⟩ := Cond.codeWith_spec h2
  cases Option.some.inj (hn9.symm.trans hn)
  obtain ⟨kY, hkY, -⟩ := className_of_methodNamed hn
  have hinitY : kY.init = .initialized := Cond.initialized_spec (findClass_of_methodNamed hn) hkY h3
  have h : At U g.method c below := by rw [hg]; exact X.here
  have hlocals9 : W9 + (maxL + 11) + (headSpec ws rm).room.locals ≤ R.locals := hlocals
  have happ : (headSpec ws rm).appliesLoose y e.platform (U.calling g mk a) = true :=
    Spec.appliesLoose_calling (g := g) h hdg hn hkY hinitY
      (X.room_calling (g := g) (R' := (headSpec ws rm).room) hsize hmY hcY hframes (by rw [hlY]; omega) h4 h5) h1
  obtain ⟨mid, hmid⟩ := h.above
  have hfr : (U.setTop g).frames = (.java g :: mid) ++ below := by rw [State.frames_setTop' g h.top, hmid]; rfl
  obtain ⟨o, s₂, hsteps, -, hend, hq⟩ := Steps.callFree hM p X.admits X.cas X.clock (acts := []) hfr happ hPc trivial
  have hq' : vx_Q Qc XC mc ms free a (U.calling g mk a) o s₂ := hq
  rw [State.frames_setTop' g h.top] at hend
  obtain ⟨g₀, hg0⟩ := Option.isSome_iff_exists.mp h.top
  obtain ⟨r, hr⟩ := State.topJava?_eq_some.mp hg0
  have hr' : (({ U with heap := s₂.heap, slotsUsed := s₂.slotsUsed } : State).setVm s₂.vm).frames = .java g₀ :: r := hr
  rcases hq' with ⟨hqc, L, hfe, hL⟩ | ⟨q, rfl, E, ce, L, hx, hce, hcv, hcl, hW₂, hsm, hL⟩
  · obtain ⟨⟨v, rfl⟩, hW₂, e2, q2, q3, q4, q5, q6⟩ := id hfe
    have e3 : s₂ = ({ (U.calling g mk a).setFrames s₂.frames with heap := s₂.heap, slotsUsed := s₂.slotsUsed } : State).setVm s₂.vm := by
      have : s₂ = ({ s₂ with vm := (U.calling g mk a).vm } : State).setVm s₂.vm := rfl
      rw [e2] at this
      exact this
    obtain ⟨c₂, i₂, len₂, hc₂, hd₂, hf₂⟩ := hend
    have hW' : U.WarmedH s₂.vm := hW₂
    have hcc : c₂ = c := by
      have h1 : s₂.code? g.method = U.code? g.method := by
        rw [State.code?_eq, State.code?_eq, hW'.alike.method?]
      exact Option.some.inj (hc₂.symm.trans (h1.trans h.code))
    subst hcc
    have hlen : len₂ = len := by rw [hdg] at hd₂; cases hd₂; rfl
    subst hlen
    have hs₂ : s₂ = (({ U with heap := s₂.heap, slotsUsed := s₂.slotsUsed } : State).setVm s₂.vm).setTop { g with pc := g.pc + len₂, stack := v.toList ++ g.stack } := by
      refine e3.trans ?_
      rw [hf₂, State.calling_eq h.top, State.setFrames_setFrames, State.setTop_of_frames _ hr', hr]
      rfl
    have hsame : U.sameButNew ({ U with heap := s₂.heap, slotsUsed := s₂.slotsUsed } : State) L mc ms := by
      refine ⟨?_, q2, q3, q4, q5, q6⟩
      obtain ⟨t, ht, -⟩ := State.frames_cons hr
      show ({ U with heap := s₂.heap, slotsUsed := s₂.slotsUsed } : State) = { U.setFrames U.frames with heap := s₂.heap, slotsUsed := s₂.slotsUsed }
      rw [State.setFrames_self ht]
    subst hg
    refine Or.inl ⟨v, ⟨(({ U with heap := s₂.heap, slotsUsed := s₂.slotsUsed } : State).setVm s₂.vm), Ls ++ L, c0 + mc, s0 + ms⟩,
      ⟨X.admits, X.cas, X.clock, X.frames, X.room, X.hears, X.method, X.code, (X.here.setHeapUsed s₂.heap s₂.slotsUsed).setVm hW'.alike, X.tail, State.WarmedH.trans X.warmed hW', X.limits, X.bytes, X.same.trans (hsame.setVm s.vm)⟩,
      ⟨g, mk, s₂, L, rfl, rfl, hqc, rfl, hL, rfl, rfl⟩, ?_⟩
    show Steps p.tables e below _ ((({ U with heap := s₂.heap, slotsUsed := s₂.slotsUsed } : State).setVm s₂.vm).setTop { g with pc := g.pc + len₂, stack := v.toList ++ g.stack })
    rw [← hs₂]
    exact hsteps
  · obtain ⟨e2, q2, q3, q4, q5, q6⟩ := id hsm
    have e3 : s₂ = ({ (U.calling g mk a).setFrames s₂.frames with heap := s₂.heap, slotsUsed := s₂.slotsUsed } : State).setVm s₂.vm := by
      have : s₂ = ({ s₂ with vm := (U.calling g mk a).vm } : State).setVm s₂.vm := rfl
      rw [e2] at this
      exact this
    have hf₂ : s₂.frames = .throwing q :: .java g :: U.frames.tail := hend
    have hW' : U.WarmedH s₂.vm := hW₂
    have hs₂ : s₂ = ((({ U with heap := s₂.heap, slotsUsed := s₂.slotsUsed } : State).setVm s₂.vm).setTop g).pushFrame (.throwing q) := by
      refine e3.trans ?_
      rw [hf₂, State.calling_eq h.top, State.setFrames_setFrames, State.pushFrame, State.frames_setTop _ hr', State.setTop_of_frames _ hr', State.setFrames_setFrames, hr]
      rfl
    have hsame : U.sameButNew ({ U with heap := s₂.heap, slotsUsed := s₂.slotsUsed } : State) L mc ms := by
      refine ⟨?_, q2, q3, q4, q5, q6⟩
      obtain ⟨t, ht, -⟩ := State.frames_cons hr
      show ({ U with heap := s₂.heap, slotsUsed := s₂.slotsUsed } : State) = { U.setFrames U.frames with heap := s₂.heap, slotsUsed := s₂.slotsUsed }
      rw [State.setFrames_self ht]
    subst hg
    refine Or.inr ⟨q, ⟨(({ U with heap := s₂.heap, slotsUsed := s₂.slotsUsed } : State).setVm s₂.vm), Ls ++ L, c0 + mc, s0 + ms⟩,
      ⟨X.admits, X.cas, X.clock, X.frames, X.room, X.hears, X.method, X.code, (X.here.setHeapUsed s₂.heap s₂.slotsUsed).setVm hW'.alike, X.tail, State.WarmedH.trans X.warmed hW', X.limits, X.bytes, X.same.trans (hsame.setVm s.vm)⟩,
      ⟨g, mk, s₂, L, E, ce, rfl, rfl, hx, hce, hcv, hcl, rfl, hL, rfl, rfl⟩, ?_⟩
    show Steps p.tables e below _ (((({ U with heap := s₂.heap, slotsUsed := s₂.slotsUsed } : State).setVm s₂.vm).setTop g).pushFrame (.throwing q))
    rw [← hs₂]
    exact hsteps
end
variable {p : Program} {l : Launch} {e : Env} {R : Room} {s : State} {m : MethodId} {args : Array Value} {below : List Frame} {meth : Method} {c : Code} {T : State} {H : Heap} {locs : List Loc} {cells slots : Nat}
theorem vx_callVX (X : Stand p l e R s m args below meth c T locs cells slots) (hexec : p.tables.exec = Jvm.exec) {own C : String} {index : Nat} {y : MethodName} {bytes : ByteArray} {maxL : Nat} {ret : Option FieldType} {hh : List (Nat × Nat × Nat × Nat)}
    (hown : s.vm.findClass own = some m.cls) (hlink : (Cond.methodLink own index y).before args s = true) (hinst : (Cond.instanceMethod y).before args s = true) (hsel : (Cond.selects C y y).before args s = true)
    (hcode : (Cond.codeWith y bytes maxL ret hh).before args s = true) (hy : y.cls ≠ "java/lang/invoke/MethodHandle" ∧ y.cls ≠ "java/lang/invoke/VarHandle")
    {W9 : Nat} {Pre : Pt → Array Value → Prop} {Post : Pt → Array Value → Option Value → Pt → Prop} {PostX : Pt → Array Value → Addr → Pt → Prop} (hK : vx_Back l R p e below s args y 3 W9 Pre Post PostX)
    {b : Addr} {cellB : Cell} (hcell : T.heap[b]? = some cellB) (hobj : cellB.vm.isStatics = false) (hcls : s.vm.findClass C = some cellB.cls)
    {g : JFrame} (hg : g.method = m) (hsize : g.locals.size = c.maxLocals) {argsL rest : List Value} (hlen : ∀ sig, parseMethodDescriptor y.desc = some sig → argsL.length = sig.parameters.length)
    (hstack : g.stack = argsL.reverse ++ .ref b :: rest) (hW : 2 * g.monitorRoom + (rest.map fun v => v.category).sum ≤ W9) (hdg : decode c.code g.pc = .ok (.invokevirtual index, 3))
    (hpre : ∀ vm₁, s.WarmedH vm₁ → Pre ⟨T.setVm vm₁, locs, cells, slots⟩ (Value.ref b :: argsL).toArray) :
    (∃ (v : Option Value) (vm₁ : Vm) (B : Pt), s.WarmedH vm₁ ∧ Stand p l e R s m args below meth c B.U B.locs B.cells B.slots ∧ Post ⟨T.setVm vm₁, locs, cells, slots⟩ (Value.ref b :: argsL).toArray v B ∧
      ∀ target, Steps p.tables e below (B.U.setTop { g with pc := g.pc + 3, stack := v.toList ++ rest }) target → Steps p.tables e below (T.setTop g) target) ∨
    (∃ (q : Addr) (vm₁ : Vm) (B : Pt), s.WarmedH vm₁ ∧ Stand p l e R s m args below meth c B.U B.locs B.cells B.slots ∧ PostX ⟨T.setVm vm₁, locs, cells, slots⟩ (Value.ref b :: argsL).toArray q B ∧
      Steps p.tables e below (T.setTop g) ((B.U.setTop { g with stack := rest }).pushFrame (.throwing q))) := by
  obtain ⟨mk, methM, hnamed, hmethM, hstM, habM⟩ := Cond.instanceMethod_spec hinst
  obtain ⟨m8, methM', cM, hn8, hmethM', -, -, -, -, -, -, hsigM⟩ := Cond.codeWith_spec hcode
  cases Option.some.inj (hn8.symm.trans hnamed)
  cases hmethM.symm.trans hmethM'
  obtain ⟨c2, r2, m2, q1, q2, q3, q4, kP, hkP, hkPi⟩ := Cond.selects_spec hsel
  cases hcls.symm.trans q1
  cases (State.methodFound?_of_named hnamed hy).symm.trans q2
  cases hnamed.symm.trans q3
  have hselP : selectMethod e.platform s.vm cellB.cls mk = .method mk := by rw [Launch.admits_selectMethod X.admits]; exact q4
  obtain ⟨vm₁, X₁, hstep₁⟩ := X.invokevirtual hexec hown hlink hnamed hmethM hstM hkP hkPi hy (a := b) (cell := cellB) hcell
    (fun z h => by rw [h] at hobj; cases hobj) hselP hmethM habM hkP hkPi (g := g) hg (argsL := argsL) (rest := rest) (hlen _ hsigM) hstack hdg
  rcases hK m meth c ⟨T.setVm vm₁, locs, cells, slots⟩ { g with stack := rest } (.invokevirtual index) mk (Value.ref b :: argsL).toArray X₁ hg hsize hdg hW (X₁.named hnamed) (hpre vm₁ X₁.warmed) with ⟨v, B, X', hpost, hsteps⟩ | ⟨q, B, X', hpost, hsteps⟩
  · exact Or.inl ⟨v, vm₁, B, X₁.warmed, X', hpost, fun target h => hstep₁ _ fun acts => by rw [doInvoke_state]; exact hsteps.trans h⟩
  · exact Or.inr ⟨q, vm₁, B, X₁.warmed, X', hpost, hstep₁ _ fun acts => by rw [doInvoke_state]; exact hsteps⟩
theorem vx_callSX (X : Stand p l e R s m args below meth c T locs cells slots) (hexec : p.tables.exec = Jvm.exec) {own : String} {index : Nat} {y : MethodName} {bytes : ByteArray} {maxL : Nat} {ret : Option FieldType} {hh : List (Nat × Nat × Nat × Nat)}
    (hown : s.vm.findClass own = some m.cls) (hlink : (Cond.methodLink own index y).before args s = true) (hstat : (Cond.static y).before args s = true) (hinit : (Cond.initialized y.cls).before args s = true)
    (hcode : (Cond.codeWith y bytes maxL ret hh).before args s = true) (hy : y.cls ≠ "java/lang/invoke/MethodHandle" ∧ y.cls ≠ "java/lang/invoke/VarHandle")
    {W9 : Nat} {Pre : Pt → Array Value → Prop} {Post : Pt → Array Value → Option Value → Pt → Prop} {PostX : Pt → Array Value → Addr → Pt → Prop} (hK : vx_Back l R p e below s args y 3 W9 Pre Post PostX)
    {g : JFrame} (hg : g.method = m) (hsize : g.locals.size = c.maxLocals) {argsL rest : List Value} (hlen : ∀ sig, parseMethodDescriptor y.desc = some sig → argsL.length = sig.parameters.length)
    (hstack : g.stack = argsL.reverse ++ rest) (hW : 2 * g.monitorRoom + (rest.map fun v => v.category).sum ≤ W9) (hdg : decode c.code g.pc = .ok (.invokestatic index, 3))
    (hpre : ∀ vm₁, s.WarmedH vm₁ → Pre ⟨T.setVm vm₁, locs, cells, slots⟩ argsL.toArray) :
    (∃ (v : Option Value) (vm₁ : Vm) (B : Pt), s.WarmedH vm₁ ∧ Stand p l e R s m args below meth c B.U B.locs B.cells B.slots ∧ Post ⟨T.setVm vm₁, locs, cells, slots⟩ argsL.toArray v B ∧
      ∀ target, Steps p.tables e below (B.U.setTop { g with pc := g.pc + 3, stack := v.toList ++ rest }) target → Steps p.tables e below (T.setTop g) target) ∨
    (∃ (q : Addr) (vm₁ : Vm) (B : Pt), s.WarmedH vm₁ ∧ Stand p l e R s m args below meth c B.U B.locs B.cells B.slots ∧ PostX ⟨T.setVm vm₁, locs, cells, slots⟩ argsL.toArray q B ∧
      Steps p.tables e below (T.setTop g) ((B.U.setTop { g with stack := rest }).pushFrame (.throwing q))) := by
  obtain ⟨mk, methM, cM, hnamed, hmethM, -, -, -, -, -, -, hsigM⟩ := Cond.codeWith_spec hcode
  have hstatic : methM.isStatic = true := Cond.static_spec hnamed hmethM hstat
  obtain ⟨kP, hkP, -⟩ := className_of_methodNamed hnamed
  have hinitP : kP.init = .initialized := Cond.initialized_spec (findClass_of_methodNamed hnamed) hkP hinit
  obtain ⟨vm₁, X₁, hstep₁⟩ := X.invokestatic hexec hown hlink hnamed hmethM hstatic hkP hinitP hy (g := g) hg (argsL := argsL) (rest := rest) (hlen _ hsigM) hstack hdg
  rcases hK m meth c ⟨T.setVm vm₁, locs, cells, slots⟩ { g with stack := rest } (.invokestatic index) mk argsL.toArray X₁ hg hsize hdg hW (X₁.named hnamed) (hpre vm₁ X₁.warmed) with ⟨v, B, X', hpost, hsteps⟩ | ⟨q, B, X', hpost, hsteps⟩
  · exact Or.inl ⟨v, vm₁, B, X₁.warmed, X', hpost, fun target h => hstep₁ _ fun acts => by rw [doInvoke_state]; exact hsteps.trans h⟩
  · exact Or.inr ⟨q, vm₁, B, X₁.warmed, X', hpost, hstep₁ _ fun acts => by rw [doInvoke_state]; exact hsteps⟩
theorem vx_callVW (X : Stand p l e R s m args below meth c T locs cells slots) (hexec : p.tables.exec = Jvm.exec) {own C : String} {index : Nat} {y : MethodName} {bytes : ByteArray} {maxL : Nat} {ret : Option FieldType} {hh : List (Nat × Nat × Nat × Nat)}
    (hown : s.vm.findClass own = some m.cls) (hlink : (Cond.methodLink own index y).before args s = true) (hinst : (Cond.instanceMethod y).before args s = true) (hsel : (Cond.selects C y y).before args s = true)
    (hcode : (Cond.codeWith y bytes maxL ret hh).before args s = true) (hy : y.cls ≠ "java/lang/invoke/MethodHandle" ∧ y.cls ≠ "java/lang/invoke/VarHandle")
    {W9 : Nat} {Pre : Pt → Array Value → Prop} {Post : Pt → Array Value → Option Value → Pt → Prop} (hK : Back l R p e below s args y 3 W9 Pre Post)
    {b : Addr} {cellB : Cell} (hcell : T.heap[b]? = some cellB) (hobj : cellB.vm.isStatics = false) (hcls : s.vm.findClass C = some cellB.cls)
    {g : JFrame} (hg : g.method = m) (hsize : g.locals.size = c.maxLocals) {argsL rest : List Value} (hlen : ∀ sig, parseMethodDescriptor y.desc = some sig → argsL.length = sig.parameters.length)
    (hstack : g.stack = argsL.reverse ++ .ref b :: rest) (hW : 2 * g.monitorRoom + (rest.map fun v => v.category).sum ≤ W9) (hdg : decode c.code g.pc = .ok (.invokevirtual index, 3))
    (hpre : ∀ vm₁, s.WarmedH vm₁ → Pre ⟨T.setVm vm₁, locs, cells, slots⟩ (Value.ref b :: argsL).toArray) :
    ∃ (v : Option Value) (vm₁ : Vm) (B : Pt), s.WarmedH vm₁ ∧ Stand p l e R s m args below meth c B.U B.locs B.cells B.slots ∧ Post ⟨T.setVm vm₁, locs, cells, slots⟩ (Value.ref b :: argsL).toArray v B ∧
      ∀ target, Steps p.tables e below (B.U.setTop { g with pc := g.pc + 3, stack := v.toList ++ rest }) target → Steps p.tables e below (T.setTop g) target := by
  obtain ⟨mk, methM, hnamed, hmethM, hstM, habM⟩ := Cond.instanceMethod_spec hinst
  obtain ⟨m8, methM', cM, hn8, hmethM', -, -, -, -, -, -, hsigM⟩ := Cond.codeWith_spec hcode
  cases Option.some.inj (hn8.symm.trans hnamed)
  cases hmethM.symm.trans hmethM'
  obtain ⟨c2, r2, m2, q1, q2, q3, q4, kP, hkP, hkPi⟩ := Cond.selects_spec hsel
  cases hcls.symm.trans q1
  cases (State.methodFound?_of_named hnamed hy).symm.trans q2
  cases hnamed.symm.trans q3
  have hselP : selectMethod e.platform s.vm cellB.cls mk = .method mk := by rw [Launch.admits_selectMethod X.admits]; exact q4
  obtain ⟨vm₁, X₁, hstep₁⟩ := X.invokevirtual hexec hown hlink hnamed hmethM hstM hkP hkPi hy (a := b) (cell := cellB) hcell
    (fun z h => by rw [h] at hobj; cases hobj) hselP hmethM habM hkP hkPi (g := g) hg (argsL := argsL) (rest := rest) (hlen _ hsigM) hstack hdg
  obtain ⟨v, B, X', hpost, hsteps⟩ := hK m meth c ⟨T.setVm vm₁, locs, cells, slots⟩ { g with stack := rest } (.invokevirtual index) mk (Value.ref b :: argsL).toArray X₁ hg hsize hdg hW (X₁.named hnamed) (hpre vm₁ X₁.warmed)
  exact ⟨v, vm₁, B, X₁.warmed, X', hpost, fun target h => hstep₁ _ fun acts => by rw [doInvoke_state]; exact hsteps.trans h⟩
abbrev vx_CVW (R : Room) (s : State) (args : Array Value) (own C : String) (index : Nat) (y : MethodName) (bytes : ByteArray) (maxL : Nat) (ret : Option FieldType) (hh : List (Nat × Nat × Nat × Nat)) (ws : List Cond) (rm : Room) (mc ms n : Nat) : Prop :=
  (rm.cells = mc ∧ rm.slots = ms ∧ rm.frames + 1 ≤ R.frames ∧ 8 + (maxL + 11) + rm.locals ≤ R.locals ∧ (∀ w ∈ ws, ∀ (a' : Array Value) (U : State), s.WarmedH U.vm → w.before a' U = true) ∧ Cond.codeWith y bytes maxL ret hh ∈ ws) ∧
  (Cond.codeWith y bytes maxL ret hh).before args s = true ∧ (Cond.initialized y.cls).before args s = true ∧ (y.cls ≠ "java/lang/invoke/MethodHandle" ∧ y.cls ≠ "java/lang/invoke/VarHandle") ∧
  (∀ sig, parseMethodDescriptor y.desc = some sig → n = sig.parameters.length) ∧ (Cond.methodLink own index y).before args s = true ∧ (Cond.instanceMethod y).before args s = true ∧ (Cond.selects C y y).before args s = true
theorem vx_cwVW {own C : String} {index maxL mc ms : Nat} {y : MethodName} {bytes : ByteArray} {ret : Option FieldType} {hh : List (Nat × Nat × Nat × Nat)} {Ts ws ws' : List Cond} {rm : Room} (n : Nat) (ht : ∀ w ∈ Ts, w.before args s = true) (hT : GoodIn Ts (wsV own index C y ws)) (hw : ws = Cond.codeWith y bytes maxL ret hh :: ws') (hrc : rm.cells = mc) (hrs : rm.slots = ms)
    (hd : y.cls = C ∧ y.cls ≠ "java/lang/invoke/MethodHandle" ∧ y.cls ≠ "java/lang/invoke/VarHandle" ∧ (parseMethodDescriptor y.desc).map (fun d => d.parameters.length) = some n) (hR : rm.frames + 1 ≤ R.frames ∧ 8 + (maxL + 11) + rm.locals ≤ R.locals) :
    vx_CVW R s args own C index y bytes maxL ret hh ws rm mc ms n := by
  obtain ⟨hC, hd⟩ := hd
  subst hC
  have ok : ∀ w ∈ wsV own index y.cls y ws, w.before args s = true := fun w h => ht w (hT w h).1
  have hG : GoodIn Ts ws := fun w h => hT w (by unfold wsV; exact List.mem_append_right _ h)
  have hc : Cond.codeWith y bytes maxL ret hh ∈ ws := by rw [hw]; exact List.mem_cons_self
  refine ⟨⟨hrc, hrs, hR.1, hR.2, pay_in ht hG, hc⟩, ht _ (hG _ hc).1, ok _ (by simp [wsV]), ⟨hd.1, hd.2.1⟩, fun sig h => ?_, ok _ (by simp [wsV]), ok _ (by simp [wsV]), ok _ (by simp [wsV])⟩
  have h2 := hd.2.2
  rw [h] at h2
  exact (Option.some.inj h2).symm
theorem vx_runVW {y : MethodName} {bytes cc : ByteArray} {maxL nL mc ms n index : Nat} {ret : Option FieldType} {hh : List (Nat × Nat × Nat × Nat)} {ws : List Cond} {rm : Room} {Pc : Array Value → State → Prop} {Qc : Array Value → State → Outcome → State → Prop} {free : Addr → Prop} {Ts : List Cond} {own C : String} {b : Addr} {As rest : List Value} {g : JFrame}
    (S : CallFix p m c cc nL s args Ts own) (hM : Met l y ws rm Pc Qc mc ms free) (cw : vx_CVW R s args own C index y bytes maxL ret hh ws rm mc ms n) (hp : PreV s H C b Pc As)
    (hg : g.method = m) (hn : As.length = n) (hsize : g.locals.size = nL) (hstack : g.stack = As.reverse ++ .ref b :: rest) (hW : 2 * g.monitorRoom + (rest.map fun v => v.category).sum ≤ 8) (hdg : decode cc g.pc = .ok (.invokevirtual index, 3)) (hf : cells + mc ≤ R.cells ∧ slots + ms ≤ R.slots) :
    va_Run p l e R s m args below meth c H locs cells slots mc ms g rest (Qc (Value.ref b :: As).toArray) free := by
  obtain ⟨⟨hrc, hrs, hfr, hlo, hws, hcw⟩, hcode, hini, hy, hlen, hl, hin, hse⟩ := cw
  have hK : Back l R p e below s args y 3 8 (PreOf R mc ms Pc) (PostOf Qc mc ms free) := va_backW (hh := hh) (bytes := bytes) (maxL := maxL) (ret := ret) hM hp.1 hrc hrs hfr hlo hws hcw (fun a' U hW => word_at hW (Or.inl (by first | rfl | simp [Cond.onTables, Cond.keeps, Cond.steady])) hini)
  obtain ⟨hx, hb, hml, ho, -⟩ := S
  obtain ⟨-, ⟨cellB, hcB, hoB, hclB⟩, hPc⟩ := hp
  intro T hT X
  obtain ⟨v, vm₁, ⟨U', l2, c2, s2⟩, hW₁, X', ⟨g', mk, t, L, e1, e2, hq, h1, hL, h2, h3⟩, st⟩ := vx_callVW X hx (C := C) (hh := hh) (bytes := bytes) (maxL := maxL) (ret := ret) ho hl hin hse hcode hy hK (by rw [hT]; exact hcB) hoB hclB hg (hsize.trans hml.symm) (argsL := As) (rest := rest) (fun sig h => hn.trans (hlen sig h)) hstack hW (by rw [hb]; exact hdg)
    (fun vm₁ hW₁ => ⟨hf.1, hf.2, hPc (T.setVm vm₁) hT hW₁⟩)
  dsimp only [Pt.U, Pt.locs, Pt.cells, Pt.slots] at X' e1 e2 h1 h2 h3 st
  subst h1; subst h2; subst h3
  exact ⟨v, (T.setVm vm₁).calling g' mk (Value.ref b :: As).toArray, t, U', L, hT, X', hL, e1, e2, hq, st⟩
section
variable {y : MethodName} {bytes cc : ByteArray} {maxL nL mc ms n index : Nat} {ret : Option FieldType} {ws : List Cond} {rm : Room} {Pc : Array Value → State → Prop} {Qc : Array Value → State → Outcome → State → Prop} {XC : String → State → State → Prop} {free : Addr → Prop} {Ts : List Cond} {own C : String} {b : Addr} {As rest : List Value} {g : JFrame}
theorem vx_runVX {hh : List (Nat × Nat × Nat × Nat)} (S : CallFix p m c cc nL s args Ts own) (hM : vx_Met l y ws rm Pc Qc XC mc ms free) (cw : vx_CVW R s args own C index y bytes maxL ret hh ws rm mc ms n) (hp : PreV s H C b Pc As)
    (hg : g.method = m) (hn : As.length = n) (hsize : g.locals.size = nL) (hstack : g.stack = As.reverse ++ .ref b :: rest) (hW : 2 * g.monitorRoom + (rest.map fun v => v.category).sum ≤ 8) (hdg : decode cc g.pc = .ok (.invokevirtual index, 3)) (hf : cells + mc ≤ R.cells ∧ slots + ms ≤ R.slots) :
    vx_Run p l e R s m args below meth c H locs cells slots mc ms g rest (Qc (Value.ref b :: As).toArray) XC free := by
  obtain ⟨⟨hrc, hrs, hfr, hlo, hws, hcw⟩, hcode, hini, hy, hlen, hl, hin, hse⟩ := cw
  have hK : vx_Back l R p e below s args y 3 8 (PreOf R mc ms Pc) (PostOf Qc mc ms free) (vx_Post XC mc ms free) := vx_backW (hh := hh) (bytes := bytes) (maxL := maxL) (ret := ret) hM hp.1 hrc hrs hfr hlo hws hcw (fun a' U hW => word_at hW (Or.inl (by first | rfl | simp [Cond.onTables, Cond.keeps, Cond.steady])) hini)
  obtain ⟨hx, hb, hml, ho, -⟩ := S
  obtain ⟨-, ⟨cellB, hcB, hoB, hclB⟩, hPc⟩ := hp
  intro T hT X
  rcases vx_callVX X hx (C := C) (hh := hh) (bytes := bytes) (maxL := maxL) (ret := ret) ho hl hin hse hcode hy hK (by rw [hT]; exact hcB) hoB hclB hg (hsize.trans hml.symm) (argsL := As) (rest := rest) (fun sig h => hn.trans (hlen sig h)) hstack hW (by rw [hb]; exact hdg)
    (fun vm₁ hW₁ => ⟨hf.1, hf.2, hPc (T.setVm vm₁) hT hW₁⟩) with ⟨v, vm₁, ⟨U', l2, c2, s2⟩, hW₁, X', ⟨g', mk, t, L, e1, e2, hq, h1, hL, h2, h3⟩, st⟩ | ⟨q, vm₁, ⟨U', l2, c2, s2⟩, hW₁, X', ⟨g', mk, t, L, E, ce, e1, e2, hq, hce, hcv, hcl, h1, hL, h2, h3⟩, st⟩
  · dsimp only [Pt.U, Pt.locs, Pt.cells, Pt.slots] at X' e1 e2 h1 h2 h3 st
    subst h1; subst h2; subst h3
    exact Or.inl ⟨v, (T.setVm vm₁).calling g' mk (Value.ref b :: As).toArray, t, U', L, hT, X', hL, e1, e2, hq, st⟩
  · dsimp only [Pt.U, Pt.locs, Pt.cells, Pt.slots] at X' e1 e2 h1 h2 h3 st hcl
    subst h1; subst h2; subst h3
    exact Or.inr ⟨q, (T.setVm vm₁).calling g' mk (Value.ref b :: As).toArray, t, U', L, E, ce, hT, X', hL, e1, e2, hq, hce, hcv, vx_cls hW₁ hcl, st⟩
theorem vx_runSX {hh : List (Nat × Nat × Nat × Nat)} (S : CallFix p m c cc nL s args Ts own) (hM : vx_Met l y ws rm Pc Qc XC mc ms free) (cw : vx_CSW R s args own index y bytes maxL ret hh ws rm mc ms n) (hp : PreS s H Pc As)
    (hg : g.method = m) (hn : As.length = n) (hsize : g.locals.size = nL) (hstack : g.stack = As.reverse ++ rest) (hW : 2 * g.monitorRoom + (rest.map fun v => v.category).sum ≤ 8) (hdg : decode cc g.pc = .ok (.invokestatic index, 3)) (hf : cells + mc ≤ R.cells ∧ slots + ms ≤ R.slots) :
    vx_Run p l e R s m args below meth c H locs cells slots mc ms g rest (Qc As.toArray) XC free := by
  obtain ⟨⟨hrc, hrs, hfr, hlo, hws, hcw⟩, hcode, hini, hy, hlen, hl, hstt⟩ := cw
  have hK : vx_Back l R p e below s args y 3 8 (PreOf R mc ms Pc) (PostOf Qc mc ms free) (vx_Post XC mc ms free) := vx_backW (hh := hh) (bytes := bytes) (maxL := maxL) (ret := ret) hM hp.1 hrc hrs hfr hlo hws hcw (fun a' U hW => word_at hW (Or.inl (by first | rfl | simp [Cond.onTables, Cond.keeps, Cond.steady])) hini)
  obtain ⟨hx, hb, hml, ho, -⟩ := S
  intro T hT X
  rcases vx_callSX X hx (hh := hh) (bytes := bytes) (maxL := maxL) (ret := ret) ho hl hstt hini hcode hy hK hg (hsize.trans hml.symm) (argsL := As) (rest := rest) (fun sig h => hn.trans (hlen sig h)) hstack hW (by rw [hb]; exact hdg)
    (fun vm₁ hW₁ => ⟨hf.1, hf.2, hp.2 (T.setVm vm₁) hT hW₁⟩) with ⟨v, vm₁, ⟨U', l2, c2, s2⟩, hW₁, X', ⟨g', mk, t, L, e1, e2, hq, h1, hL, h2, h3⟩, st⟩ | ⟨q, vm₁, ⟨U', l2, c2, s2⟩, hW₁, X', ⟨g', mk, t, L, E, ce, e1, e2, hq, hce, hcv, hcl, h1, hL, h2, h3⟩, st⟩
  · dsimp only [Pt.U, Pt.locs, Pt.cells, Pt.slots] at X' e1 e2 h1 h2 h3 st
    subst h1; subst h2; subst h3
    exact Or.inl ⟨v, (T.setVm vm₁).calling g' mk As.toArray, t, U', L, hT, X', hL, e1, e2, hq, st⟩
  · dsimp only [Pt.U, Pt.locs, Pt.cells, Pt.slots] at X' e1 e2 h1 h2 h3 st hcl
    subst h1; subst h2; subst h3
    exact Or.inr ⟨q, (T.setVm vm₁).calling g' mk As.toArray, t, U', L, E, ce, hT, X', hL, e1, e2, hq, hce, hcv, vx_cls hW₁ hcl, st⟩
end
end VXH
theorem vx_ofWH {l : Launch} {y : MethodName} {ws ws' : List Cond} {rm : Room} {Pc : Array Value → State → Prop} {Qc : Array Value → State → Outcome → State → Prop} {XC : String → State → State → Prop} {mc ms : Nat} {free : Addr → Prop} {cc : ByteArray} {maxL : Nat} {ret : Option FieldType} {hh : List (Nat × Nat × Nat × Nat)}
    (hy : plainName y.cls = true) (hw : ws = Cond.codeWith y cc maxL ret hh :: ws')
    (body : ∀ p e s m args below meth c s₁, BodyLoose p l y (headSpec ws rm) cc maxL ret e s m args below meth c s₁ → c.maxLocals = maxL → Pc args s →
      W p l e (headSpec ws rm).room s m args below meth c s.heap [] 0 0 (vx_MQ below Qc XC args s mc ms free) (entryFrame m args maxL)) : vx_Met l y ws rm Pc Qc XC mc ms free := by
  refine MetFree.of_bodyS (code := cc) (maxLocals := maxL) (ret := ret) hy ?_ ?_
  · intro args s m h hn
    obtain ⟨m9, meth, c, hn9, h1, h2, h3, h4, -, h5, h6, -⟩ := Cond.codeWith_spec (atoms_spec (ws := ws) h _ (by rw [hw]; exact List.mem_cons_self))
    cases hn.symm.trans hn9
    exact ⟨meth, c, h1, h2, h3, h4, h5, h6⟩
  · intro p e s m args below meth c s₁ B hml hP _
    have hh0 : s₁.heap = s.heap := by rw [B.state]; rfl
    obtain ⟨t, a1, o, b1, b2, b3⟩ := body p e s m args below meth c s₁ B hml hP s₁ hh0 (Stand.of_body B)
    exact ⟨t, o, a1, b1, b2, b3⟩
/-! ===== END ===== -/
/-! ===== BEGIN what the machine throws by itself, no traces kept ===== -/
section VXM
set_option maxHeartbeats 1000000 in
/-- the machine throws cls with the message text, no traces kept: from its note over the frame g to 'throwing' over the same frame (follows the proofs of Stand.vmThrowsMessage, Shelf/KitTracedVmS.lean, and Stand.throwsMessageColdBareV, StandMessageColdV.lean, without the step out of the frame) -/
theorem vx_vmAt {p : Program} {l : Launch} {e : Env} {R : Room} {s : State} {m₀ : MethodId} {args : Array Value} {below : List Frame} {meth : Method} {c : Code} {W : State} {locs : List Loc} {cells slots : Nat}
    (X : Stand p l e R s m₀ args below meth c W locs cells slots) (hexec : p.tables.exec = Jvm.exec) (htr : e.platform.stackTraces = false) {cls : String} {names : List String} {text : String}
    (hcls : Bundle.fit cls = true) (hnames : ∀ n ∈ names, Bundle.fit n = true) (hsoe : (cls == "java/lang/StackOverflowError") = false) (hoom : (cls == "java/lang/OutOfMemoryError") = false)
    (h : ∀ a ∈ Bundle.messageArmAtoms cls names, a.before args s = true)
    (hlocs : ∀ x ∈ locs, ∀ cell, s.heap[x.base]? = some cell → cell.vm.isStatics = false)
    (htext : (text == notModelled) = false) (hlimit : ¬ (stringBytes (stringToUtf16 text)).size > e.platform.arrayLengthLimit) (hheap : ¬ (stringBytes (stringToUtf16 text)).size * componentBytes .byte > e.platform.maxHeapBytes)
    {g : JFrame} (hg : g.method = m₀) (hsize : g.locals.size = c.maxLocals)
    (hRframes : names.length + 4 < R.frames) (hRlocals : 2 * g.monitorRoom + (g.stack.map fun v => v.category).sum + 10240 ≤ R.locals) (hshort : 13 * names.length + 55 ≤ 10240)
    (hRcells : cells + 3 ≤ R.cells) (hRslots : slots + ((stringBytes (stringToUtf16 text)).size + 4 + 6) ≤ R.slots) (hlocks : meth.locks = false) :
    ∃ (S : State) (q : Addr) (ce : Cell), (∀ target, Steps p.tables e below ((S.setTop g).pushFrame (.throwing q)) target → Steps p.tables e below ((W.setTop g).pushFrame (.throwNew cls (some text) none)) target) ∧
      Stand p l e R s m₀ args below meth c S locs (cells + 3) (slots + ((stringBytes (stringToUtf16 text)).size + 4 + 6)) ∧ S.heap[q]? = some ce ∧ s.vm.findClass cls = some ce.cls ∧ ce.vm = .none := by
  have howns : e.platform.frameOwnsMonitors = true := by rw [X.admits.platform]
  have hfin : e.platform.finalization = false := by rw [X.admits.platform]
  have hpl : e.platform.magicAccessors = ({} : Platform).magicAccessors := by rw [X.admits.platform]
  have a : ∀ x, x ∈ Bundle.messageArmAtoms cls names → x.holds args s none s [] = true := fun x hx => h x hx
  obtain ⟨T, Z0, L, -, Y⟩ := ThrowableC.of_atoms (args := args) howns hfin hpl (fun x hx => h x (by simp [Bundle.messageArmAtoms, hx]))
  obtain ⟨Z, M, LZ, LM, hnZ⟩ := Init0T.ofS_atoms (args := args) hpl L Y (fun x hx => h x (by simp [Bundle.messageArmAtoms, hx]))
  obtain ⟨P1, Ps, hlen, L1, hL, hP1m, hlink1, hlink⟩ := Bundle.chainS (args := args) hpl hnZ names cls hcls hnames (fun x hx => h x (by simp [Bundle.messageArmAtoms, hx]))
  obtain ⟨Zs, LZs, hn4, hfitv, hfitc⟩ := StringT.of_atoms (args := args) (fun x hx => h x (by simp [Bundle.messageArmAtoms, hx]))
  have hfound : s.vm.findClass cls = some P1.m.cls := findClass_of_methodNamed hP1m
  obtain ⟨c1, kX, hc1, hk, hord, -, -, hn6⟩ := Cond.instantiable_spec (a (.instantiable cls 6) (by simp [Bundle.messageArmAtoms]))
  cases Option.some.inj (hc1.symm.trans hfound)
  have hinit := Cond.initialized_spec hfound hk (a (.initialized cls) (by simp [Bundle.messageArmAtoms]))
  have hctor : kX.findMethod "<init>" "(Ljava/lang/String;)V" = some P1.m.idx := findMethod_of_methodNamed hP1m hk
  have hsel0 : selectMethod e.platform s.vm P1.m.cls T.fill0 = .method T.fill0 := by
    obtain ⟨c2, r2, m2, q1, q2, q3, q4, -⟩ := Cond.selects_spec (a (.selects cls Bundle.tFill0 Bundle.tFill0) (by simp [Bundle.messageArmAtoms]))
    cases Option.some.inj (q1.symm.trans hfound)
    cases Option.some.inj (q2.symm.trans (State.methodFound?_of_named Y.fill0 (by decide)))
    cases Option.some.inj (q3.symm.trans Y.fill0)
    rw [Launch.admits_selectMethod X.admits]; exact q4
  have hselF : selectMethod e.platform s.vm P1.m.cls T.fill = .method T.fill := by
    obtain ⟨c2, r2, m2, q1, q2, q3, q4, -⟩ := Cond.selects_spec (a (.selects cls Bundle.tFill Bundle.tFill) (by simp [Bundle.messageArmAtoms]))
    cases Option.some.inj (q1.symm.trans hfound)
    cases Option.some.inj (q2.symm.trans (State.methodFound?_of_named Y.fill (by decide)))
    cases Option.some.inj (q3.symm.trans Y.fill)
    rw [Launch.admits_selectMethod X.admits]; exact q4
  obtain ⟨cellS0, hcS0, hiss⟩ := Y.statics
  obtain ⟨u0, hu0⟩ := Cond.staticRefV Y.unassigned L.unassignedStatic L.statics hcS0 hiss (a (.isRef (.static Bundle.tN "UNASSIGNED_STACK" Bundle.steD)) (by simp [Bundle.messageArmAtoms]))
  obtain ⟨sen, hsen⟩ := Cond.staticRefV Y.sentinel L.sentinelStatic L.statics hcS0 hiss (a (.isRef (.static Bundle.tN "SUPPRESSED_SENTINEL" Bundle.listD)) (by simp [Bundle.messageArmAtoms]))
  obtain ⟨ci198, i198, fB, hk198, hg198, ha198, hsB, -, hnB, htB, hffB⟩ := Cond.ownField (t := .object "java/lang/Object") Y.found L.cls (by decide +kernel) (a (.fieldLink Bundle.tN 198 Bundle.tN "backtrace" "Ljava/lang/Object;") (by simp [Bundle.messageArmAtoms])) (a (.lays Bundle.tN Bundle.tN "backtrace" "Ljava/lang/Object;") (by simp [Bundle.messageArmAtoms])) e.platform hpl
  obtain ⟨cellS, hcS', heS, -, hkeep⟩ := X.same.2.2.2.2.2 T.aS cellS0 hcS0
  have hcellS : W.heap[T.aS]? = some cellS := hcS'
  have hout' : ∀ i, (⟨T.aS, i⟩ : Loc) ∉ locs := fun i hmem => by
    have := hlocs _ hmem cellS0 hcS0
    rw [hiss] at this; cases this
  have hknownS : cellS.vm ≠ .unknown := by
    rw [heS]; intro hu
    rw [show cellS0.vm = .unknown from hu] at hiss
    cases hiss
  have hvU : cellS.slots[T.fUnassigned.slot]? = some u0.v := by rw [hkeep _ (hout' _)]; exact hu0
  have hvSen : cellS.slots[T.fSentinel.slot]? = some sen.v := by rw [hkeep _ (hout' _)]; exact hsen
  obtain ⟨iM, hffM⟩ := Y.msg
  obtain ⟨tyC, dC, hdC, hdnC⟩ := Cond.laysAt hfound hk Y.cause (a (.lays cls Bundle.tN "cause" "Ljava/lang/Throwable;") (by simp [Bundle.messageArmAtoms]))
  obtain ⟨tyS, dS, hdS, hdnS⟩ := Cond.laysAt hfound hk Y.stack (a (.lays cls Bundle.tN "stackTrace" Bundle.steD) (by simp [Bundle.messageArmAtoms]))
  obtain ⟨tyP, dP, hdP, hdnP⟩ := Cond.laysAt hfound hk Y.supp (a (.lays cls Bundle.tN "suppressedExceptions" Bundle.listD) (by simp [Bundle.messageArmAtoms]))
  obtain ⟨tyM, dM, hdM, hdnM⟩ := Cond.laysAt hfound hk hffM (a (.lays cls Bundle.tN "detailMessage" "Ljava/lang/String;") (by simp [Bundle.messageArmAtoms]))
  obtain ⟨tyB, dB, hdB, hdnB⟩ := Cond.laysAt hfound hk hffB (a (.lays cls Bundle.tN "backtrace" "Ljava/lang/Object;") (by simp [Bundle.messageArmAtoms]))
  have bC := Cond.laysApart hdB hdC hdnB hdnC (by rw [hnB, Y.causeName]; decide)
  have bS := Cond.laysApart hdB hdS hdnB hdnS (by rw [hnB, Y.stackName]; decide)
  have bP := Cond.laysApart hdB hdP hdnB hdnP (by rw [hnB, Y.suppName]; decide)
  have hbk : ((preparedCellV T.toThrowableT (freshCell P1.m.cls kX) (W.heap.size + 2) u0 sen).withEntry W.cur).slots[fB.slot]? = some .null := by
    have := fresh_default (c := P1.m.cls) tyB
    rw [htB] at this
    simpa [preparedCellV, Cell.setSlot, Cell.withEntry, Array.getElem?_setIfInBounds, bC, bS, bP, bC.symm, bS.symm, bP.symm, defaultValue] using this
  have tkC := Takes.of_laid (v := .ref (W.heap.size + 2)) hk hord tyC (by rw [Y.causeType]; rfl)
  have tkS := Takes.of_laid (v := u0.v) hk hord tyS (by rw [Y.stackType]; exact fits_refV_array _ u0)
  have tkP := Takes.of_laid (v := sen.v) hk hord tyP (by rw [Y.suppType]; exact fits_refV_object _ sen)
  have tkM := Takes.of_laid (v := .ref (W.heap.size + 1)) hk hord tyM (by rw [Y.msgType]; rfl)
  have hskip : SkipFacts T e.platform s (fun u => u) u0 ((preparedCellV T.toThrowableT (freshCell P1.m.cls kX) (W.heap.size + 2) u0 sen).withEntry W.cur) := ⟨{ ci198 := ci198, i198 := i198, fBack := fB }, ⟨hk198, hg198, ha198, hsB⟩, hbk, fun _ _ => rfl⟩
  have h0 : At W g.method c below := by rw [hg]; exact X.here
  obtain ⟨hbeyond, hfreeW⟩ := X.vmMayThrow hsize (.throwNew cls (some text) none) (fun f hf => by cases hf) rfl hRlocals
  have hfr' : W.frames.length + Ps.length + 4 < (e.platform.stackLimits W.me).1 := by have := X.framesAbove hRframes; omega
  have hwd' : (stackUse (.java g :: W.frames.tail)).2 + 13 * Ps.length + 55 ≤ (e.platform.stackLimits W.me).2 := by have := X.stackAbove hsize (K := 13 * Ps.length + 55) (by omega); omega
  have hslots : W.slotsUsed + (stringBytes (stringToUtf16 text)).size + Zs.kS.instanceTypes.size + kX.instanceTypes.size ≤ e.platform.maxSlots := by
    have := X.slotsAbove hRslots
    rw [hn4, hn6]
    omega
  obtain ⟨vm', hW', st⟩ := Steps.vmThrowsMessageColdByV p (s₀ := s) (S := W) (g := g) h0 hexec T L Z LZ M LM X.warmed (t := W.cur) rfl Zs LZs P1 L1 Ps hL hlink1 hlink hsoe hoom hfound hk hinit hord hctor
    (Launch.admits_hotImplicitExceptions X.admits) hbeyond hfreeW htext hlimit hheap (X.cellsAbove hRcells) hslots (hfitv _) (hfitc _)
    (Nn := fun u => u) heapOnly_id (fun _ _ => rfl) (fun _ => rfl) (fun u x y => setCell_twice _ _ _ _) (fun _ => Nat.le_refl _) (cN := ((preparedCellV T.toThrowableT (freshCell P1.m.cls kX) (W.heap.size + 2) u0 sen).withEntry W.cur))
    hsel0 hcellS hknownS hvU tkS (fun _ hu => hu) (fun _ hu => hu) rfl rfl rfl (by simp [preparedCellV, Cell.setSlot, Cell.withEntry]) hskip (fun _ _ hA hW _ hroom _ hrest => L.nativeOff p htr hA hW hroom hrest) hselF hvSen tkC tkP tkM Y.objLocals rfl hfr' hwd'
  rw [plainBareV_eq T.toThrowableT (W.heap.size + 2) u0 sen (.ref (W.heap.size + 1)) W.cur rfl rfl] at st
  obtain ⟨-, -, w3, w4, -, -, -⟩ := withThrown_facts e.platform W Zs text P1.m.cls kX
  have X3 := ((X.pushed (bytesOf Zs.cB (stringToUtf16 text))).pushed (stringAt Zs.cS Zs.kS Zs.fv Zs.fc (stringToUtf16 text) W.heap.size)).pushed (freshCell P1.m.cls kX)
  rw [← withString_eq] at X3
  have X4 := X3.noted hW'
  have ha : (W.heap.size + 2) < ((withThrown W Zs text P1.m.cls kX).setVm vm').heap.size := by show _ < (withThrown W Zs text P1.m.cls kX).heap.size; rw [w3]; omega
  have hcell : ((withThrown W Zs text P1.m.cls kX).setVm vm').heap[(W.heap.size + 2)]? = some (freshCell P1.m.cls kX) := w4
  have X5 := ((((X4.stored hcell T.fCause.slot (.ref (W.heap.size + 2))).storedAgain ha T.fStack.slot u0.v).storedAgain ha T.fSupp.slot sen.v).storedAgain ha T.fStack.slot u0.v).storedAgain ha T.fMsg.slot (.ref (W.heap.size + 1))
  obtain ⟨g₁, hfrM⟩ := X5.frames_eq
  have hU : ((((withThrown W Zs text P1.m.cls kX).setVm vm').setCell (W.heap.size + 2) (plainBareV T.toThrowableT (freshCell P1.m.cls kX) (W.heap.size + 2) u0 sen (.ref (W.heap.size + 1)))).setTop g).pushFrame (.throwing (W.heap.size + 2)) = (((withThrown W Zs text P1.m.cls kX).setVm vm').setCell (W.heap.size + 2) (plainBareV T.toThrowableT (freshCell P1.m.cls kX) (W.heap.size + 2) u0 sen (.ref (W.heap.size + 1)))).setFrames (.throwing (W.heap.size + 2) :: .java g :: below) := by
    rw [State.pushFrame, State.frames_setTop _ hfrM, State.setTop_of_frames _ hfrM, State.setFrames_setFrames]
  have b1 : (bytesOf Zs.cB (stringToUtf16 text)).slots.size = (stringBytes (stringToUtf16 text)).size := by
    rw [(Cell.writeAll_facts _ _).2.2]; simp [bytes0]
  have b2 : (stringAt Zs.cS Zs.kS Zs.fv Zs.fc (stringToUtf16 text) W.heap.size).slots.size = 4 := by simp [string0, Cell.setSlot, hn4]
  have b3 : (freshCell P1.m.cls kX).slots.size = 6 := by simp [hn6]
  rw [b1, b2, b3] at X5
  have e9 : slots + (stringBytes (stringToUtf16 text)).size + 4 + 6 = slots + ((stringBytes (stringToUtf16 text)).size + 4 + 6) := by omega
  rw [e9] at X5
  simp only [List.append_assoc, List.cons_append, List.nil_append] at X5
  refine ⟨((withThrown W Zs text P1.m.cls kX).setVm vm').setCell (W.heap.size + 2) (plainBareV T.toThrowableT (freshCell P1.m.cls kX) (W.heap.size + 2) u0 sen (.ref (W.heap.size + 1))), W.heap.size + 2, _, fun target ht => st _ (by rw [X.tail, ← hU]; exact ht),
    X5.forget (fun y hy => ?_), heapAt_setCell_self _ ha, hfound, rfl⟩
  simp only [List.mem_cons, List.not_mem_nil, or_false] at hy
  have hge : s.heap.size ≤ W.heap.size := X.same.2.1
  rcases hy with rfl | rfl | rfl | rfl | rfl <;> exact Nat.le_trans hge (Nat.le_add_right _ 2)
set_option maxHeartbeats 1000000 in
/-- the machine throws NullPointerException, no traces kept: from its note over the frame g to 'throwing' over the same frame (follows the proof of Stand.vmThrowsNpe, Shelf42/KT2.lean; throwsNpeColdBareVAt, Shelf42/NT91.lean, called) -/
theorem vx_npeAt {p : Program} {l : Launch} {e : Env} {R : Room} {s : State} {m₀ : MethodId} {args : Array Value} {below : List Frame} {meth : Method} {c : Code} {W : State} {locs : List Loc} {cells slots : Nat}
    (X : Stand p l e R s m₀ args below meth c W locs cells slots) (hexec : p.tables.exec = Jvm.exec) (htr : e.platform.stackTraces = false) {n : Nat}
    (h : ∀ a ∈ Bundle.npeArmAtoms n, a.before args s = true)
    (hlocs : ∀ x ∈ locs, ∀ cell, s.heap[x.base]? = some cell → cell.vm.isStatics = false)
    {g : JFrame} (hg : g.method = m₀) (hsize : g.locals.size = c.maxLocals)
    (hRframes : 7 < R.frames) (hRlocals : 2 * g.monitorRoom + (g.stack.map fun v => v.category).sum + 10240 ≤ R.locals)
    (hRcells : cells + 1 ≤ R.cells) (hRslots : slots + n ≤ R.slots) (hlocks : meth.locks = false) :
    ∃ (S : State) (q : Addr) (ce : Cell), (∀ target, Steps p.tables e below ((S.setTop g).pushFrame (.throwing q)) target → Steps p.tables e below ((W.setTop g).pushFrame (.throwNew "java/lang/NullPointerException" none none)) target) ∧
      Stand p l e R s m₀ args below meth c S locs (cells + 1) (slots + n) ∧ S.heap[q]? = some ce ∧ s.vm.findClass "java/lang/NullPointerException" = some ce.cls ∧ ce.vm = .none := by
  have howns : e.platform.frameOwnsMonitors = true := by rw [X.admits.platform]
  have hfin : e.platform.finalization = false := by rw [X.admits.platform]
  have hpl : e.platform.magicAccessors = ({} : Platform).magicAccessors := by rw [X.admits.platform]
  have hpl2 : e.platform.arrayCloneIsPublic = true := by rw [X.admits.platform]
  have a' : ∀ x, x ∈ Bundle.npeArmAtoms n → x.holds args s none s [] = true := fun x hx => h x hx
  obtain ⟨T, Z, L, LZ, Y⟩ := ThrowableC.of_atoms (args := args) howns hfin hpl (fun x hx => h x (by simp [Bundle.npeArmAtoms, hx]))
  obtain ⟨N, LN, hcN, hnNF, hordN, hffS⟩ := NpeC.of_atoms (args := args) hpl hpl2 L Y (fun x hx => h x (by simp [Bundle.npeArmAtoms, hx]))
  obtain ⟨P1, L1, hP1m, hP1s⟩ := PassC.of_atoms (args := args) (s := s) hpl (X := Bundle.nN) (Y := Bundle.rN) (by decide) (by decide) LibCode.NullPointerException.Init0.at_0 LibCode.NullPointerException.Init0.at_1 LibCode.NullPointerException.Init0.at_4 (fun x hx => h x (by simp [Bundle.npeArmAtoms, hx]))
  obtain ⟨PR, LR, hPRm, hPRs⟩ := PassC.of_atoms (args := args) (s := s) hpl (X := Bundle.rN) (Y := Bundle.eN) (by decide) (by decide) LibCode.RuntimeException.Init0.at_0 LibCode.RuntimeException.Init0.at_1 LibCode.RuntimeException.Init0.at_4 (fun x hx => h x (by simp [Bundle.npeArmAtoms, hx]))
  obtain ⟨PE, LEx, hPEm, hPEs⟩ := PassC.of_atoms (args := args) (s := s) hpl (X := Bundle.eN) (Y := Bundle.tN) (by decide) (by decide) LibCode.Exception.Init0.at_0 LibCode.Exception.Init0.at_1 LibCode.Exception.Init0.at_4 (fun x hx => h x (by simp [Bundle.npeArmAtoms, hx]))
  have hfound : s.vm.findClass Bundle.nN = some P1.m.cls := findClass_of_methodNamed hP1m
  have ecls : N.cN = P1.m.cls := Option.some.inj (hcN.symm.trans hfound)
  have hk : s.vm.classes[P1.m.cls]? = some N.kN := by rw [← ecls]; exact LN.cls
  have hinit := Cond.initialized_spec hfound hk (a' (.initialized Bundle.nN) (by simp [Bundle.npeArmAtoms]))
  have hctor : N.kN.findMethod "<init>" "()V" = some P1.m.idx := findMethod_of_methodNamed hP1m hk
  obtain ⟨c1, k1, hc1, hk1, -, -, -, hn⟩ := Cond.instantiable_spec (a' (.instantiable Bundle.nN n) (by simp [Bundle.npeArmAtoms]))
  cases Option.some.inj (hc1.symm.trans hfound)
  cases Option.some.inj (hk1.symm.trans hk)
  have hfsz : (freshCell P1.m.cls N.kN).slots.size = n := by simp [hn]
  have hlink1 : P1.sup = PR.m := Option.some.inj (hP1s.symm.trans hPRm)
  have hlinkR : PR.sup = PE.m := Option.some.inj (hPRs.symm.trans hPEm)
  have hlinkE : PE.sup = Z.m T.toThrowableT := Option.some.inj (hPEs.symm.trans Y.init0)
  have hLs : ∀ P, P ∈ [PR, PE] → P.Links0 e.platform s := fun P hP => by
    simp only [List.mem_cons, List.not_mem_nil, or_false] at hP
    rcases hP with rfl | rfl
    · exact LR
    · exact LEx
  have hsel0 : selectMethod e.platform s.vm P1.m.cls T.fill0 = .method T.fill0 := by
    obtain ⟨c2, r2, m2, q1, q2, q3, q4, -⟩ := Cond.selects_spec (a' (.selects Bundle.nN Bundle.tFill0 Bundle.tFill0) (by simp [Bundle.npeArmAtoms]))
    cases Option.some.inj (q1.symm.trans hfound)
    cases Option.some.inj (q2.symm.trans (State.methodFound?_of_named Y.fill0 (by decide)))
    cases Option.some.inj (q3.symm.trans Y.fill0)
    rw [Launch.admits_selectMethod X.admits]; exact q4
  have hselF : selectMethod e.platform s.vm P1.m.cls T.fill = .method N.fill := by
    obtain ⟨c2, r2, m2, q1, q2, q3, q4, -⟩ := Cond.selects_spec (a' (.selects Bundle.nN Bundle.tFill Bundle.nFill) (by simp [Bundle.npeArmAtoms]))
    cases Option.some.inj (q1.symm.trans hfound)
    cases Option.some.inj (q2.symm.trans (State.methodFound?_of_named Y.fill (by decide)))
    cases Option.some.inj (q3.symm.trans hnNF)
    rw [Launch.admits_selectMethod X.admits]; exact q4
  obtain ⟨cellS0, hcS0, hiss⟩ := Y.statics
  obtain ⟨u0, hu0⟩ := Cond.staticRefV Y.unassigned L.unassignedStatic L.statics hcS0 hiss (a' (.isRef (.static Bundle.tN "UNASSIGNED_STACK" Bundle.steD)) (by simp [Bundle.npeArmAtoms]))
  obtain ⟨sen, hsen⟩ := Cond.staticRefV Y.sentinel L.sentinelStatic L.statics hcS0 hiss (a' (.isRef (.static Bundle.tN "SUPPRESSED_SENTINEL" Bundle.listD)) (by simp [Bundle.npeArmAtoms]))
  obtain ⟨ci198, i198, fB, hk198, hg198, ha198, hsB, -, hnB, htB, hffB⟩ := Cond.ownField (t := .object "java/lang/Object") Y.found L.cls (by decide +kernel) (a' (.fieldLink Bundle.tN 198 Bundle.tN "backtrace" Bundle.objD) (by simp [Bundle.npeArmAtoms])) (a' (.lays Bundle.tN Bundle.tN "backtrace" Bundle.objD) (by simp [Bundle.npeArmAtoms])) e.platform hpl
  obtain ⟨cellS, hcS', heS, -, hkeep⟩ := X.same.2.2.2.2.2 T.aS cellS0 hcS0
  have hcellS : W.heap[T.aS]? = some cellS := hcS'
  have hout' : ∀ i, (⟨T.aS, i⟩ : Loc) ∉ locs := fun i hmem => by
    have := hlocs _ hmem cellS0 hcS0
    rw [hiss] at this; cases this
  have hknownS : cellS.vm ≠ .unknown := by
    rw [heS]; intro hu
    rw [show cellS0.vm = .unknown from hu] at hiss
    cases hiss
  have hvU : cellS.slots[T.fUnassigned.slot]? = some u0.v := by rw [hkeep _ (hout' _)]; exact hu0
  have hvSen : cellS.slots[T.fSentinel.slot]? = some sen.v := by rw [hkeep _ (hout' _)]; exact hsen
  obtain ⟨tyC, dC, hdC, hdnC⟩ := Cond.laysAt hfound hk Y.cause (a' (.lays Bundle.nN Bundle.tN "cause" "Ljava/lang/Throwable;") (by simp [Bundle.npeArmAtoms]))
  obtain ⟨tyS, dS, hdS, hdnS⟩ := Cond.laysAt hfound hk Y.stack (a' (.lays Bundle.nN Bundle.tN "stackTrace" Bundle.steD) (by simp [Bundle.npeArmAtoms]))
  obtain ⟨tyP, dP, hdP, hdnP⟩ := Cond.laysAt hfound hk Y.supp (a' (.lays Bundle.nN Bundle.tN "suppressedExceptions" Bundle.listD) (by simp [Bundle.npeArmAtoms]))
  obtain ⟨tyX, dX, hdX, hdnX⟩ := Cond.laysAt hfound hk hffS (a' (.lays Bundle.nN Bundle.nN "extendedMessageState" "I") (by simp [Bundle.npeArmAtoms, Bundle.npeAtoms]))
  obtain ⟨hnX, htX⟩ := State.fieldFound?_type hffS (t := .int) (by decide +kernel)
  have xC := Cond.laysApart hdC hdX hdnC hdnX (by rw [hnX, Y.causeName]; decide)
  have xS := Cond.laysApart hdS hdX hdnS hdnX (by rw [hnX, Y.stackName]; decide)
  have xP := Cond.laysApart hdP hdX hdnP hdnX (by rw [hnX, Y.suppName]; decide)
  have hv0 : (freshCell P1.m.cls N.kN).slots[N.fState.slot]? = some (.int 0) := by
    have := fresh_default (c := P1.m.cls) tyX
    rw [htX] at this; exact this
  obtain ⟨tyB, dB, hdB, hdnB⟩ := Cond.laysAt hfound hk hffB (a' (.lays Bundle.nN Bundle.tN "backtrace" Bundle.objD) (by simp [Bundle.npeArmAtoms]))
  have bC := Cond.laysApart hdB hdC hdnB hdnC (by rw [hnB, Y.causeName]; decide)
  have bS := Cond.laysApart hdB hdS hdnB hdnS (by rw [hnB, Y.stackName]; decide)
  have bP := Cond.laysApart hdB hdP hdnB hdnP (by rw [hnB, Y.suppName]; decide)
  have bX := Cond.laysApart hdB hdX hdnB hdnX (by rw [hnB, hnX]; decide)
  have hbk : ((npeCell N.toNpeT (preparedCellV T.toThrowableT (freshCell P1.m.cls N.kN) W.heap.size u0 sen) W.cur).withEntry W.cur).slots[fB.slot]? = some .null := by
    have := fresh_default (c := P1.m.cls) tyB
    rw [htB] at this
    simpa [npeCell, preparedCellV, Cell.setSlot, Cell.withEntry, Array.getElem?_setIfInBounds, bC, bS, bP, bX, bC.symm, bS.symm, bP.symm, bX.symm, defaultValue] using this
  have tkC := Takes.of_laid (v := .ref W.heap.size) hk hordN tyC (by rw [Y.causeType]; rfl)
  have tkS := Takes.of_laid (v := u0.v) hk hordN tyS (by rw [Y.stackType]; exact fits_refV_array _ u0)
  have tkP := Takes.of_laid (v := sen.v) hk hordN tyP (by rw [Y.suppType]; exact fits_refV_object _ sen)
  have tkX := Takes.of_laid (v := .int 1) hk hordN tyX (by rw [htX]; rfl)
  have hskip : SkipFacts T e.platform s (fun u => u) u0 ((npeCell N.toNpeT (preparedCellV T.toThrowableT (freshCell P1.m.cls N.kN) W.heap.size u0 sen) W.cur).withEntry W.cur) := ⟨{ ci198 := ci198, i198 := i198, fBack := fB }, ⟨hk198, hg198, ha198, hsB⟩, hbk, fun _ _ => rfl⟩
  obtain ⟨vm', X3, st, -⟩ := X.throwsNpeColdBareVAt hexec hg hsize T L Z LZ N LN P1 L1 [PR, PE] hLs hlink1 ⟨hlinkR, hlinkE, trivial⟩ hfound hk hinit hordN hctor hsel0 hselF hcellS hknownS hvU hvSen
    hv0 xC xS xP tkC tkS tkP tkX Y.objLocals hskip (fun _ _ hA hW _ hroom _ hrest => L.nativeOff p htr hA hW hroom hrest) (by simpa using hRframes) hRlocals (by simp) hRcells (by rw [hn]; exact hRslots)
  have hlt : W.heap.size < ((W.pushCell (freshCell P1.m.cls N.kN)).setVm vm').heap.size := by
    show W.heap.size < (W.pushCell (freshCell P1.m.cls N.kN)).heap.size
    rw [State.heap_size_pushCell]; omega
  rw [hfsz] at X3
  obtain ⟨g₁, hfrM⟩ := X3.frames_eq
  have hU : ((((W.pushCell (freshCell P1.m.cls N.kN)).setVm vm').setCell W.heap.size (npeBareV T.toThrowableT N.toNpeT (freshCell P1.m.cls N.kN) W.heap.size u0 sen)).setTop g).pushFrame (.throwing W.heap.size) = (((W.pushCell (freshCell P1.m.cls N.kN)).setVm vm').setCell W.heap.size (npeBareV T.toThrowableT N.toNpeT (freshCell P1.m.cls N.kN) W.heap.size u0 sen)).setFrames (.throwing W.heap.size :: .java g :: below) := by
    rw [State.pushFrame, State.frames_setTop _ hfrM, State.setTop_of_frames _ hfrM, State.setFrames_setFrames]
  refine ⟨_, W.heap.size, _, fun target ht => st.trans (by rw [← hU]; exact ht), X3.forget (fun y hy => ?_), heapAt_setCell_self _ hlt, hfound, rfl⟩
  simp only [List.mem_cons, List.not_mem_nil, or_false] at hy
  have hge : s.heap.size ≤ W.heap.size := X.same.2.1
  rcases hy with rfl | rfl | rfl | rfl | rfl <;> exact hge
/-- the words of a machine's NullPointerException, but the four that speak of the heap -/
def vx_atN (n : Nat) : List Cond := (Bundle.npeArmAtoms n).filter vx_no
/-- the words of a machine's throw with a message, but the four that speak of the heap -/
def vx_atM (X : String) (names : List String) : List Cond := (Bundle.messageArmAtoms X names).filter vx_no
section
variable {p : Program} {l : Launch} {e : Env} {R : Room} {s : State} {m : MethodId} {args : Array Value} {below : List Frame} {meth : Method} {c : Code} {H : Heap} {locs : List Loc} {cells slots : Nat}
/-- a frame seen from a rebased start, seen from the first start again -/
theorem vx_back9 {T S : State} {R' : Room} {k n : Nat} (X : Stand p l e R s m args below meth c T locs cells slots) (Y : Stand p l e R' ((T.setVm s.vm).setFrames (.invoking m args :: below)) m args below meth c T [] 0 0) (Z : Stand p l e R' ((T.setVm s.vm).setFrames (.invoking m args :: below)) m args below meth c S [] k n) :
    Stand p l e R s m args below meth c S locs (cells + k) (slots + n) := by
  have hW0 : s.WarmedH ((T.setVm s.vm).setFrames (.invoking m args :: below)).vm := State.WarmedH.refl s
  refine { admits := X.admits, cas := X.cas, clock := X.clock, frames := X.frames, room := X.room, hears := X.hears, method := X.method, code := X.code, here := Z.here, tail := Z.tail, warmed := State.WarmedH.trans hW0 Z.warmed, limits := Z.limits.trans (Y.limits.symm.trans X.limits), bytes := Z.bytes.trans (Y.bytes.symm.trans X.bytes), same := ?_ }
  obtain ⟨e1, e2⟩ := Z.same
  rw [State.setFrames_setFrames] at e1
  have h2 : (T.setVm s.vm).sameButNew (S.setVm s.vm) [] k n := ⟨e1, e2⟩
  have h3 := X.same.trans h2
  rw [List.append_nil] at h3
  exact h3
/-- from the machine's note that E is thrown here with this text -/
def vx_Note (p : Program) (l : Launch) (e : Env) (R : Room) (s : State) (m : MethodId) (args : Array Value) (below : List Frame) (meth : Method) (c : Code) (H : Heap) (locs : List Loc) (cells slots : Nat) (Q : State → Prop) (g : JFrame) (E text : String) : Prop :=
  ∀ T : State, T.heap = H → Stand p l e R s m args below meth c T locs cells slots → ∃ t, Steps p.tables e below ((T.setTop g).pushFrame (.throwNew E (some text) none)) t ∧ Q t
theorem vx_vm {pc : Nat} {ls : Array Slot} {rest : List Value} {Q : State → Prop} (hexec : p.tables.exec = Jvm.exec) (hl : l.stackTraces = false) {cls text : String} {names : List String} {nb : Nat} {A : Nat → Prop}
    (hcls : Bundle.fit cls = true) (hnames : ∀ n ∈ names, Bundle.fit n = true) (hsoe : (cls == "java/lang/StackOverflowError") = false) (hoom : (cls == "java/lang/OutOfMemoryError") = false)
    (hat : ∀ w ∈ vx_atM cls names, w.before args s = true) (hgood : ∀ w ∈ vx_atM cls names, vx_ot w = true)
    (hU : vx_Zq Bundle.tN "UNASSIGNED_STACK" Bundle.steD A s s.heap) (hN : vx_Zq Bundle.tN "SUPPRESSED_SENTINEL" Bundle.listD A s s.heap) (hS : va_S A s.heap H locs) (hsize : ls.size = c.maxLocals)
    (htext : (text == notModelled) = false) (hnb : (stringBytes (stringToUtf16 text)).size ≤ nb) (hnb1 : nb ≤ 1000)
    (hRframes : names.length + 4 < R.frames) (hRlocals : (rest.map fun v => v.category).sum + 10240 ≤ R.locals) (hshort : 13 * names.length + 55 ≤ 10240) (hRcells : cells + 3 ≤ R.cells) (hRslots : slots + (nb + 10) ≤ R.slots) (hlocks : meth.locks = false)
    (k : ∀ (H1 : Heap) (q9 : Addr) (ce : Cell), H.size ≤ H1.size → (∀ q : Nat, q < H.size → H1[q]? = H[q]?) → va_S A s.heap H1 locs → H1[q9]? = some ce → ce.vm = .none → s.vm.findClass cls = some ce.cls → vx_W p l e R s m args below meth c H1 locs (cells + 3) (slots + (nb + 10)) Q (F0 m pc ls rest) q9) :
    vx_Note p l e R s m args below meth c H locs cells slots Q (F0 m pc ls rest) cls text := by
  intro T hT X
  have htr : e.platform.stackTraces = false := (show e.platform.stackTraces = l.stackTraces by rw [X.admits.platform]).trans hl
  have Y := vx_rebase X (R' := { frames := R.frames, locals := R.locals, cells := 3, slots := nb + 10 }) (Nat.le_refl _) (Nat.le_refl _) hRcells hRslots
  have hhp : ((T.setVm s.vm).setFrames (.invoking m args :: below)).heap = H := hT
  have hW0 : s.WarmedH ((T.setVm s.vm).setFrames (.invoking m args :: below)).vm := State.WarmedH.refl s
  have hat' : ∀ w ∈ vx_atM cls names, w.before args ((T.setVm s.vm).setFrames (.invoking m args :: below)) = true := fun w hw => vx_ot_at hW0 rfl (hgood w hw) (hat w hw)
  have hU' : vx_Zq Bundle.tN "UNASSIGNED_STACK" Bundle.steD A ((T.setVm s.vm).setFrames (.invoking m args :: below)) ((T.setVm s.vm).setFrames (.invoking m args :: below)).heap := by rw [hhp]; exact vx_Zq.moved hW0.alike (hU.kept hS.2.1)
  have hN' : vx_Zq Bundle.tN "SUPPRESSED_SENTINEL" Bundle.listD A ((T.setVm s.vm).setFrames (.invoking m args :: below)) ((T.setVm s.vm).setFrames (.invoking m args :: below)).heap := by rw [hhp]; exact vx_Zq.moved hW0.alike (hN.kept hS.2.1)
  obtain ⟨S, q, ce, st, Z, hce, hcl', hv⟩ := vx_vmAt Y hexec htr (cls := cls) (names := names) (text := text) hcls hnames hsoe hoom (vx_own hat' (vx_isRefq hU'.1) (vx_isRefq hN'.1) hU'.2.word hN'.2.word) (fun x hx => nomatch hx) htext
    (by rw [Launch.admits_arrayLengthLimit X.admits]; omega) (by rw [Launch.admits_maxHeapBytes X.admits]; simp only [componentBytes]; omega)
    (g := F0 m pc ls rest) rfl hsize hRframes (by show 2 * 0 + (rest.map fun v => v.category).sum + 10240 ≤ R.locals; omega) hshort (by show 0 + 3 ≤ 3; omega) (by show 0 + (_ + 4 + 6) ≤ nb + 10; omega) hlocks
  obtain ⟨f1, f2⟩ := vx_frame Z.same
  have f1' : H.size ≤ S.heap.size := by rw [← hT]; exact f1
  have f2' : ∀ q : Nat, q < H.size → S.heap[q]? = H[q]? := fun q hq => by
    rw [← hT]
    exact f2 q (by rw [← hT] at hq; exact hq) (fun z hz => nomatch hz)
  have X5 := vx_back9 X Y Z
  have X6 : Stand p l e R s m args below meth c S locs (cells + 3) (slots + (nb + 10)) := { X5 with same := X5.same.mono (by omega) (by omega) }
  obtain ⟨t, a1, b1⟩ := k S.heap q ce f1' f2' ⟨Nat.le_trans hS.1 f1', fun q h1 h2 => (f2' q (Nat.lt_of_lt_of_le h1 hS.1)).trans (hS.2.1 q h1 h2), hS.2.2⟩ hce hv hcl' S rfl X6
  exact ⟨t, st t a1, b1⟩
/-- from the machine's note that NullPointerException is thrown here -/
def vx_NoteN (p : Program) (l : Launch) (e : Env) (R : Room) (s : State) (m : MethodId) (args : Array Value) (below : List Frame) (meth : Method) (c : Code) (H : Heap) (locs : List Loc) (cells slots : Nat) (Q : State → Prop) (g : JFrame) : Prop :=
  ∀ T : State, T.heap = H → Stand p l e R s m args below meth c T locs cells slots → ∃ t, Steps p.tables e below ((T.setTop g).pushFrame (.throwNew "java/lang/NullPointerException" none none)) t ∧ Q t
theorem vx_npe {pc : Nat} {ls : Array Slot} {rest : List Value} {Q : State → Prop} (hexec : p.tables.exec = Jvm.exec) (hl : l.stackTraces = false) {nb : Nat} {A : Nat → Prop}
    (hat : ∀ w ∈ vx_atN nb, w.before args s = true) (hgood : ∀ w ∈ vx_atN nb, vx_ot w = true)
    (hU : vx_Zq Bundle.tN "UNASSIGNED_STACK" Bundle.steD A s s.heap) (hN : vx_Zq Bundle.tN "SUPPRESSED_SENTINEL" Bundle.listD A s s.heap) (hS : va_S A s.heap H locs) (hsize : ls.size = c.maxLocals)
    (hRframes : 7 < R.frames) (hRlocals : (rest.map fun v => v.category).sum + 10240 ≤ R.locals) (hRcells : cells + 1 ≤ R.cells) (hRslots : slots + nb ≤ R.slots) (hlocks : meth.locks = false)
    (k : ∀ (H1 : Heap) (q9 : Addr) (ce : Cell), H.size ≤ H1.size → (∀ q : Nat, q < H.size → H1[q]? = H[q]?) → va_S A s.heap H1 locs → H1[q9]? = some ce → ce.vm = .none → s.vm.findClass "java/lang/NullPointerException" = some ce.cls → vx_W p l e R s m args below meth c H1 locs (cells + 1) (slots + nb) Q (F0 m pc ls rest) q9) :
    vx_NoteN p l e R s m args below meth c H locs cells slots Q (F0 m pc ls rest) := by
  intro T hT X
  have htr : e.platform.stackTraces = false := (show e.platform.stackTraces = l.stackTraces by rw [X.admits.platform]).trans hl
  have Y := vx_rebase X (R' := { frames := R.frames, locals := R.locals, cells := 1, slots := nb }) (Nat.le_refl _) (Nat.le_refl _) hRcells hRslots
  have hhp : ((T.setVm s.vm).setFrames (.invoking m args :: below)).heap = H := hT
  have hW0 : s.WarmedH ((T.setVm s.vm).setFrames (.invoking m args :: below)).vm := State.WarmedH.refl s
  have hat' : ∀ w ∈ vx_atN nb, w.before args ((T.setVm s.vm).setFrames (.invoking m args :: below)) = true := fun w hw => vx_ot_at hW0 rfl (hgood w hw) (hat w hw)
  have hU' : vx_Zq Bundle.tN "UNASSIGNED_STACK" Bundle.steD A ((T.setVm s.vm).setFrames (.invoking m args :: below)) ((T.setVm s.vm).setFrames (.invoking m args :: below)).heap := by rw [hhp]; exact vx_Zq.moved hW0.alike (hU.kept hS.2.1)
  have hN' : vx_Zq Bundle.tN "SUPPRESSED_SENTINEL" Bundle.listD A ((T.setVm s.vm).setFrames (.invoking m args :: below)) ((T.setVm s.vm).setFrames (.invoking m args :: below)).heap := by rw [hhp]; exact vx_Zq.moved hW0.alike (hN.kept hS.2.1)
  obtain ⟨S, q, ce, st, Z, hce, hcl', hv⟩ := vx_npeAt Y hexec htr (n := nb) (vx_own hat' (vx_isRefq hU'.1) (vx_isRefq hN'.1) hU'.2.word hN'.2.word) (fun x hx => nomatch hx)
    (g := F0 m pc ls rest) rfl hsize hRframes (by show 2 * 0 + (rest.map fun v => v.category).sum + 10240 ≤ R.locals; omega) (by show 0 + 1 ≤ 1; omega) (by show 0 + nb ≤ nb; omega) hlocks
  obtain ⟨f1, f2⟩ := vx_frame Z.same
  have f1' : H.size ≤ S.heap.size := by rw [← hT]; exact f1
  have f2' : ∀ q : Nat, q < H.size → S.heap[q]? = H[q]? := fun q hq => by
    rw [← hT]
    exact f2 q (by rw [← hT] at hq; exact hq) (fun z hz => nomatch hz)
  have X5 := vx_back9 X Y Z
  have X6 : Stand p l e R s m args below meth c S locs (cells + 1) (slots + nb) := { X5 with same := X5.same.mono (by omega) (by omega) }
  obtain ⟨t, a1, b1⟩ := k S.heap q ce f1' f2' ⟨Nat.le_trans hS.1 f1', fun q h1 h2 => (f2' q (Nat.lt_of_lt_of_le h1 hS.1)).trans (hS.2.1 q h1 h2), hS.2.2⟩ hce hv hcl' S rfl X6
  exact ⟨t, st t a1, b1⟩
variable {Q : State → Prop} {cc : ByteArray} {pc : Nat} {ls : Array Slot} {rest : List Value}
theorem vx_idivZ (hexec : p.tables.exec = Jvm.exec) (hb : c.code = cc) {a b : Int32} (h0 : b = 0) (d : decode cc pc = .ok (.idiv, 1)) (k : vx_Note p l e R s m args below meth c H locs cells slots Q (F0 m pc ls rest) "java/lang/ArithmeticException" "/ by zero") :
    W p l e R s m args below meth c H locs cells slots Q (F0 m pc ls (.int b :: .int a :: rest)) := by
  intro T hT X
  obtain ⟨t, st, q⟩ := k T hT X
  exact ⟨t, X.idivZero hexec (g := F0 m pc ls (.int b :: .int a :: rest)) rfl (a := a) (rest := rest) (by rw [h0]) (by rw [hb]; exact d) t st, q⟩
theorem vx_iremZ (hexec : p.tables.exec = Jvm.exec) (hb : c.code = cc) {a b : Int32} (h0 : b = 0) (d : decode cc pc = .ok (.irem, 1)) (k : vx_Note p l e R s m args below meth c H locs cells slots Q (F0 m pc ls rest) "java/lang/ArithmeticException" "/ by zero") :
    W p l e R s m args below meth c H locs cells slots Q (F0 m pc ls (.int b :: .int a :: rest)) := by
  intro T hT X
  obtain ⟨t, st, q⟩ := k T hT X
  exact ⟨t, X.iremZero hexec (g := F0 m pc ls (.int b :: .int a :: rest)) rfl (a := a) (rest := rest) (by rw [h0]) (by rw [hb]; exact d) t st, q⟩
theorem vx_ldivZ (hexec : p.tables.exec = Jvm.exec) (hb : c.code = cc) {a b : Int64} (h0 : b = 0) (d : decode cc pc = .ok (.ldiv, 1)) (k : vx_Note p l e R s m args below meth c H locs cells slots Q (F0 m pc ls rest) "java/lang/ArithmeticException" "/ by zero") :
    W p l e R s m args below meth c H locs cells slots Q (F0 m pc ls (.long b :: .long a :: rest)) := by
  intro T hT X
  obtain ⟨t, st, q⟩ := k T hT X
  exact ⟨t, X.ldivZero hexec (g := F0 m pc ls (.long b :: .long a :: rest)) rfl (a := a) (rest := rest) (by rw [h0]) (by rw [hb]; exact d) t st, q⟩
theorem vx_lremZ (hexec : p.tables.exec = Jvm.exec) (hb : c.code = cc) {a b : Int64} (h0 : b = 0) (d : decode cc pc = .ok (.lrem, 1)) (k : vx_Note p l e R s m args below meth c H locs cells slots Q (F0 m pc ls rest) "java/lang/ArithmeticException" "/ by zero") :
    W p l e R s m args below meth c H locs cells slots Q (F0 m pc ls (.long b :: .long a :: rest)) := by
  intro T hT X
  obtain ⟨t, st, q⟩ := k T hT X
  exact ⟨t, X.lremZero hexec (g := F0 m pc ls (.long b :: .long a :: rest)) rfl (a := a) (rest := rest) (by rw [h0]) (by rw [hb]; exact d) t st, q⟩
theorem vx_ialdZ {D : va_G} {cl : List vw_C} {ws : va_W} {tys : List (ClassId × FieldType)} {a : Nat} (hexec : p.tables.exec = Jvm.exec) (hb : c.code = cc) (hK : va_K D cl tys s) (hP : va_P D cl ws H) (q0 t0 : Nat) {cA : ClassId} {n : Nat} {f : Nat → Int32} (ha : ws[q0]? = some (a, .inl (cA, n, .inl f))) (ht : tys[t0]? = some (cA, .int)) {i : Int32} (hout : ¬ vp_in i n) (hdg : decode cc pc = .ok (.iaload, 1))
    (k : ∀ tx : String, tx = (toString "Index " ++ toString i ++ toString " out of bounds for length " ++ toString n : String) → vx_Note p l e R s m args below meth c H locs cells slots Q (F0 m pc ls rest) "java/lang/ArrayIndexOutOfBoundsException" tx) : W p l e R s m args below meth c H locs cells slots Q (F0 m pc ls (.int i :: .ref a :: rest)) := by
  intro T hT X
  obtain ⟨t, st, q⟩ := k _ rfl T hT X
  refine ⟨t, ?_, q⟩
  have h1 := X.ialoadOut hexec (by rw [hT]; exact hP q0 _ ha) ((hK.2 t0 _ ht).1 n (fun j => .int (f j))) (j := i) (by show (i < 0 ∨ (arrV _ _ _).slots.size ≤ _); rw [arrV_size]; exact Classical.byContradiction hout) (g := F0 m pc ls (.int i :: .ref a :: rest)) rfl (rest := rest) rfl (by rw [hb]; exact hdg) t
  simp only [arrV_size] at h1
  exact h1 st
theorem vx_iastZ {D : va_G} {cl : List vw_C} {ws : va_W} {tys : List (ClassId × FieldType)} {a : Nat} (hexec : p.tables.exec = Jvm.exec) (hb : c.code = cc) (hK : va_K D cl tys s) (hP : va_P D cl ws H) (q0 t0 : Nat) {cA : ClassId} {n : Nat} {f : Nat → Int32} (ha : ws[q0]? = some (a, .inl (cA, n, .inl f))) (ht : tys[t0]? = some (cA, .int)) {i : Int32} {x : Int32} (hout : ¬ vp_in i n) (hdg : decode cc pc = .ok (.iastore, 1))
    (k : ∀ tx : String, tx = (toString "Index " ++ toString i ++ toString " out of bounds for length " ++ toString n : String) → vx_Note p l e R s m args below meth c H locs cells slots Q (F0 m pc ls rest) "java/lang/ArrayIndexOutOfBoundsException" tx) : W p l e R s m args below meth c H locs cells slots Q (F0 m pc ls (.int x :: .int i :: .ref a :: rest)) := by
  intro T hT X
  obtain ⟨t, st, q⟩ := k _ rfl T hT X
  refine ⟨t, ?_, q⟩
  have h1 := X.iastoreOut hexec (by rw [hT]; exact hP q0 _ ha) ((hK.2 t0 _ ht).1 n (fun j => .int (f j))) (j := i) (by show (i < 0 ∨ (arrV _ _ _).slots.size ≤ _); rw [arrV_size]; exact Classical.byContradiction hout) (g := F0 m pc ls (.int x :: .int i :: .ref a :: rest)) rfl (rest := rest) rfl (by rw [hb]; exact hdg) t
  simp only [arrV_size] at h1
  exact h1 st
theorem vx_baldZ {D : va_G} {cl : List vw_C} {ws : va_W} {tys : List (ClassId × FieldType)} {a : Nat} (hexec : p.tables.exec = Jvm.exec) (hb : c.code = cc) (hK : va_K D cl tys s) (hP : va_P D cl ws H) (q0 t0 : Nat) {cA : ClassId} {n : Nat} {f : Nat → Int32} (ha : ws[q0]? = some (a, .inl (cA, n, .inl f))) (ht : tys[t0]? = some (cA, .byte)) {i : Int32} (hout : ¬ vp_in i n) (hdg : decode cc pc = .ok (.baload, 1))
    (k : ∀ tx : String, tx = (toString "Index " ++ toString i ++ toString " out of bounds for length " ++ toString n : String) → vx_Note p l e R s m args below meth c H locs cells slots Q (F0 m pc ls rest) "java/lang/ArrayIndexOutOfBoundsException" tx) : W p l e R s m args below meth c H locs cells slots Q (F0 m pc ls (.int i :: .ref a :: rest)) := by
  intro T hT X
  obtain ⟨t, st, q⟩ := k _ rfl T hT X
  refine ⟨t, ?_, q⟩
  have h1 := X.baloadOut hexec (by rw [hT]; exact hP q0 _ ha) ((hK.2 t0 _ ht).1 n (fun j => .int (f j))) (j := i) (by show (i < 0 ∨ (arrV _ _ _).slots.size ≤ _); rw [arrV_size]; exact Classical.byContradiction hout) (g := F0 m pc ls (.int i :: .ref a :: rest)) rfl (rest := rest) rfl (by rw [hb]; exact hdg) t
  simp only [arrV_size] at h1
  exact h1 st
theorem vx_bastZ {D : va_G} {cl : List vw_C} {ws : va_W} {tys : List (ClassId × FieldType)} {a : Nat} (hexec : p.tables.exec = Jvm.exec) (hb : c.code = cc) (hK : va_K D cl tys s) (hP : va_P D cl ws H) (q0 t0 : Nat) {cA : ClassId} {n : Nat} {f : Nat → Int32} (ha : ws[q0]? = some (a, .inl (cA, n, .inl f))) (ht : tys[t0]? = some (cA, .byte)) {i : Int32} {x : Int32} (hout : ¬ vp_in i n) (hdg : decode cc pc = .ok (.bastore, 1))
    (k : ∀ tx : String, tx = (toString "Index " ++ toString i ++ toString " out of bounds for length " ++ toString n : String) → vx_Note p l e R s m args below meth c H locs cells slots Q (F0 m pc ls rest) "java/lang/ArrayIndexOutOfBoundsException" tx) : W p l e R s m args below meth c H locs cells slots Q (F0 m pc ls (.int x :: .int i :: .ref a :: rest)) := by
  intro T hT X
  obtain ⟨t, st, q⟩ := k _ rfl T hT X
  refine ⟨t, ?_, q⟩
  have h1 := X.bastoreOut hexec (by rw [hT]; exact hP q0 _ ha) ((hK.2 t0 _ ht).1 n (fun j => .int (f j))) (j := i) (by show (i < 0 ∨ (arrV _ _ _).slots.size ≤ _); rw [arrV_size]; exact Classical.byContradiction hout) (g := F0 m pc ls (.int x :: .int i :: .ref a :: rest)) rfl (rest := rest) rfl (by rw [hb]; exact hdg) t
  simp only [arrV_size] at h1
  exact h1 st
theorem vx_zaldZ {D : va_G} {cl : List vw_C} {ws : va_W} {tys : List (ClassId × FieldType)} {a : Nat} (hexec : p.tables.exec = Jvm.exec) (hb : c.code = cc) (hK : va_K D cl tys s) (hP : va_P D cl ws H) (q0 t0 : Nat) {cA : ClassId} {n : Nat} {f : Nat → Int32} (ha : ws[q0]? = some (a, .inl (cA, n, .inl f))) (ht : tys[t0]? = some (cA, .boolean)) {i : Int32} (hout : ¬ vp_in i n) (hdg : decode cc pc = .ok (.baload, 1))
    (k : ∀ tx : String, tx = (toString "Index " ++ toString i ++ toString " out of bounds for length " ++ toString n : String) → vx_Note p l e R s m args below meth c H locs cells slots Q (F0 m pc ls rest) "java/lang/ArrayIndexOutOfBoundsException" tx) : W p l e R s m args below meth c H locs cells slots Q (F0 m pc ls (.int i :: .ref a :: rest)) := by
  intro T hT X
  obtain ⟨t, st, q⟩ := k _ rfl T hT X
  refine ⟨t, ?_, q⟩
  have h1 := X.baloadOut hexec (by rw [hT]; exact hP q0 _ ha) ((hK.2 t0 _ ht).1 n (fun j => .int (f j))) (j := i) (by show (i < 0 ∨ (arrV _ _ _).slots.size ≤ _); rw [arrV_size]; exact Classical.byContradiction hout) (g := F0 m pc ls (.int i :: .ref a :: rest)) rfl (rest := rest) rfl (by rw [hb]; exact hdg) t
  simp only [arrV_size] at h1
  exact h1 st
theorem vx_zastZ {D : va_G} {cl : List vw_C} {ws : va_W} {tys : List (ClassId × FieldType)} {a : Nat} (hexec : p.tables.exec = Jvm.exec) (hb : c.code = cc) (hK : va_K D cl tys s) (hP : va_P D cl ws H) (q0 t0 : Nat) {cA : ClassId} {n : Nat} {f : Nat → Int32} (ha : ws[q0]? = some (a, .inl (cA, n, .inl f))) (ht : tys[t0]? = some (cA, .boolean)) {i : Int32} {x : Int32} (hout : ¬ vp_in i n) (hdg : decode cc pc = .ok (.bastore, 1))
    (k : ∀ tx : String, tx = (toString "Index " ++ toString i ++ toString " out of bounds for length " ++ toString n : String) → vx_Note p l e R s m args below meth c H locs cells slots Q (F0 m pc ls rest) "java/lang/ArrayIndexOutOfBoundsException" tx) : W p l e R s m args below meth c H locs cells slots Q (F0 m pc ls (.int x :: .int i :: .ref a :: rest)) := by
  intro T hT X
  obtain ⟨t, st, q⟩ := k _ rfl T hT X
  refine ⟨t, ?_, q⟩
  have h1 := X.bastoreOut hexec (by rw [hT]; exact hP q0 _ ha) ((hK.2 t0 _ ht).1 n (fun j => .int (f j))) (j := i) (by show (i < 0 ∨ (arrV _ _ _).slots.size ≤ _); rw [arrV_size]; exact Classical.byContradiction hout) (g := F0 m pc ls (.int x :: .int i :: .ref a :: rest)) rfl (rest := rest) rfl (by rw [hb]; exact hdg) t
  simp only [arrV_size] at h1
  exact h1 st
theorem vx_caldZ {D : va_G} {cl : List vw_C} {ws : va_W} {tys : List (ClassId × FieldType)} {a : Nat} (hexec : p.tables.exec = Jvm.exec) (hb : c.code = cc) (hK : va_K D cl tys s) (hP : va_P D cl ws H) (q0 t0 : Nat) {cA : ClassId} {n : Nat} {f : Nat → Int32} (ha : ws[q0]? = some (a, .inl (cA, n, .inl f))) (ht : tys[t0]? = some (cA, .char)) {i : Int32} (hout : ¬ vp_in i n) (hdg : decode cc pc = .ok (.caload, 1))
    (k : ∀ tx : String, tx = (toString "Index " ++ toString i ++ toString " out of bounds for length " ++ toString n : String) → vx_Note p l e R s m args below meth c H locs cells slots Q (F0 m pc ls rest) "java/lang/ArrayIndexOutOfBoundsException" tx) : W p l e R s m args below meth c H locs cells slots Q (F0 m pc ls (.int i :: .ref a :: rest)) := by
  intro T hT X
  obtain ⟨t, st, q⟩ := k _ rfl T hT X
  refine ⟨t, ?_, q⟩
  have h1 := X.caloadOut hexec (by rw [hT]; exact hP q0 _ ha) ((hK.2 t0 _ ht).1 n (fun j => .int (f j))) (j := i) (by show (i < 0 ∨ (arrV _ _ _).slots.size ≤ _); rw [arrV_size]; exact Classical.byContradiction hout) (g := F0 m pc ls (.int i :: .ref a :: rest)) rfl (rest := rest) rfl (by rw [hb]; exact hdg) t
  simp only [arrV_size] at h1
  exact h1 st
theorem vx_castZ {D : va_G} {cl : List vw_C} {ws : va_W} {tys : List (ClassId × FieldType)} {a : Nat} (hexec : p.tables.exec = Jvm.exec) (hb : c.code = cc) (hK : va_K D cl tys s) (hP : va_P D cl ws H) (q0 t0 : Nat) {cA : ClassId} {n : Nat} {f : Nat → Int32} (ha : ws[q0]? = some (a, .inl (cA, n, .inl f))) (ht : tys[t0]? = some (cA, .char)) {i : Int32} {x : Int32} (hout : ¬ vp_in i n) (hdg : decode cc pc = .ok (.castore, 1))
    (k : ∀ tx : String, tx = (toString "Index " ++ toString i ++ toString " out of bounds for length " ++ toString n : String) → vx_Note p l e R s m args below meth c H locs cells slots Q (F0 m pc ls rest) "java/lang/ArrayIndexOutOfBoundsException" tx) : W p l e R s m args below meth c H locs cells slots Q (F0 m pc ls (.int x :: .int i :: .ref a :: rest)) := by
  intro T hT X
  obtain ⟨t, st, q⟩ := k _ rfl T hT X
  refine ⟨t, ?_, q⟩
  have h1 := X.castoreOut hexec (by rw [hT]; exact hP q0 _ ha) ((hK.2 t0 _ ht).1 n (fun j => .int (f j))) (j := i) (by show (i < 0 ∨ (arrV _ _ _).slots.size ≤ _); rw [arrV_size]; exact Classical.byContradiction hout) (g := F0 m pc ls (.int x :: .int i :: .ref a :: rest)) rfl (rest := rest) rfl (by rw [hb]; exact hdg) t
  simp only [arrV_size] at h1
  exact h1 st
theorem vx_saldZ {D : va_G} {cl : List vw_C} {ws : va_W} {tys : List (ClassId × FieldType)} {a : Nat} (hexec : p.tables.exec = Jvm.exec) (hb : c.code = cc) (hK : va_K D cl tys s) (hP : va_P D cl ws H) (q0 t0 : Nat) {cA : ClassId} {n : Nat} {f : Nat → Int32} (ha : ws[q0]? = some (a, .inl (cA, n, .inl f))) (ht : tys[t0]? = some (cA, .short)) {i : Int32} (hout : ¬ vp_in i n) (hdg : decode cc pc = .ok (.saload, 1))
    (k : ∀ tx : String, tx = (toString "Index " ++ toString i ++ toString " out of bounds for length " ++ toString n : String) → vx_Note p l e R s m args below meth c H locs cells slots Q (F0 m pc ls rest) "java/lang/ArrayIndexOutOfBoundsException" tx) : W p l e R s m args below meth c H locs cells slots Q (F0 m pc ls (.int i :: .ref a :: rest)) := by
  intro T hT X
  obtain ⟨t, st, q⟩ := k _ rfl T hT X
  refine ⟨t, ?_, q⟩
  have h1 := X.saloadOut hexec (by rw [hT]; exact hP q0 _ ha) ((hK.2 t0 _ ht).1 n (fun j => .int (f j))) (j := i) (by show (i < 0 ∨ (arrV _ _ _).slots.size ≤ _); rw [arrV_size]; exact Classical.byContradiction hout) (g := F0 m pc ls (.int i :: .ref a :: rest)) rfl (rest := rest) rfl (by rw [hb]; exact hdg) t
  simp only [arrV_size] at h1
  exact h1 st
theorem vx_sastZ {D : va_G} {cl : List vw_C} {ws : va_W} {tys : List (ClassId × FieldType)} {a : Nat} (hexec : p.tables.exec = Jvm.exec) (hb : c.code = cc) (hK : va_K D cl tys s) (hP : va_P D cl ws H) (q0 t0 : Nat) {cA : ClassId} {n : Nat} {f : Nat → Int32} (ha : ws[q0]? = some (a, .inl (cA, n, .inl f))) (ht : tys[t0]? = some (cA, .short)) {i : Int32} {x : Int32} (hout : ¬ vp_in i n) (hdg : decode cc pc = .ok (.sastore, 1))
    (k : ∀ tx : String, tx = (toString "Index " ++ toString i ++ toString " out of bounds for length " ++ toString n : String) → vx_Note p l e R s m args below meth c H locs cells slots Q (F0 m pc ls rest) "java/lang/ArrayIndexOutOfBoundsException" tx) : W p l e R s m args below meth c H locs cells slots Q (F0 m pc ls (.int x :: .int i :: .ref a :: rest)) := by
  intro T hT X
  obtain ⟨t, st, q⟩ := k _ rfl T hT X
  refine ⟨t, ?_, q⟩
  have h1 := X.sastoreOut hexec (by rw [hT]; exact hP q0 _ ha) ((hK.2 t0 _ ht).1 n (fun j => .int (f j))) (j := i) (by show (i < 0 ∨ (arrV _ _ _).slots.size ≤ _); rw [arrV_size]; exact Classical.byContradiction hout) (g := F0 m pc ls (.int x :: .int i :: .ref a :: rest)) rfl (rest := rest) rfl (by rw [hb]; exact hdg) t
  simp only [arrV_size] at h1
  exact h1 st
theorem vx_laldZ {D : va_G} {cl : List vw_C} {ws : va_W} {tys : List (ClassId × FieldType)} {a : Nat} (hexec : p.tables.exec = Jvm.exec) (hb : c.code = cc) (hK : va_K D cl tys s) (hP : va_P D cl ws H) (q0 t0 : Nat) {cA : ClassId} {n : Nat} {f : Nat → Int64} (ha : ws[q0]? = some (a, .inl (cA, n, .inr (.inl f)))) (ht : tys[t0]? = some (cA, .long)) {i : Int32} (hout : ¬ vp_in i n) (hdg : decode cc pc = .ok (.laload, 1))
    (k : ∀ tx : String, tx = (toString "Index " ++ toString i ++ toString " out of bounds for length " ++ toString n : String) → vx_Note p l e R s m args below meth c H locs cells slots Q (F0 m pc ls rest) "java/lang/ArrayIndexOutOfBoundsException" tx) : W p l e R s m args below meth c H locs cells slots Q (F0 m pc ls (.int i :: .ref a :: rest)) := by
  intro T hT X
  obtain ⟨t, st, q⟩ := k _ rfl T hT X
  refine ⟨t, ?_, q⟩
  have h1 := X.laloadOut hexec (by rw [hT]; exact hP q0 _ ha) ((hK.2 t0 _ ht).1 n (fun j => .long (f j))) (j := i) (by show (i < 0 ∨ (arrV _ _ _).slots.size ≤ _); rw [arrV_size]; exact Classical.byContradiction hout) (g := F0 m pc ls (.int i :: .ref a :: rest)) rfl (rest := rest) rfl (by rw [hb]; exact hdg) t
  simp only [arrV_size] at h1
  exact h1 st
theorem vx_lastZ {D : va_G} {cl : List vw_C} {ws : va_W} {tys : List (ClassId × FieldType)} {a : Nat} (hexec : p.tables.exec = Jvm.exec) (hb : c.code = cc) (hK : va_K D cl tys s) (hP : va_P D cl ws H) (q0 t0 : Nat) {cA : ClassId} {n : Nat} {f : Nat → Int64} (ha : ws[q0]? = some (a, .inl (cA, n, .inr (.inl f)))) (ht : tys[t0]? = some (cA, .long)) {i : Int32} {x : Int64} (hout : ¬ vp_in i n) (hdg : decode cc pc = .ok (.lastore, 1))
    (k : ∀ tx : String, tx = (toString "Index " ++ toString i ++ toString " out of bounds for length " ++ toString n : String) → vx_Note p l e R s m args below meth c H locs cells slots Q (F0 m pc ls rest) "java/lang/ArrayIndexOutOfBoundsException" tx) : W p l e R s m args below meth c H locs cells slots Q (F0 m pc ls (.long x :: .int i :: .ref a :: rest)) := by
  intro T hT X
  obtain ⟨t, st, q⟩ := k _ rfl T hT X
  refine ⟨t, ?_, q⟩
  have h1 := X.lastoreOut hexec (by rw [hT]; exact hP q0 _ ha) ((hK.2 t0 _ ht).1 n (fun j => .long (f j))) (j := i) (by show (i < 0 ∨ (arrV _ _ _).slots.size ≤ _); rw [arrV_size]; exact Classical.byContradiction hout) (g := F0 m pc ls (.long x :: .int i :: .ref a :: rest)) rfl (rest := rest) rfl (by rw [hb]; exact hdg) t
  simp only [arrV_size] at h1
  exact h1 st
theorem vx_faldZ {D : va_G} {cl : List vw_C} {ws : va_W} {tys : List (ClassId × FieldType)} {a : Nat} (hexec : p.tables.exec = Jvm.exec) (hb : c.code = cc) (hK : va_K D cl tys s) (hP : va_P D cl ws H) (q0 t0 : Nat) {cA : ClassId} {n : Nat} {f : Nat → UInt32} (ha : ws[q0]? = some (a, .inl (cA, n, .inr (.inr (.inl f))))) (ht : tys[t0]? = some (cA, .float)) {i : Int32} (hout : ¬ vp_in i n) (hdg : decode cc pc = .ok (.faload, 1))
    (k : ∀ tx : String, tx = (toString "Index " ++ toString i ++ toString " out of bounds for length " ++ toString n : String) → vx_Note p l e R s m args below meth c H locs cells slots Q (F0 m pc ls rest) "java/lang/ArrayIndexOutOfBoundsException" tx) : W p l e R s m args below meth c H locs cells slots Q (F0 m pc ls (.int i :: .ref a :: rest)) := by
  intro T hT X
  obtain ⟨t, st, q⟩ := k _ rfl T hT X
  refine ⟨t, ?_, q⟩
  have h1 := X.faloadOut hexec (by rw [hT]; exact hP q0 _ ha) ((hK.2 t0 _ ht).1 n (fun j => .float (f j))) (j := i) (by show (i < 0 ∨ (arrV _ _ _).slots.size ≤ _); rw [arrV_size]; exact Classical.byContradiction hout) (g := F0 m pc ls (.int i :: .ref a :: rest)) rfl (rest := rest) rfl (by rw [hb]; exact hdg) t
  simp only [arrV_size] at h1
  exact h1 st
theorem vx_fastZ {D : va_G} {cl : List vw_C} {ws : va_W} {tys : List (ClassId × FieldType)} {a : Nat} (hexec : p.tables.exec = Jvm.exec) (hb : c.code = cc) (hK : va_K D cl tys s) (hP : va_P D cl ws H) (q0 t0 : Nat) {cA : ClassId} {n : Nat} {f : Nat → UInt32} (ha : ws[q0]? = some (a, .inl (cA, n, .inr (.inr (.inl f))))) (ht : tys[t0]? = some (cA, .float)) {i : Int32} {x : UInt32} (hout : ¬ vp_in i n) (hdg : decode cc pc = .ok (.fastore, 1))
    (k : ∀ tx : String, tx = (toString "Index " ++ toString i ++ toString " out of bounds for length " ++ toString n : String) → vx_Note p l e R s m args below meth c H locs cells slots Q (F0 m pc ls rest) "java/lang/ArrayIndexOutOfBoundsException" tx) : W p l e R s m args below meth c H locs cells slots Q (F0 m pc ls (.float x :: .int i :: .ref a :: rest)) := by
  intro T hT X
  obtain ⟨t, st, q⟩ := k _ rfl T hT X
  refine ⟨t, ?_, q⟩
  have h1 := X.fastoreOut hexec (by rw [hT]; exact hP q0 _ ha) ((hK.2 t0 _ ht).1 n (fun j => .float (f j))) (j := i) (by show (i < 0 ∨ (arrV _ _ _).slots.size ≤ _); rw [arrV_size]; exact Classical.byContradiction hout) (g := F0 m pc ls (.float x :: .int i :: .ref a :: rest)) rfl (rest := rest) rfl (by rw [hb]; exact hdg) t
  simp only [arrV_size] at h1
  exact h1 st
theorem vx_daldZ {D : va_G} {cl : List vw_C} {ws : va_W} {tys : List (ClassId × FieldType)} {a : Nat} (hexec : p.tables.exec = Jvm.exec) (hb : c.code = cc) (hK : va_K D cl tys s) (hP : va_P D cl ws H) (q0 t0 : Nat) {cA : ClassId} {n : Nat} {f : Nat → UInt64} (ha : ws[q0]? = some (a, .inl (cA, n, .inr (.inr (.inr (.inl f)))))) (ht : tys[t0]? = some (cA, .double)) {i : Int32} (hout : ¬ vp_in i n) (hdg : decode cc pc = .ok (.daload, 1))
    (k : ∀ tx : String, tx = (toString "Index " ++ toString i ++ toString " out of bounds for length " ++ toString n : String) → vx_Note p l e R s m args below meth c H locs cells slots Q (F0 m pc ls rest) "java/lang/ArrayIndexOutOfBoundsException" tx) : W p l e R s m args below meth c H locs cells slots Q (F0 m pc ls (.int i :: .ref a :: rest)) := by
  intro T hT X
  obtain ⟨t, st, q⟩ := k _ rfl T hT X
  refine ⟨t, ?_, q⟩
  have h1 := X.daloadOut hexec (by rw [hT]; exact hP q0 _ ha) ((hK.2 t0 _ ht).1 n (fun j => .double (f j))) (j := i) (by show (i < 0 ∨ (arrV _ _ _).slots.size ≤ _); rw [arrV_size]; exact Classical.byContradiction hout) (g := F0 m pc ls (.int i :: .ref a :: rest)) rfl (rest := rest) rfl (by rw [hb]; exact hdg) t
  simp only [arrV_size] at h1
  exact h1 st
theorem vx_dastZ {D : va_G} {cl : List vw_C} {ws : va_W} {tys : List (ClassId × FieldType)} {a : Nat} (hexec : p.tables.exec = Jvm.exec) (hb : c.code = cc) (hK : va_K D cl tys s) (hP : va_P D cl ws H) (q0 t0 : Nat) {cA : ClassId} {n : Nat} {f : Nat → UInt64} (ha : ws[q0]? = some (a, .inl (cA, n, .inr (.inr (.inr (.inl f)))))) (ht : tys[t0]? = some (cA, .double)) {i : Int32} {x : UInt64} (hout : ¬ vp_in i n) (hdg : decode cc pc = .ok (.dastore, 1))
    (k : ∀ tx : String, tx = (toString "Index " ++ toString i ++ toString " out of bounds for length " ++ toString n : String) → vx_Note p l e R s m args below meth c H locs cells slots Q (F0 m pc ls rest) "java/lang/ArrayIndexOutOfBoundsException" tx) : W p l e R s m args below meth c H locs cells slots Q (F0 m pc ls (.double x :: .int i :: .ref a :: rest)) := by
  intro T hT X
  obtain ⟨t, st, q⟩ := k _ rfl T hT X
  refine ⟨t, ?_, q⟩
  have h1 := X.dastoreOut hexec (by rw [hT]; exact hP q0 _ ha) ((hK.2 t0 _ ht).1 n (fun j => .double (f j))) (j := i) (by show (i < 0 ∨ (arrV _ _ _).slots.size ≤ _); rw [arrV_size]; exact Classical.byContradiction hout) (g := F0 m pc ls (.double x :: .int i :: .ref a :: rest)) rfl (rest := rest) rfl (by rw [hb]; exact hdg) t
  simp only [arrV_size] at h1
  exact h1 st
theorem vx_arraylengthN (hexec : p.tables.exec = Jvm.exec) (hb : c.code = cc) (hdg : decode cc pc = .ok (.arraylength, 1)) (k : vx_NoteN p l e R s m args below meth c H locs cells slots Q (F0 m pc ls rest)) : W p l e R s m args below meth c H locs cells slots Q (F0 m pc ls (.null :: rest)) := by
  intro T hT X
  obtain ⟨t, st, q⟩ := k T hT X
  exact ⟨t, X.arraylengthNull hexec (g := F0 m pc ls (.null :: rest)) rfl (rest := rest) rfl (by rw [hb]; exact hdg) t st, q⟩
theorem vx_ialoadN (hexec : p.tables.exec = Jvm.exec) (hb : c.code = cc) {i : Int32} (hdg : decode cc pc = .ok (.iaload, 1)) (k : vx_NoteN p l e R s m args below meth c H locs cells slots Q (F0 m pc ls rest)) : W p l e R s m args below meth c H locs cells slots Q (F0 m pc ls (.int i :: .null :: rest)) := by
  intro T hT X
  obtain ⟨t, st, q⟩ := k T hT X
  exact ⟨t, X.ialoadNull hexec (g := F0 m pc ls (.int i :: .null :: rest)) rfl (rest := rest) rfl (by rw [hb]; exact hdg) t st, q⟩
theorem vx_laloadN (hexec : p.tables.exec = Jvm.exec) (hb : c.code = cc) {i : Int32} (hdg : decode cc pc = .ok (.laload, 1)) (k : vx_NoteN p l e R s m args below meth c H locs cells slots Q (F0 m pc ls rest)) : W p l e R s m args below meth c H locs cells slots Q (F0 m pc ls (.int i :: .null :: rest)) := by
  intro T hT X
  obtain ⟨t, st, q⟩ := k T hT X
  exact ⟨t, X.laloadNull hexec (g := F0 m pc ls (.int i :: .null :: rest)) rfl (rest := rest) rfl (by rw [hb]; exact hdg) t st, q⟩
theorem vx_faloadN (hexec : p.tables.exec = Jvm.exec) (hb : c.code = cc) {i : Int32} (hdg : decode cc pc = .ok (.faload, 1)) (k : vx_NoteN p l e R s m args below meth c H locs cells slots Q (F0 m pc ls rest)) : W p l e R s m args below meth c H locs cells slots Q (F0 m pc ls (.int i :: .null :: rest)) := by
  intro T hT X
  obtain ⟨t, st, q⟩ := k T hT X
  exact ⟨t, X.faloadNull hexec (g := F0 m pc ls (.int i :: .null :: rest)) rfl (rest := rest) rfl (by rw [hb]; exact hdg) t st, q⟩
theorem vx_daloadN (hexec : p.tables.exec = Jvm.exec) (hb : c.code = cc) {i : Int32} (hdg : decode cc pc = .ok (.daload, 1)) (k : vx_NoteN p l e R s m args below meth c H locs cells slots Q (F0 m pc ls rest)) : W p l e R s m args below meth c H locs cells slots Q (F0 m pc ls (.int i :: .null :: rest)) := by
  intro T hT X
  obtain ⟨t, st, q⟩ := k T hT X
  exact ⟨t, X.daloadNull hexec (g := F0 m pc ls (.int i :: .null :: rest)) rfl (rest := rest) rfl (by rw [hb]; exact hdg) t st, q⟩
theorem vx_aaloadN (hexec : p.tables.exec = Jvm.exec) (hb : c.code = cc) {i : Int32} (hdg : decode cc pc = .ok (.aaload, 1)) (k : vx_NoteN p l e R s m args below meth c H locs cells slots Q (F0 m pc ls rest)) : W p l e R s m args below meth c H locs cells slots Q (F0 m pc ls (.int i :: .null :: rest)) := by
  intro T hT X
  obtain ⟨t, st, q⟩ := k T hT X
  exact ⟨t, X.aaloadNull hexec (g := F0 m pc ls (.int i :: .null :: rest)) rfl (rest := rest) rfl (by rw [hb]; exact hdg) t st, q⟩
theorem vx_baloadN (hexec : p.tables.exec = Jvm.exec) (hb : c.code = cc) {i : Int32} (hdg : decode cc pc = .ok (.baload, 1)) (k : vx_NoteN p l e R s m args below meth c H locs cells slots Q (F0 m pc ls rest)) : W p l e R s m args below meth c H locs cells slots Q (F0 m pc ls (.int i :: .null :: rest)) := by
  intro T hT X
  obtain ⟨t, st, q⟩ := k T hT X
  exact ⟨t, X.baloadNull hexec (g := F0 m pc ls (.int i :: .null :: rest)) rfl (rest := rest) rfl (by rw [hb]; exact hdg) t st, q⟩
theorem vx_caloadN (hexec : p.tables.exec = Jvm.exec) (hb : c.code = cc) {i : Int32} (hdg : decode cc pc = .ok (.caload, 1)) (k : vx_NoteN p l e R s m args below meth c H locs cells slots Q (F0 m pc ls rest)) : W p l e R s m args below meth c H locs cells slots Q (F0 m pc ls (.int i :: .null :: rest)) := by
  intro T hT X
  obtain ⟨t, st, q⟩ := k T hT X
  exact ⟨t, X.caloadNull hexec (g := F0 m pc ls (.int i :: .null :: rest)) rfl (rest := rest) rfl (by rw [hb]; exact hdg) t st, q⟩
theorem vx_saloadN (hexec : p.tables.exec = Jvm.exec) (hb : c.code = cc) {i : Int32} (hdg : decode cc pc = .ok (.saload, 1)) (k : vx_NoteN p l e R s m args below meth c H locs cells slots Q (F0 m pc ls rest)) : W p l e R s m args below meth c H locs cells slots Q (F0 m pc ls (.int i :: .null :: rest)) := by
  intro T hT X
  obtain ⟨t, st, q⟩ := k T hT X
  exact ⟨t, X.saloadNull hexec (g := F0 m pc ls (.int i :: .null :: rest)) rfl (rest := rest) rfl (by rw [hb]; exact hdg) t st, q⟩
theorem vx_iastoreN (hexec : p.tables.exec = Jvm.exec) (hb : c.code = cc) {x : Int32} {i : Int32} (hdg : decode cc pc = .ok (.iastore, 1)) (k : vx_NoteN p l e R s m args below meth c H locs cells slots Q (F0 m pc ls rest)) : W p l e R s m args below meth c H locs cells slots Q (F0 m pc ls (.int x :: .int i :: .null :: rest)) := by
  intro T hT X
  obtain ⟨t, st, q⟩ := k T hT X
  exact ⟨t, X.iastoreNull hexec (g := F0 m pc ls (.int x :: .int i :: .null :: rest)) rfl (rest := rest) rfl (by rw [hb]; exact hdg) t st, q⟩
theorem vx_lastoreN (hexec : p.tables.exec = Jvm.exec) (hb : c.code = cc) {x : Int64} {i : Int32} (hdg : decode cc pc = .ok (.lastore, 1)) (k : vx_NoteN p l e R s m args below meth c H locs cells slots Q (F0 m pc ls rest)) : W p l e R s m args below meth c H locs cells slots Q (F0 m pc ls (.long x :: .int i :: .null :: rest)) := by
  intro T hT X
  obtain ⟨t, st, q⟩ := k T hT X
  exact ⟨t, X.lastoreNull hexec (g := F0 m pc ls (.long x :: .int i :: .null :: rest)) rfl (rest := rest) rfl (by rw [hb]; exact hdg) t st, q⟩
theorem vx_fastoreN (hexec : p.tables.exec = Jvm.exec) (hb : c.code = cc) {x : UInt32} {i : Int32} (hdg : decode cc pc = .ok (.fastore, 1)) (k : vx_NoteN p l e R s m args below meth c H locs cells slots Q (F0 m pc ls rest)) : W p l e R s m args below meth c H locs cells slots Q (F0 m pc ls (.float x :: .int i :: .null :: rest)) := by
  intro T hT X
  obtain ⟨t, st, q⟩ := k T hT X
  exact ⟨t, X.fastoreNull hexec (g := F0 m pc ls (.float x :: .int i :: .null :: rest)) rfl (rest := rest) rfl (by rw [hb]; exact hdg) t st, q⟩
theorem vx_dastoreN (hexec : p.tables.exec = Jvm.exec) (hb : c.code = cc) {x : UInt64} {i : Int32} (hdg : decode cc pc = .ok (.dastore, 1)) (k : vx_NoteN p l e R s m args below meth c H locs cells slots Q (F0 m pc ls rest)) : W p l e R s m args below meth c H locs cells slots Q (F0 m pc ls (.double x :: .int i :: .null :: rest)) := by
  intro T hT X
  obtain ⟨t, st, q⟩ := k T hT X
  exact ⟨t, X.dastoreNull hexec (g := F0 m pc ls (.double x :: .int i :: .null :: rest)) rfl (rest := rest) rfl (by rw [hb]; exact hdg) t st, q⟩
theorem vx_bastoreN (hexec : p.tables.exec = Jvm.exec) (hb : c.code = cc) {x : Int32} {i : Int32} (hdg : decode cc pc = .ok (.bastore, 1)) (k : vx_NoteN p l e R s m args below meth c H locs cells slots Q (F0 m pc ls rest)) : W p l e R s m args below meth c H locs cells slots Q (F0 m pc ls (.int x :: .int i :: .null :: rest)) := by
  intro T hT X
  obtain ⟨t, st, q⟩ := k T hT X
  exact ⟨t, X.bastoreNull hexec (g := F0 m pc ls (.int x :: .int i :: .null :: rest)) rfl (rest := rest) rfl (by rw [hb]; exact hdg) t st, q⟩
theorem vx_castoreN (hexec : p.tables.exec = Jvm.exec) (hb : c.code = cc) {x : Int32} {i : Int32} (hdg : decode cc pc = .ok (.castore, 1)) (k : vx_NoteN p l e R s m args below meth c H locs cells slots Q (F0 m pc ls rest)) : W p l e R s m args below meth c H locs cells slots Q (F0 m pc ls (.int x :: .int i :: .null :: rest)) := by
  intro T hT X
  obtain ⟨t, st, q⟩ := k T hT X
  exact ⟨t, X.castoreNull hexec (g := F0 m pc ls (.int x :: .int i :: .null :: rest)) rfl (rest := rest) rfl (by rw [hb]; exact hdg) t st, q⟩
theorem vx_sastoreN (hexec : p.tables.exec = Jvm.exec) (hb : c.code = cc) {x : Int32} {i : Int32} (hdg : decode cc pc = .ok (.sastore, 1)) (k : vx_NoteN p l e R s m args below meth c H locs cells slots Q (F0 m pc ls rest)) : W p l e R s m args below meth c H locs cells slots Q (F0 m pc ls (.int x :: .int i :: .null :: rest)) := by
  intro T hT X
  obtain ⟨t, st, q⟩ := k T hT X
  exact ⟨t, X.sastoreNull hexec (g := F0 m pc ls (.int x :: .int i :: .null :: rest)) rfl (rest := rest) rfl (by rw [hb]; exact hdg) t st, q⟩
theorem vx_invokeN {own C : String} {index maxL : Nat} {y : MethodName} {bytes : ByteArray} {ret : Option FieldType} (hexec : p.tables.exec = Jvm.exec) (hb : c.code = cc) (hown : s.vm.findClass own = some m.cls) (hlink : (Cond.methodLink own index y).before args s = true) (hinst : (Cond.instanceMethod y).before args s = true) (hcode : (Cond.code y bytes maxL ret).before args s = true) (hsel : (Cond.selects C y y).before args s = true)
    (hx : y.cls ≠ "java/lang/invoke/MethodHandle" ∧ y.cls ≠ "java/lang/invoke/VarHandle") {As : List Value} (hlen : (parseMethodDescriptor y.desc).map (fun d => d.parameters.length) = some As.length) (hdg : decode cc pc = .ok (.invokevirtual index, 3))
    (k : vx_NoteN p l e R s m args below meth c H locs cells slots Q (F0 m pc ls rest)) {st0 : List Value} (hst : st0 = As.reverse ++ .null :: rest) : W p l e R s m args below meth c H locs cells slots Q (F0 m pc ls st0) := by
  intro T hT X
  obtain ⟨r0, r, hn, hrm, hstR, hsigR⟩ := va_Decl.of hinst hcode
  obtain ⟨c2, r2, m2, q1, q2, q3, q4, kP, hkP, hkPi⟩ := Cond.selects_spec hsel
  cases hn.symm.trans q3
  have hl9 : As.length = r.sig.parameters.length := by
    rw [hsigR] at hlen
    exact (Option.some.inj hlen).symm
  obtain ⟨vm', X1, st1⟩ := X.invokevirtualNull hexec hown hlink hn hrm hstR hkP hkPi hx (g := F0 m pc ls st0) rfl (argsL := As) (rest := rest) hl9 hst (by rw [hb]; exact hdg)
  obtain ⟨t, st, q⟩ := k (T.setVm vm') hT X1
  exact ⟨t, st1 t st, q⟩
theorem vx_newarrayZ {atype : ArrayType} (hexec : p.tables.exec = Jvm.exec) (hb : c.code = cc) {n : Int32} (h0 : n < 0) (hdg : decode cc pc = .ok (.newarray atype, 2)) (k : ∀ tx : String, tx = toString n → vx_Note p l e R s m args below meth c H locs cells slots Q (F0 m pc ls rest) "java/lang/NegativeArraySizeException" tx) : W p l e R s m args below meth c H locs cells slots Q (F0 m pc ls (.int n :: rest)) := by
  intro T hT X
  obtain ⟨t, st, q⟩ := k _ rfl T hT X
  exact ⟨t, X.newarrayNegative hexec (g := F0 m pc ls (.int n :: rest)) rfl h0 (rest := rest) rfl (by rw [hb]; exact hdg) t st, q⟩
end
end VXM
/-! ===== END ===== -/
/-! ===== BEGIN an exception as an object: made, kept, thrown later (no traces kept) ===== -/
section VXK
variable {p : Program} {l : Launch} {e : Env} {R : Room} {s : State} {m₀ : MethodId} {args : Array Value} {below : List Frame} {meth : Method} {c : Code} {W : State} {locs : List Loc} {cells slots : Nat}
set_option maxHeartbeats 1000000 in
theorem vx_ctorMadeS (X : Stand p l e R s m₀ args below meth c W locs cells slots) (hexec : p.tables.exec = Jvm.exec) (htr : e.platform.stackTraces = false) {own cls : String} {names : List String} {ic : Nat}
    (hown : s.vm.findClass own = some m₀.cls) (hcls : Bundle.fit cls = true) (hnames : ∀ n ∈ names, Bundle.fit n = true)
    (h : ∀ a ∈ Bundle.ownAtoms own ic cls names, a.before args s = true)
    (hlocs : ∀ x ∈ locs, ∀ cell, s.heap[x.base]? = some cell → cell.vm.isStatics = false)
    {a : Addr} {cX : ClassId} {kX : Class} (hfoundX : s.vm.findClass cls = some cX) (hkX : s.vm.classes[cX]? = some kX) (hcell : W.heap[a]? = some (freshCell cX kX)) (hnew : s.heap.size ≤ a)
    {msg : Value} (hmsg : msg.isRef = true)
    {g : JFrame} (hg : g.method = m₀) (hsize : g.locals.size = c.maxLocals) {rest : List Value} (hstack : g.stack = msg :: .ref a :: .ref a :: rest)
    (hd6 : decode c.code g.pc = .ok (.invokespecial ic, 3))
    (hRframes : names.length + 3 < R.frames) (hRlocals : 2 * g.monitorRoom + ((Value.ref a :: rest).map fun v => v.category).sum + (13 * (names.length + 1) + 42) ≤ R.locals) :
    ∃ (V : State) (ce : Cell) (L : List Loc), Stand p l e R s m₀ args below meth c (V.setCell a ce) (locs ++ L) cells slots ∧ (∀ y ∈ L, y.base = a) ∧ a < V.heap.size ∧ ce.cls = cX ∧ ce.vm = .none ∧
      ∀ target, Steps p.tables e below ((V.setCell a ce).setTop { g with stack := .ref a :: rest, pc := g.pc + 3 }) target → Steps p.tables e below (W.setTop g) target := by
  have howns : e.platform.frameOwnsMonitors = true := by rw [X.admits.platform]
  have hfin : e.platform.finalization = false := by rw [X.admits.platform]
  have hpl : e.platform.magicAccessors = ({} : Platform).magicAccessors := by rw [X.admits.platform]
  have a' : ∀ x, x ∈ Bundle.ownAtoms own ic cls names → x.holds args s none s [] = true := fun x hx => h x hx
  obtain ⟨T, Z0, L, -, Y⟩ := ThrowableC.of_atoms (args := args) howns hfin hpl (fun x hx => h x (by simp [Bundle.ownAtoms, hx]))
  obtain ⟨Z, M, LZ, LM, hnZ⟩ := Init0T.ofS_atoms (args := args) hpl L Y (fun x hx => h x (by simp [Bundle.ownAtoms, hx]))
  obtain ⟨P1, Ps, hlen, L1, hL, hP1m, hlink1, hlink⟩ := Bundle.chainS (args := args) hpl hnZ names cls hcls hnames (fun x hx => h x (by simp [Bundle.ownAtoms, hx]))
  have hfound : s.vm.findClass cls = some P1.m.cls := findClass_of_methodNamed hP1m
  cases Option.some.inj (hfoundX.symm.trans hfound)
  obtain ⟨c1, kX', hc1, hk, hord, -, -, hn6⟩ := Cond.instantiable_spec (a' (.instantiable cls 6) (by simp [Bundle.ownAtoms]))
  cases Option.some.inj (hc1.symm.trans hfound)
  cases Option.some.inj (hkX.symm.trans hk)
  have hsel0 : selectMethod e.platform s.vm P1.m.cls T.fill0 = .method T.fill0 := by
    obtain ⟨c2, r2, m2, q1, q2, q3, q4, -⟩ := Cond.selects_spec (a' (.selects cls Bundle.tFill0 Bundle.tFill0) (by simp [Bundle.ownAtoms]))
    cases Option.some.inj (q1.symm.trans hfound)
    cases Option.some.inj (q2.symm.trans (State.methodFound?_of_named Y.fill0 (by decide)))
    cases Option.some.inj (q3.symm.trans Y.fill0)
    rw [Launch.admits_selectMethod X.admits]; exact q4
  have hselF : selectMethod e.platform s.vm P1.m.cls T.fill = .method T.fill := by
    obtain ⟨c2, r2, m2, q1, q2, q3, q4, -⟩ := Cond.selects_spec (a' (.selects cls Bundle.tFill Bundle.tFill) (by simp [Bundle.ownAtoms]))
    cases Option.some.inj (q1.symm.trans hfound)
    cases Option.some.inj (q2.symm.trans (State.methodFound?_of_named Y.fill (by decide)))
    cases Option.some.inj (q3.symm.trans Y.fill)
    rw [Launch.admits_selectMethod X.admits]; exact q4
  obtain ⟨cellS0, hcS0, hiss⟩ := Y.statics
  obtain ⟨u0, hu0⟩ := Cond.staticRefV Y.unassigned L.unassignedStatic L.statics hcS0 hiss (a' (.isRef (.static Bundle.tN "UNASSIGNED_STACK" Bundle.steD)) (by simp [Bundle.ownAtoms]))
  obtain ⟨sen, hsen⟩ := Cond.staticRefV Y.sentinel L.sentinelStatic L.statics hcS0 hiss (a' (.isRef (.static Bundle.tN "SUPPRESSED_SENTINEL" Bundle.listD)) (by simp [Bundle.ownAtoms]))
  obtain ⟨ci198, i198, fB, hk198, hg198, ha198, hsB, -, hnB, htB, hffB⟩ := Cond.ownField (t := .object "java/lang/Object") Y.found L.cls (by decide +kernel) (a' (.fieldLink Bundle.tN 198 Bundle.tN "backtrace" "Ljava/lang/Object;") (by simp [Bundle.ownAtoms])) (a' (.lays Bundle.tN Bundle.tN "backtrace" "Ljava/lang/Object;") (by simp [Bundle.ownAtoms])) e.platform hpl
  obtain ⟨cellS, hcS', heS, -, hkeep⟩ := X.same.2.2.2.2.2 T.aS cellS0 hcS0
  have hcellS : W.heap[T.aS]? = some cellS := hcS'
  have hout' : ∀ i, (⟨T.aS, i⟩ : Loc) ∉ locs := fun i hmem => by
    have := hlocs _ hmem cellS0 hcS0
    rw [hiss] at this; cases this
  have hknownS : cellS.vm ≠ .unknown := by
    rw [heS]; intro hu
    rw [show cellS0.vm = .unknown from hu] at hiss
    cases hiss
  have hneS : T.aS ≠ a := Nat.ne_of_lt (Nat.lt_of_lt_of_le (Array.getElem?_eq_some_iff.mp hcS0).1 hnew)
  obtain ⟨iM, hffM⟩ := Y.msg
  obtain ⟨tyC, dC, hdC, hdnC⟩ := Cond.laysAt hfound hk Y.cause (a' (.lays cls Bundle.tN "cause" "Ljava/lang/Throwable;") (by simp [Bundle.ownAtoms]))
  obtain ⟨tyS, dS, hdS, hdnS⟩ := Cond.laysAt hfound hk Y.stack (a' (.lays cls Bundle.tN "stackTrace" Bundle.steD) (by simp [Bundle.ownAtoms]))
  obtain ⟨tyP, dP, hdP, hdnP⟩ := Cond.laysAt hfound hk Y.supp (a' (.lays cls Bundle.tN "suppressedExceptions" Bundle.listD) (by simp [Bundle.ownAtoms]))
  obtain ⟨tyM, dM, hdM, hdnM⟩ := Cond.laysAt hfound hk hffM (a' (.lays cls Bundle.tN "detailMessage" "Ljava/lang/String;") (by simp [Bundle.ownAtoms]))
  obtain ⟨tyB, dB, hdB, hdnB⟩ := Cond.laysAt hfound hk hffB (a' (.lays cls Bundle.tN "backtrace" "Ljava/lang/Object;") (by simp [Bundle.ownAtoms]))
  have bC := Cond.laysApart hdB hdC hdnB hdnC (by rw [hnB, Y.causeName]; decide)
  have bS := Cond.laysApart hdB hdS hdnB hdnS (by rw [hnB, Y.stackName]; decide)
  have bP := Cond.laysApart hdB hdP hdnB hdnP (by rw [hnB, Y.suppName]; decide)
  have hskip : SkipFacts T e.platform s (fun u => u) u0 ((preparedCellV T.toThrowableT (freshCell P1.m.cls kX) a u0 sen).withEntry W.cur) :=
    ⟨{ ci198 := ci198, i198 := i198, fBack := fB }, ⟨hk198, hg198, ha198, hsB⟩, by
      have := fresh_default (c := P1.m.cls) tyB
      rw [htB] at this
      simpa [preparedCellV, Cell.setSlot, Cell.withEntry, Array.getElem?_setIfInBounds, bC, bS, bP, bC.symm, bS.symm, bP.symm, defaultValue] using this, fun _ _ => rfl⟩
  obtain ⟨tm, methC, cdC, kC, vm₁, hnC, -, -, -, -, -, -, -, hW₁, st1⟩ := Steps.initColdS (tb := p.tables) (e := e) (below := below) (s := s) (U := W) X.here hexec X.warmed hpl hown (t := Bundle.initS cls) rfl rfl (Bundle.fit_spec hcls).2
    (a' (.methodLink own ic (Bundle.initS cls)) (by simp [Bundle.ownAtoms])) (h (.instanceMethod (Bundle.initS cls)) (by cases names <;> simp [Bundle.ownAtoms, Bundle.chainSAtoms, Bundle.passSAtoms])) (bytes := Bundle.six) (maxL := 2) (h (.code (Bundle.initS cls) Bundle.six 2 none) (by cases names <;> simp [Bundle.ownAtoms, Bundle.chainSAtoms, Bundle.passSAtoms]))
    (f := g) hg (a := a) (msg := msg) (rest := .ref a :: rest) hstack hd6
  cases Option.some.inj (hnC.symm.trans hP1m)
  have X₁ := X.noted hW₁
  obtain ⟨vm₂, X₂, st2⟩ := X₁.ctorMessageOffV hexec (g := { g with stack := .ref a :: rest }) hg hsize T L Z LZ M LM (P1 :: Ps)
    (fun P hP => by rcases List.mem_cons.mp hP with rfl | hP; exact L1; exact hL P hP) ⟨hlink1, hlink⟩ (u0 := u0) (sen := sen) (self := a) hmsg (cell := freshCell P1.m.cls kX) (cellS := cellS)
    hcell (fun _ => by simp) (by simp) rfl rfl hsel0 hselF hcellS hneS hknownS (by rw [hkeep _ (hout' _)]; exact hu0) (by rw [hkeep _ (hout' _)]; exact hsen)
    (Takes.of_laid hk hord tyC (by rw [Y.causeType]; rfl)) (Takes.of_laid hk hord tyS (by rw [Y.stackType]; exact fits_refV_array _ u0)) (Takes.of_laid hk hord tyP (by rw [Y.suppType]; exact fits_refV_object _ sen))
    (Takes.of_laid hk hord tyM (by rw [Y.msgType]; exact fits_refV_object _ ⟨msg, hmsg⟩)) Y.objLocals hskip htr [] hd6
    (by simp only [List.length_cons, hlen]; omega) (by simp only [List.length_cons, hlen]; exact hRlocals)
  have hlt : a < ((W.setVm vm₁).setVm vm₂).heap.size := (Array.getElem?_eq_some_iff.mp hcell).1
  refine ⟨(W.setVm vm₁).setVm vm₂, _, _, X₂, fun y hy => ?_, hlt, rfl, rfl, fun target hwalk => st1 _ (fun acts => ?_)⟩
  · simp only [List.mem_cons, List.not_mem_nil, or_false] at hy
    rcases hy with rfl | rfl | rfl | rfl | rfl <;> rfl
  · rw [doInvoke_state]
    exact st2 _ hwalk
set_option maxHeartbeats 1000000 in
theorem vx_ctorMade0 (X : Stand p l e R s m₀ args below meth c W locs cells slots) (hexec : p.tables.exec = Jvm.exec) (htr : e.platform.stackTraces = false) {own cls : String} {names : List String} {ic : Nat}
    (hown : s.vm.findClass own = some m₀.cls) (hcls : Bundle.fit cls = true) (hnames : ∀ n ∈ names, Bundle.fit n = true)
    (h : ∀ a ∈ Bundle.ownAtoms0 own ic cls names, a.before args s = true)
    (hlocs : ∀ x ∈ locs, ∀ cell, s.heap[x.base]? = some cell → cell.vm.isStatics = false)
    {a : Addr} {cX : ClassId} {kX : Class} (hfoundX : s.vm.findClass cls = some cX) (hkX : s.vm.classes[cX]? = some kX) (hcell : W.heap[a]? = some (freshCell cX kX)) (hnew : s.heap.size ≤ a)
    {g : JFrame} (hg : g.method = m₀) (hsize : g.locals.size = c.maxLocals) {rest : List Value} (hstack : g.stack = .ref a :: .ref a :: rest)
    (hd6 : decode c.code g.pc = .ok (.invokespecial ic, 3))
    (hRframes : names.length + 3 < R.frames) (hRlocals : 2 * g.monitorRoom + ((Value.ref a :: rest).map fun v => v.category).sum + (13 * (names.length + 1) + 41) ≤ R.locals) :
    ∃ (V : State) (ce : Cell) (L : List Loc), Stand p l e R s m₀ args below meth c (V.setCell a ce) (locs ++ L) cells slots ∧ (∀ y ∈ L, y.base = a) ∧ a < V.heap.size ∧ ce.cls = cX ∧ ce.vm = .none ∧
      ∀ target, Steps p.tables e below ((V.setCell a ce).setTop { g with stack := .ref a :: rest, pc := g.pc + 3 }) target → Steps p.tables e below (W.setTop g) target := by
  have howns : e.platform.frameOwnsMonitors = true := by rw [X.admits.platform]
  have hfin : e.platform.finalization = false := by rw [X.admits.platform]
  have hpl : e.platform.magicAccessors = ({} : Platform).magicAccessors := by rw [X.admits.platform]
  have a' : ∀ x, x ∈ Bundle.ownAtoms0 own ic cls names → x.holds args s none s [] = true := fun x hx => h x hx
  obtain ⟨T, Z, L, LZ, Y⟩ := ThrowableC.of_atoms (args := args) howns hfin hpl (fun x hx => h x (by simp [Bundle.ownAtoms0, hx]))
  obtain ⟨P1, Ps, hlen, L1, hL, hP1m, hlink1, hlink⟩ := Bundle.chain0 (args := args) hpl Y.init0 names cls hcls hnames (fun x hx => h x (by simp [Bundle.ownAtoms0, hx]))
  have hfound : s.vm.findClass cls = some P1.m.cls := findClass_of_methodNamed hP1m
  cases Option.some.inj (hfoundX.symm.trans hfound)
  obtain ⟨c1, kX', hc1, hk, hord, -, -, hn6⟩ := Cond.instantiable_spec (a' (.instantiable cls 6) (by simp [Bundle.ownAtoms0]))
  cases Option.some.inj (hc1.symm.trans hfound)
  cases Option.some.inj (hkX.symm.trans hk)
  have hsel0 : selectMethod e.platform s.vm P1.m.cls T.fill0 = .method T.fill0 := by
    obtain ⟨c2, r2, m2, q1, q2, q3, q4, -⟩ := Cond.selects_spec (a' (.selects cls Bundle.tFill0 Bundle.tFill0) (by simp [Bundle.ownAtoms0]))
    cases Option.some.inj (q1.symm.trans hfound)
    cases Option.some.inj (q2.symm.trans (State.methodFound?_of_named Y.fill0 (by decide)))
    cases Option.some.inj (q3.symm.trans Y.fill0)
    rw [Launch.admits_selectMethod X.admits]; exact q4
  have hselF : selectMethod e.platform s.vm P1.m.cls T.fill = .method T.fill := by
    obtain ⟨c2, r2, m2, q1, q2, q3, q4, -⟩ := Cond.selects_spec (a' (.selects cls Bundle.tFill Bundle.tFill) (by simp [Bundle.ownAtoms0]))
    cases Option.some.inj (q1.symm.trans hfound)
    cases Option.some.inj (q2.symm.trans (State.methodFound?_of_named Y.fill (by decide)))
    cases Option.some.inj (q3.symm.trans Y.fill)
    rw [Launch.admits_selectMethod X.admits]; exact q4
  obtain ⟨cellS0, hcS0, hiss⟩ := Y.statics
  obtain ⟨u0, hu0⟩ := Cond.staticRefV Y.unassigned L.unassignedStatic L.statics hcS0 hiss (a' (.isRef (.static Bundle.tN "UNASSIGNED_STACK" Bundle.steD)) (by simp [Bundle.ownAtoms0]))
  obtain ⟨sen, hsen⟩ := Cond.staticRefV Y.sentinel L.sentinelStatic L.statics hcS0 hiss (a' (.isRef (.static Bundle.tN "SUPPRESSED_SENTINEL" Bundle.listD)) (by simp [Bundle.ownAtoms0]))
  obtain ⟨ci198, i198, fB, hk198, hg198, ha198, hsB, -, hnB, htB, hffB⟩ := Cond.ownField (t := .object "java/lang/Object") Y.found L.cls (by decide +kernel) (a' (.fieldLink Bundle.tN 198 Bundle.tN "backtrace" "Ljava/lang/Object;") (by simp [Bundle.ownAtoms0])) (a' (.lays Bundle.tN Bundle.tN "backtrace" "Ljava/lang/Object;") (by simp [Bundle.ownAtoms0])) e.platform hpl
  obtain ⟨cellS, hcS', heS, -, hkeep⟩ := X.same.2.2.2.2.2 T.aS cellS0 hcS0
  have hcellS : W.heap[T.aS]? = some cellS := hcS'
  have hout' : ∀ i, (⟨T.aS, i⟩ : Loc) ∉ locs := fun i hmem => by
    have := hlocs _ hmem cellS0 hcS0
    rw [hiss] at this; cases this
  have hknownS : cellS.vm ≠ .unknown := by
    rw [heS]; intro hu
    rw [show cellS0.vm = .unknown from hu] at hiss
    cases hiss
  have hneS : T.aS ≠ a := Nat.ne_of_lt (Nat.lt_of_lt_of_le (Array.getElem?_eq_some_iff.mp hcS0).1 hnew)
  obtain ⟨iM, hffM⟩ := Y.msg
  obtain ⟨tyC, dC, hdC, hdnC⟩ := Cond.laysAt hfound hk Y.cause (a' (.lays cls Bundle.tN "cause" "Ljava/lang/Throwable;") (by simp [Bundle.ownAtoms0]))
  obtain ⟨tyS, dS, hdS, hdnS⟩ := Cond.laysAt hfound hk Y.stack (a' (.lays cls Bundle.tN "stackTrace" Bundle.steD) (by simp [Bundle.ownAtoms0]))
  obtain ⟨tyP, dP, hdP, hdnP⟩ := Cond.laysAt hfound hk Y.supp (a' (.lays cls Bundle.tN "suppressedExceptions" Bundle.listD) (by simp [Bundle.ownAtoms0]))
  obtain ⟨tyM, dM, hdM, hdnM⟩ := Cond.laysAt hfound hk hffM (a' (.lays cls Bundle.tN "detailMessage" "Ljava/lang/String;") (by simp [Bundle.ownAtoms0]))
  obtain ⟨tyB, dB, hdB, hdnB⟩ := Cond.laysAt hfound hk hffB (a' (.lays cls Bundle.tN "backtrace" "Ljava/lang/Object;") (by simp [Bundle.ownAtoms0]))
  have bC := Cond.laysApart hdB hdC hdnB hdnC (by rw [hnB, Y.causeName]; decide)
  have bS := Cond.laysApart hdB hdS hdnB hdnS (by rw [hnB, Y.stackName]; decide)
  have bP := Cond.laysApart hdB hdP hdnB hdnP (by rw [hnB, Y.suppName]; decide)
  have hskip : SkipFacts T e.platform s (fun u => u) u0 ((preparedCellV T.toThrowableT (freshCell P1.m.cls kX) a u0 sen).withEntry W.cur) :=
    ⟨{ ci198 := ci198, i198 := i198, fBack := fB }, ⟨hk198, hg198, ha198, hsB⟩, by
      have := fresh_default (c := P1.m.cls) tyB
      rw [htB] at this
      simpa [preparedCellV, Cell.setSlot, Cell.withEntry, Array.getElem?_setIfInBounds, bC, bS, bP, bC.symm, bS.symm, bP.symm, defaultValue] using this, fun _ _ => rfl⟩
  obtain ⟨tm, methC, cdC, kC, vm₁, hnC, -, -, -, -, -, -, -, hW₁, st1⟩ := Steps.initCold (tb := p.tables) (e := e) (below := below) (s := s) (U := W) X.here hexec X.warmed hpl hown (t := Bundle.init0 cls) rfl rfl (Bundle.fit_spec hcls).2
    (a' (.methodLink own ic (Bundle.init0 cls)) (by simp [Bundle.ownAtoms0])) (h (.instanceMethod (Bundle.init0 cls)) (by cases names <;> simp [Bundle.ownAtoms0, Bundle.chain0Atoms, Bundle.passAtoms])) (bytes := Bundle.five) (maxL := 1) (h (.code (Bundle.init0 cls) Bundle.five 1 none) (by cases names <;> simp [Bundle.ownAtoms0, Bundle.chain0Atoms, Bundle.passAtoms]))
    (f := g) hg (a := a) (rest := .ref a :: rest) hstack hd6
  cases Option.some.inj (hnC.symm.trans hP1m)
  have X₁ := X.noted hW₁
  obtain ⟨vm₂, X₂, st2⟩ := X₁.ctorPlainOffV hexec (g := { g with stack := .ref a :: rest }) hg hsize T L Z LZ (P1 :: Ps)
    (fun P hP => by rcases List.mem_cons.mp hP with rfl | hP; exact L1; exact hL P hP) ⟨hlink1, hlink⟩ (u0 := u0) (sen := sen) (self := a) (cell := freshCell P1.m.cls kX) (cellS := cellS)
    hcell (fun _ => by simp) (by simp) rfl rfl hsel0 hselF hcellS hneS hknownS (by rw [hkeep _ (hout' _)]; exact hu0) (by rw [hkeep _ (hout' _)]; exact hsen)
    (Takes.of_laid hk hord tyC (by rw [Y.causeType]; rfl)) (Takes.of_laid hk hord tyS (by rw [Y.stackType]; exact fits_refV_array _ u0)) (Takes.of_laid hk hord tyP (by rw [Y.suppType]; exact fits_refV_object _ sen)) Y.objLocals hskip htr [] hd6
    (by simp only [List.length_cons, hlen]; omega) (by simp only [List.length_cons, hlen]; exact hRlocals)
  have hlt : a < ((W.setVm vm₁).setVm vm₂).heap.size := (Array.getElem?_eq_some_iff.mp hcell).1
  refine ⟨(W.setVm vm₁).setVm vm₂, _, _, X₂, fun y hy => ?_, hlt, rfl, rfl, fun target hwalk => st1 _ (fun acts => ?_)⟩
  · simp only [List.mem_cons, List.not_mem_nil, or_false] at hy
    rcases hy with rfl | rfl | rfl | rfl <;> rfl
  · rw [doInvoke_state]
    exact st2 _ hwalk
end VXK
section VXK2
variable {p : Program} {l : Launch} {e : Env} {R : Room} {s : State} {m : MethodId} {args : Array Value} {below : List Frame} {meth : Method} {c : Code} {H : Heap} {locs : List Loc} {cells slots : Nat} {Q : State → Prop}
variable {ls : Array Slot} {rest : List Value} {D : va_G} {cl : List vw_C} {tys : List (ClassId × FieldType)} {ws : va_W}
/-- 'new E("text")' that isn't thrown at once: the object goes on the stack -/
theorem vx_makeS {cc : ByteArray} {pc : Nat} (hexec : p.tables.exec = Jvm.exec) (hb : c.code = cc) (hl : l.stackTraces = false) {own cls text : String} {names : List String} {ik is ic sa ci : Nat} {A : Nat → Prop} {T0 : u_T}
    (hown : s.vm.findClass own = some m.cls) (hcls : Bundle.fit cls = true) (hnames : ∀ n ∈ names, Bundle.fit n = true)
    (hk : (Cond.classLink own ik cls).before args s = true) (hini : (Cond.initialized cls).before args s = true) (hstr : vk_R own is text sa s) (hat : ∀ w ∈ vx_atS own ic cls names, w.before args s = true)
    (hgood : ∀ w ∈ Cond.classLink own ik cls :: Cond.initialized cls :: vx_atS own ic cls names, vx_ot w = true)
    (hU : vx_Zq Bundle.tN "UNASSIGNED_STACK" Bundle.steD A s s.heap) (hN : vx_Zq Bundle.tN "SUPPRESSED_SENTINEL" Bundle.listD A s s.heap) (hS : va_S A s.heap H locs) (hsize : ls.size = c.maxLocals)
    (d0 : decode cc pc = .ok (.new ik, 3)) (d3 : decode cc (pc + 3) = .ok (.dup, 1)) (d4 : decode cc (pc + 4) = .ok (.ldc is, 2)) (d6 : decode cc (pc + 6) = .ok (.invokespecial ic, 3))
    (hK : va_K D cl tys s) (hP : va_P D cl ws H) (hD : va_D A ws) (hA : ∀ q, s.heap.size ≤ q → A q) (hc : cl[ci]? = some (cls, T0, 0))
    (hRframes : names.length + 3 < R.frames) (hRlocals : (rest.map fun v => v.category).sum + (13 * (names.length + 1) + 43) ≤ R.locals) (hRcells : cells + 1 ≤ R.cells) (hRslots : slots + 6 ≤ R.slots)
    (kk : ∀ (q : Nat) (H1 : Heap), va_P D cl (ws ++ [(q, .inr (ci, []))]) H1 → va_D A (ws ++ [(q, .inr (ci, []))]) → va_S A s.heap H1 locs → W p l e R s m args below meth c H1 locs (cells + 1) (slots + 6) Q (F0 m (pc + 9) ls (.ref q :: rest))) :
    W p l e R s m args below meth c H locs cells slots Q (F0 m pc ls rest) := by
  intro T hT X
  subst hT
  have htr : e.platform.stackTraces = false := (show e.platform.stackTraces = l.stackTraces by rw [X.admits.platform]).trans hl
  have Y := vx_rebase X (R' := { frames := R.frames, locals := R.locals, cells := 1, slots := 6 }) (Nat.le_refl _) (Nat.le_refl _) hRcells hRslots
  obtain ⟨s', hA'⟩ : ∃ z, z = (T.setVm s.vm).setFrames (.invoking m args :: below) := ⟨_, rfl⟩
  rw [← hA'] at Y
  have hvm : s'.vm = s.vm := by rw [hA']; rfl
  have hhp : s'.heap = T.heap := by rw [hA']; rfl
  have hW0 : s.WarmedH s'.vm := by rw [hvm]; exact State.WarmedH.refl s
  have hat' : ∀ w ∈ vx_atS own ic cls names, w.before args s' = true := fun w hw => vx_ot_at hW0 hvm.symm (hgood w (List.mem_cons_of_mem _ (List.mem_cons_of_mem _ hw))) (hat w hw)
  have hk' : (Cond.classLink own ik cls).before args s' = true := vx_ot_at hW0 hvm.symm (hgood _ List.mem_cons_self) hk
  have hini' : (Cond.initialized cls).before args s' = true := vx_ot_at hW0 hvm.symm (hgood _ (List.mem_cons_of_mem _ List.mem_cons_self)) hini
  have hU' : vx_Zq Bundle.tN "UNASSIGNED_STACK" Bundle.steD A s' s'.heap := by rw [hhp]; exact vx_Zq.moved hW0.alike (hU.kept hS.2.1)
  have hN' : vx_Zq Bundle.tN "SUPPRESSED_SENTINEL" Bundle.listD A s' s'.heap := by rw [hhp]; exact vx_Zq.moved hW0.alike (hN.kept hS.2.1)
  have h : ∀ w ∈ Bundle.ownAtoms own ic cls names, w.before args s' = true := vx_own hat' (vx_isRefq hU'.1) (vx_isRefq hN'.1) hU'.2.word hN'.2.word
  have hown' : s'.vm.findClass own = some m.cls := by rw [hvm]; exact hown
  have hins : (Cond.instantiable cls 6).before args s' = true := h _ (by simp [Bundle.ownAtoms])
  obtain ⟨vm₁, cX, kX, hfX, hkX, -, -, X₁, st1⟩ := Y.newCold hexec (own := own) (C := cls) (index := ik) (n := 6) hown' hk' hins hini'
    (g := F0 m pc ls rest) rfl (by rw [hb]; exact d0) (Nat.le_refl _) (Nat.le_refl _)
  generalize hT1 : (T.setVm vm₁).pushCell { cls := cX, slots := kX.instanceTypes.map defaultValue, vm := .none } = T1 at X₁ st1
  have hcat : (Value.ref T.heap.size).category = 1 := rfl
  have hcellA : T1.heap[T.heap.size]? = some (freshCell cX kX) := by rw [← hT1]; exact State.heap_pushCell_size _ _
  have d3' : decode c.code (pc + 3) = .ok (.dup, 1) := by rw [hb]; exact d3
  have d4' : decode c.code (pc + 4) = .ok (.ldc is, 2) := by rw [hb]; exact d4
  have hstr' : vk_R own is text sa s' := vk_R.warm hW0 hstr
  obtain ⟨V, ce, L, Z, hL, hlt, hcl9, hvm9, st⟩ := vx_ctorMadeS X₁ hexec htr (own := own) (cls := cls) (names := names) (ic := ic) hown' hcls hnames h (fun x hx => nomatch hx) hfX hkX hcellA (by rw [hhp]; exact Nat.le_refl _) (msg := .ref sa) rfl
    (g := { method := m, pc := pc + 6, locals := ls, stack := .ref sa :: .ref T.heap.size :: .ref T.heap.size :: rest, locked := none }) rfl hsize (rest := rest) rfl
    (by rw [hb]; exact d6) hRframes (by simp only [List.map_cons, List.sum_cons, hcat]; omega)
  have Z0 := Stand.forget (locs := []) Z (fun y hy => by rw [hL y hy, hhp]; exact Nat.le_refl _)
  obtain ⟨f1, f2⟩ := vx_frame Z0.same
  rw [hhp] at f1 f2
  have hcid : ce.cls = D.1 ci := by
    rw [hcl9]
    have h1 := (hK.1 ci _ hc).2.1
    rw [hvm] at hfX
    exact Option.some.inj (hfX.symm.trans h1)
  have hh : (V.setCell T.heap.size ce).heap[T.heap.size]? = some ce := heapAt_setCell_self (s := V) ce hlt
  subst hA'
  have X5 := vx_back9 X Y Z0
  have X6 : Stand p l e R s m args below meth c (V.setCell T.heap.size ce) locs (cells + 1) (slots + 6) := { X5 with same := X5.same.mono (by omega) (by omega) }
  have hk9 : ∀ (k : Nat) (x : Nat × va_E), ws[k]? = some x → (V.setCell T.heap.size ce).heap[x.1]? = T.heap[x.1]? := fun k x hx => f2 x.1 ((hP k x hx).lt) (fun z hz => nomatch hz)
  obtain ⟨t, a1, b1⟩ := kk T.heap.size (V.setCell T.heap.size ce).heap ((hP.kept hk9).app (fun k x hx => by
      have hz : k < 1 := (List.getElem?_eq_some_iff.mp hx).1
      rw [show k = 0 by omega] at hx
      cases hx
      exact ⟨_, hc, ce, hh, hcid, hvm9, fun k hk => absurd hk (Nat.not_lt_zero k)⟩)) (hD.push hP rfl (hA _ hS.1)) ⟨Nat.le_trans hS.1 f1, fun q h1 h2 => (f2 q (Nat.lt_of_lt_of_le h1 hS.1) (fun z hz => nomatch hz)).trans (hS.2.1 q h1 h2), hS.2.2⟩ _ rfl X6
  refine ⟨t, st1 _ ?_, b1⟩
  show Steps p.tables e below (T1.setTop { method := m, pc := pc + 3, locals := ls, stack := .ref T.heap.size :: rest, locked := none }) _
  jvm_step X₁.here [X₁.here.top, hexec, d3', Value.category]
  exact X₁.ldcString hexec (own := own) (text := text) (index := is) (a := sa) hown' hstr'.1 hstr'.2
    (g := { method := m, pc := pc + 4, locals := ls, stack := .ref T.heap.size :: .ref T.heap.size :: rest, locked := none }) rfl d4' _ (st _ a1)
/-- 'new E()' that isn't thrown at once: the object goes on the stack -/
theorem vx_make0 {cc : ByteArray} {pc : Nat} (hexec : p.tables.exec = Jvm.exec) (hb : c.code = cc) (hl : l.stackTraces = false) {own cls : String} {names : List String} {ik ic ci : Nat} {A : Nat → Prop} {T0 : u_T}
    (hown : s.vm.findClass own = some m.cls) (hcls : Bundle.fit cls = true) (hnames : ∀ n ∈ names, Bundle.fit n = true)
    (hk : (Cond.classLink own ik cls).before args s = true) (hini : (Cond.initialized cls).before args s = true) (hat : ∀ w ∈ vx_at0 own ic cls names, w.before args s = true)
    (hgood : ∀ w ∈ Cond.classLink own ik cls :: Cond.initialized cls :: vx_at0 own ic cls names, vx_ot w = true)
    (hU : vx_Zq Bundle.tN "UNASSIGNED_STACK" Bundle.steD A s s.heap) (hN : vx_Zq Bundle.tN "SUPPRESSED_SENTINEL" Bundle.listD A s s.heap) (hS : va_S A s.heap H locs) (hsize : ls.size = c.maxLocals)
    (d0 : decode cc pc = .ok (.new ik, 3)) (d3 : decode cc (pc + 3) = .ok (.dup, 1)) (d4 : decode cc (pc + 4) = .ok (.invokespecial ic, 3))
    (hK : va_K D cl tys s) (hP : va_P D cl ws H) (hD : va_D A ws) (hA : ∀ q, s.heap.size ≤ q → A q) (hc : cl[ci]? = some (cls, T0, 0))
    (hRframes : names.length + 3 < R.frames) (hRlocals : (rest.map fun v => v.category).sum + (13 * (names.length + 1) + 42) ≤ R.locals) (hRcells : cells + 1 ≤ R.cells) (hRslots : slots + 6 ≤ R.slots)
    (kk : ∀ (q : Nat) (H1 : Heap), va_P D cl (ws ++ [(q, .inr (ci, []))]) H1 → va_D A (ws ++ [(q, .inr (ci, []))]) → va_S A s.heap H1 locs → W p l e R s m args below meth c H1 locs (cells + 1) (slots + 6) Q (F0 m (pc + 7) ls (.ref q :: rest))) :
    W p l e R s m args below meth c H locs cells slots Q (F0 m pc ls rest) := by
  intro T hT X
  subst hT
  have htr : e.platform.stackTraces = false := (show e.platform.stackTraces = l.stackTraces by rw [X.admits.platform]).trans hl
  have Y := vx_rebase X (R' := { frames := R.frames, locals := R.locals, cells := 1, slots := 6 }) (Nat.le_refl _) (Nat.le_refl _) hRcells hRslots
  obtain ⟨s', hA'⟩ : ∃ z, z = (T.setVm s.vm).setFrames (.invoking m args :: below) := ⟨_, rfl⟩
  rw [← hA'] at Y
  have hvm : s'.vm = s.vm := by rw [hA']; rfl
  have hhp : s'.heap = T.heap := by rw [hA']; rfl
  have hW0 : s.WarmedH s'.vm := by rw [hvm]; exact State.WarmedH.refl s
  have hat' : ∀ w ∈ vx_at0 own ic cls names, w.before args s' = true := fun w hw => vx_ot_at hW0 hvm.symm (hgood w (List.mem_cons_of_mem _ (List.mem_cons_of_mem _ hw))) (hat w hw)
  have hk' : (Cond.classLink own ik cls).before args s' = true := vx_ot_at hW0 hvm.symm (hgood _ List.mem_cons_self) hk
  have hini' : (Cond.initialized cls).before args s' = true := vx_ot_at hW0 hvm.symm (hgood _ (List.mem_cons_of_mem _ List.mem_cons_self)) hini
  have hU' : vx_Zq Bundle.tN "UNASSIGNED_STACK" Bundle.steD A s' s'.heap := by rw [hhp]; exact vx_Zq.moved hW0.alike (hU.kept hS.2.1)
  have hN' : vx_Zq Bundle.tN "SUPPRESSED_SENTINEL" Bundle.listD A s' s'.heap := by rw [hhp]; exact vx_Zq.moved hW0.alike (hN.kept hS.2.1)
  have h : ∀ w ∈ Bundle.ownAtoms0 own ic cls names, w.before args s' = true := vx_own hat' (vx_isRefq hU'.1) (vx_isRefq hN'.1) hU'.2.word hN'.2.word
  have hown' : s'.vm.findClass own = some m.cls := by rw [hvm]; exact hown
  have hins : (Cond.instantiable cls 6).before args s' = true := h _ (by simp [Bundle.ownAtoms0])
  obtain ⟨vm₁, cX, kX, hfX, hkX, -, -, X₁, st1⟩ := Y.newCold hexec (own := own) (C := cls) (index := ik) (n := 6) hown' hk' hins hini'
    (g := F0 m pc ls rest) rfl (by rw [hb]; exact d0) (Nat.le_refl _) (Nat.le_refl _)
  generalize hT1 : (T.setVm vm₁).pushCell { cls := cX, slots := kX.instanceTypes.map defaultValue, vm := .none } = T1 at X₁ st1
  have hcat : (Value.ref T.heap.size).category = 1 := rfl
  have hcellA : T1.heap[T.heap.size]? = some (freshCell cX kX) := by rw [← hT1]; exact State.heap_pushCell_size _ _
  have d3' : decode c.code (pc + 3) = .ok (.dup, 1) := by rw [hb]; exact d3
  obtain ⟨V, ce, L, Z, hL, hlt, hcl9, hvm9, st⟩ := vx_ctorMade0 X₁ hexec htr (own := own) (cls := cls) (names := names) (ic := ic) hown' hcls hnames h (fun x hx => nomatch hx) hfX hkX hcellA (by rw [hhp]; exact Nat.le_refl _)
    (g := { method := m, pc := pc + 4, locals := ls, stack := .ref T.heap.size :: .ref T.heap.size :: rest, locked := none }) rfl hsize (rest := rest) rfl
    (by rw [hb]; exact d4) hRframes (by simp only [List.map_cons, List.sum_cons, hcat]; omega)
  have Z0 := Stand.forget (locs := []) Z (fun y hy => by rw [hL y hy, hhp]; exact Nat.le_refl _)
  obtain ⟨f1, f2⟩ := vx_frame Z0.same
  rw [hhp] at f1 f2
  have hcid : ce.cls = D.1 ci := by
    rw [hcl9]
    have h1 := (hK.1 ci _ hc).2.1
    rw [hvm] at hfX
    exact Option.some.inj (hfX.symm.trans h1)
  have hh : (V.setCell T.heap.size ce).heap[T.heap.size]? = some ce := heapAt_setCell_self (s := V) ce hlt
  subst hA'
  have X5 := vx_back9 X Y Z0
  have X6 : Stand p l e R s m args below meth c (V.setCell T.heap.size ce) locs (cells + 1) (slots + 6) := { X5 with same := X5.same.mono (by omega) (by omega) }
  have hk9 : ∀ (k : Nat) (x : Nat × va_E), ws[k]? = some x → (V.setCell T.heap.size ce).heap[x.1]? = T.heap[x.1]? := fun k x hx => f2 x.1 ((hP k x hx).lt) (fun z hz => nomatch hz)
  obtain ⟨t, a1, b1⟩ := kk T.heap.size (V.setCell T.heap.size ce).heap ((hP.kept hk9).app (fun k x hx => by
      have hz : k < 1 := (List.getElem?_eq_some_iff.mp hx).1
      rw [show k = 0 by omega] at hx
      cases hx
      exact ⟨_, hc, ce, hh, hcid, hvm9, fun k hk => absurd hk (Nat.not_lt_zero k)⟩)) (hD.push hP rfl (hA _ hS.1)) ⟨Nat.le_trans hS.1 f1, fun q h1 h2 => (f2 q (Nat.lt_of_lt_of_le h1 hS.1) (fun z hz => nomatch hz)).trans (hS.2.1 q h1 h2), hS.2.2⟩ _ rfl X6
  refine ⟨t, st1 _ ?_, b1⟩
  show Steps p.tables e below (T1.setTop { method := m, pc := pc + 3, locals := ls, stack := .ref T.heap.size :: rest, locked := none }) _
  jvm_step X₁.here [X₁.here.top, hexec, d3', Value.category]
  exact st _ a1
/-- 'throw x' of an object that was made before -/
theorem vx_athrow {cc : ByteArray} {pc : Nat} (hexec : p.tables.exec = Jvm.exec) (hb : c.code = cc) {q : Addr} (hdg : decode cc pc = .ok (.athrow, 1)) (k : vx_W p l e R s m args below meth c H locs cells slots Q (F0 m pc ls rest) q) : W p l e R s m args below meth c H locs cells slots Q (F0 m pc ls (.ref q :: rest)) := by
  intro T hT X
  obtain ⟨t, st, hq⟩ := k T hT X
  refine ⟨t, ?_, hq⟩
  have hdg' : decode c.code pc = .ok (.athrow, 1) := by rw [hb]; exact hdg
  jvm_step X.here [X.here.top, hexec, hdg', athrow.wp_sem]
  exact st
end VXK2
/-! ===== END ===== -/
/-! ===== BEGIN a constructor that throws (launches without stack traces) ===== -/
section VXIA
variable {p : Program} {l : Launch} {e : Env} {R : Room} {s : State} {m : MethodId} {args : Array Value} {below : List Frame} {meth : Method} {c : Code} {T : State} {locs : List Loc} {cells slots : Nat}
theorem vx_callI (X : Stand p l e R s m args below meth c T locs cells slots) (hexec : p.tables.exec = Jvm.exec) {own : String} {index : Nat} {y : MethodName} {bytes : ByteArray} {maxL : Nat}
    (hown : s.vm.findClass own = some m.cls) (hy1 : y.name = "<init>") (hlink : (Cond.methodLink own index y).before args s = true) (hinst : (Cond.instanceMethod y).before args s = true)
    (hcode : (Cond.code y bytes maxL none).before args s = true) (hy : y.cls ≠ "java/lang/invoke/MethodHandle" ∧ y.cls ≠ "java/lang/invoke/VarHandle")
    {W9 : Nat} {Pre : Pt → Array Value → Prop} {Post : Pt → Array Value → Option Value → Pt → Prop} {PostX : Pt → Array Value → Addr → Pt → Prop} (hK : vx_Back l R p e below s args y 3 W9 Pre Post PostX)
    {g : JFrame} (hg : g.method = m) (hsize : g.locals.size = c.maxLocals) {a : Addr} {argsL rest : List Value} (hlen : ∀ sig, parseMethodDescriptor y.desc = some sig → argsL.length = sig.parameters.length)
    (hstack : g.stack = argsL.reverse ++ .ref a :: rest) (hW : 2 * g.monitorRoom + (rest.map fun v => v.category).sum ≤ W9) (hdg : decode c.code g.pc = .ok (.invokespecial index, 3))
    (hpre : ∀ vm₁, s.WarmedH vm₁ → Pre ⟨T.setVm vm₁, locs, cells, slots⟩ (Value.ref a :: argsL).toArray) :
    (∃ (v : Option Value) (vm₁ : Vm) (B : Pt), s.WarmedH vm₁ ∧ Stand p l e R s m args below meth c B.U B.locs B.cells B.slots ∧ Post ⟨T.setVm vm₁, locs, cells, slots⟩ (Value.ref a :: argsL).toArray v B ∧
      ∀ target, Steps p.tables e below (B.U.setTop { g with pc := g.pc + 3, stack := v.toList ++ rest }) target → Steps p.tables e below (T.setTop g) target) ∨
    (∃ (q : Addr) (vm₁ : Vm) (B : Pt), s.WarmedH vm₁ ∧ Stand p l e R s m args below meth c B.U B.locs B.cells B.slots ∧ PostX ⟨T.setVm vm₁, locs, cells, slots⟩ (Value.ref a :: argsL).toArray q B ∧
      Steps p.tables e below (T.setTop g) ((B.U.setTop { g with stack := rest }).pushFrame (.throwing q))) := by
  subst hg
  have hpl : e.platform.magicAccessors = ({} : Platform).magicAccessors := by rw [X.admits.platform]
  obtain ⟨mk, methM, cM, kP, vm₁, hnamed, hmethM, hcodeM, -, hlocalsM, -, hkP, -, hW₁, hstep₁⟩ := Steps.initColdArgs (e := e) X.here hexec X.warmed hpl hown hy1 hy hlink hinst hcode (f := g) rfl hlen hstack hdg
  have X₁ := X.noted hW₁
  rcases hK g.method meth c ⟨T.setVm vm₁, locs, cells, slots⟩ { g with stack := rest } (.invokespecial index) mk (Value.ref a :: argsL).toArray X₁ rfl hsize hdg hW (X₁.named hnamed) (hpre vm₁ X₁.warmed) with ⟨v, B, X', hpost, hsteps⟩ | ⟨q, B, X', hpost, hsteps⟩
  · exact Or.inl ⟨v, vm₁, B, X₁.warmed, X', hpost, fun target h => hstep₁ _ fun acts => by rw [doInvoke_state]; exact hsteps.trans h⟩
  · exact Or.inr ⟨q, vm₁, B, X₁.warmed, X', hpost, hstep₁ _ fun acts => by rw [doInvoke_state]; exact hsteps⟩
end VXIA
section VXIB
variable {p : Program} {l : Launch} {e : Env} {R : Room} {s : State} {m : MethodId} {args : Array Value} {below : List Frame} {meth : Method} {c : Code} {H : Heap} {locs : List Loc} {cells slots : Nat}
variable {y : MethodName} {bytes cc : ByteArray} {maxL nL mc ms n index : Nat} {ret : Option FieldType} {ws : List Cond} {rm : Room} {Pc : Array Value → State → Prop} {Qc : Array Value → State → Outcome → State → Prop} {XC : String → State → State → Prop} {free : Addr → Prop} {Ts : List Cond} {own C : String} {b : Addr} {As rest : List Value} {g : JFrame}
theorem vx_runI (S : CallFix p m c cc nL s args Ts own) (hM : vx_Met l y ws rm Pc Qc XC mc ms free) (cw : CallB R s args own index y bytes maxL none ws rm mc ms n ∧ y.name = "<init>" ∧ (Cond.instanceMethod y).before args s = true) (hp : PreS s H Pc (.ref b :: As))
    (hg : g.method = m) (hn : As.length = n) (hsize : g.locals.size = nL) (hstack : g.stack = As.reverse ++ .ref b :: rest) (hW : 2 * g.monitorRoom + (rest.map fun v => v.category).sum ≤ 8) (hdg : decode cc g.pc = .ok (.invokespecial index, 3)) (hf : cells + mc ≤ R.cells ∧ slots + ms ≤ R.slots) :
    vx_Run p l e R s m args below meth c H locs cells slots mc ms g rest (Qc (Value.ref b :: As).toArray) XC free := by
  have hK : vx_Back l R p e below s args y 3 8 (PreOf R mc ms Pc) (PostOf Qc mc ms free) (vx_Post XC mc ms free) := vx_callBack cw.1 hM hp.1
  obtain ⟨⟨-, -, -, -, -, -, hcode, -, hy, hlen, hl⟩, hy1, hin⟩ := cw
  obtain ⟨hx, hb, hml, ho, -⟩ := S
  have hPc := hp.2
  intro T hT X
  rcases vx_callI X hx (bytes := bytes) (maxL := maxL) ho hy1 hl hin hcode hy hK hg (hsize.trans hml.symm) (a := b) (argsL := As) (rest := rest) (fun sig h => hn.trans (hlen sig h)) hstack hW (by rw [hb]; exact hdg)
    (fun vm₁ hW₁ => ⟨hf.1, hf.2, hPc (T.setVm vm₁) hT hW₁⟩) with ⟨v, vm₁, ⟨U', l2, c2, s2⟩, hW₁, X', ⟨g', mk, t, L, e1, e2, hq, h1, hL, h2, h3⟩, st⟩ | ⟨q, vm₁, ⟨U', l2, c2, s2⟩, hW₁, X', ⟨g', mk, t, L, E, ce, e1, e2, hq, hce, hcv, hcl, h1, hL, h2, h3⟩, st⟩
  · dsimp only [Pt.U, Pt.locs, Pt.cells, Pt.slots] at X' e1 e2 h1 h2 h3 st
    subst h1; subst h2; subst h3
    exact Or.inl ⟨v, (T.setVm vm₁).calling g' mk (Value.ref b :: As).toArray, t, U', L, hT, X', hL, e1, e2, hq, st⟩
  · dsimp only [Pt.U, Pt.locs, Pt.cells, Pt.slots] at X' e1 e2 h1 h2 h3 st hcl
    subst h1; subst h2; subst h3
    exact Or.inr ⟨q, (T.setVm vm₁).calling g' mk (Value.ref b :: As).toArray, t, U', L, E, ce, hT, X', hL, e1, e2, hq, hce, hcv, vx_cls hW₁ hcl, st⟩
end VXIB
/-! ===== END ===== -/
/-! ===== BEGIN a private constructor of a nest mate that throws ===== -/
section VXIC
variable {p : Program} {l : Launch} {e : Env} {R : Room} {s : State} {m : MethodId} {args : Array Value} {below : List Frame} {meth : Method} {c : Code} {T : State} {locs : List Loc} {cells slots : Nat}
theorem vx_callIN (X : Stand p l e R s m args below meth c T locs cells slots) (hexec : p.tables.exec = Jvm.exec) {own : String} {index : Nat} {host : String} {y : MethodName} {bytes : ByteArray} {maxL : Nat}
    (hown : s.vm.findClass own = some m.cls) (hy1 : y.name = "<init>") (hlink : (Cond.methodLinkNest own index y host).before args s = true) (hinst : (Cond.instanceMethod y).before args s = true)
    (hcode : (Cond.code y bytes maxL none).before args s = true) (hy : y.cls ≠ "java/lang/invoke/MethodHandle" ∧ y.cls ≠ "java/lang/invoke/VarHandle")
    {W9 : Nat} {Pre : Pt → Array Value → Prop} {Post : Pt → Array Value → Option Value → Pt → Prop} {PostX : Pt → Array Value → Addr → Pt → Prop} (hK : vx_Back l R p e below s args y 3 W9 Pre Post PostX)
    {g : JFrame} (hg : g.method = m) (hsize : g.locals.size = c.maxLocals) {a : Addr} {argsL rest : List Value} (hlen : ∀ sig, parseMethodDescriptor y.desc = some sig → argsL.length = sig.parameters.length)
    (hstack : g.stack = argsL.reverse ++ .ref a :: rest) (hW : 2 * g.monitorRoom + (rest.map fun v => v.category).sum ≤ W9) (hdg : decode c.code g.pc = .ok (.invokespecial index, 3))
    (hpre : ∀ vm₁, s.WarmedH vm₁ → Pre ⟨T.setVm vm₁, locs, cells, slots⟩ (Value.ref a :: argsL).toArray) :
    (∃ (v : Option Value) (vm₁ : Vm) (B : Pt), s.WarmedH vm₁ ∧ Stand p l e R s m args below meth c B.U B.locs B.cells B.slots ∧ Post ⟨T.setVm vm₁, locs, cells, slots⟩ (Value.ref a :: argsL).toArray v B ∧
      ∀ target, Steps p.tables e below (B.U.setTop { g with pc := g.pc + 3, stack := v.toList ++ rest }) target → Steps p.tables e below (T.setTop g) target) ∨
    (∃ (q : Addr) (vm₁ : Vm) (B : Pt), s.WarmedH vm₁ ∧ Stand p l e R s m args below meth c B.U B.locs B.cells B.slots ∧ PostX ⟨T.setVm vm₁, locs, cells, slots⟩ (Value.ref a :: argsL).toArray q B ∧
      Steps p.tables e below (T.setTop g) ((B.U.setTop { g with stack := rest }).pushFrame (.throwing q))) := by
  subst hg
  have hpl : e.platform.magicAccessors = ({} : Platform).magicAccessors := by rw [X.admits.platform]
  obtain ⟨mk, methM, cM, kP, vm₁, hnamed, hmethM, hcodeM, -, hlocalsM, -, hkP, -, hW₁, hstep₁⟩ := Steps.initColdArgsNest (e := e) X.here hexec X.warmed hpl hown hy1 hy hlink hinst hcode (f := g) rfl hlen hstack hdg
  have X₁ := X.noted hW₁
  rcases hK g.method meth c ⟨T.setVm vm₁, locs, cells, slots⟩ { g with stack := rest } (.invokespecial index) mk (Value.ref a :: argsL).toArray X₁ rfl hsize hdg hW (X₁.named hnamed) (hpre vm₁ X₁.warmed) with ⟨v, B, X', hpost, hsteps⟩ | ⟨q, B, X', hpost, hsteps⟩
  · exact Or.inl ⟨v, vm₁, B, X₁.warmed, X', hpost, fun target h => hstep₁ _ fun acts => by rw [doInvoke_state]; exact hsteps.trans h⟩
  · exact Or.inr ⟨q, vm₁, B, X₁.warmed, X', hpost, hstep₁ _ fun acts => by rw [doInvoke_state]; exact hsteps⟩
end VXIC
section VXID
variable {p : Program} {l : Launch} {e : Env} {R : Room} {s : State} {m : MethodId} {args : Array Value} {below : List Frame} {meth : Method} {c : Code} {H : Heap} {locs : List Loc} {cells slots : Nat}
theorem vx_runIN {y : MethodName} {bytes cc : ByteArray} {maxL nL mc ms n index : Nat} {ws : List Cond} {rm : Room} {Pc : Array Value → State → Prop} {Qc : Array Value → State → Outcome → State → Prop} {XC : String → State → State → Prop} {free : Addr → Prop} {Ts : List Cond} {own host : String} {b : Addr} {As rest : List Value} {g : JFrame}
    (S : CallFix p m c cc nL s args Ts own) (hM : vx_Met l y ws rm Pc Qc XC mc ms free) (cw : va_CN R s args own index y host bytes maxL none ws rm mc ms n ∧ y.name = "<init>" ∧ (Cond.instanceMethod y).before args s = true) (hp : PreS s H Pc (.ref b :: As))
    (hg : g.method = m) (hn : As.length = n) (hsize : g.locals.size = nL) (hstack : g.stack = As.reverse ++ .ref b :: rest) (hW : 2 * g.monitorRoom + (rest.map fun v => v.category).sum ≤ 8) (hdg : decode cc g.pc = .ok (.invokespecial index, 3)) (hf : cells + mc ≤ R.cells ∧ slots + ms ≤ R.slots) :
    vx_Run p l e R s m args below meth c H locs cells slots mc ms g rest (Qc (Value.ref b :: As).toArray) XC free := by
  obtain ⟨⟨⟨hrc, hrs, hfr, hlo, hws, hcw⟩, hcode, hini, hy, hlen, hl⟩, hx1, hx2⟩ := cw
  have hK : vx_Back l R p e below s args y 3 8 (PreOf R mc ms Pc) (PostOf Qc mc ms free) (vx_Post XC mc ms free) := vx_back (bytes := bytes) (maxL := maxL) (ret := none) hM hp.1 hrc hrs hfr hlo hws hcw (fun a' U hW => word_at hW (Or.inl (by first | rfl | simp [Cond.onTables, Cond.keeps, Cond.steady])) hini)
  obtain ⟨hx, hb, hml, ho, -⟩ := S
  have hPc := hp.2
  intro T hT X
  rcases vx_callIN X hx (bytes := bytes) (maxL := maxL) ho hx1 hl hx2 hcode hy hK hg (hsize.trans hml.symm) (a := b) (argsL := As) (rest := rest) (fun sig h => hn.trans (hlen sig h)) hstack hW (by rw [hb]; exact hdg)
    (fun vm₁ hW₁ => ⟨hf.1, hf.2, hPc (T.setVm vm₁) hT hW₁⟩) with ⟨v, vm₁, ⟨U', l2, c2, s2⟩, hW₁, X', ⟨g', mk, t, L, e1, e2, hq, h1, hL, h2, h3⟩, st⟩ | ⟨q, vm₁, ⟨U', l2, c2, s2⟩, hW₁, X', ⟨g', mk, t, L, E, ce, e1, e2, hq, hce, hcv, hcl, h1, hL, h2, h3⟩, st⟩
  · dsimp only [Pt.U, Pt.locs, Pt.cells, Pt.slots] at X' e1 e2 h1 h2 h3 st
    subst h1; subst h2; subst h3
    exact Or.inl ⟨v, (T.setVm vm₁).calling g' mk (Value.ref b :: As).toArray, t, U', L, hT, X', hL, e1, e2, hq, st⟩
  · dsimp only [Pt.U, Pt.locs, Pt.cells, Pt.slots] at X' e1 e2 h1 h2 h3 st hcl
    subst h1; subst h2; subst h3
    exact Or.inr ⟨q, (T.setVm vm₁).calling g' mk (Value.ref b :: As).toArray, t, U', L, E, ce, hT, X', hL, e1, e2, hq, hce, hcv, vx_cls hW₁ hcl, st⟩
end VXID
/-! ===== END ===== -/
/-! ===== BEGIN a method of a class above, found by the receiver, that may throw (follows va_callVU, va_runU of this kit) ===== -/
section
variable {p : Program} {l : Launch} {e : Env} {R : Room} {s : State} {m : MethodId} {args : Array Value} {below : List Frame} {meth : Method} {c : Code} {H : Heap} {locs : List Loc} {cells slots : Nat}
theorem vx_callVU {T : State} {locs : List Loc} {cells slots : Nat} (X : Stand p l e R s m args below meth c T locs cells slots) (hexec : p.tables.exec = Jvm.exec) {own C owner : String} {index : Nat} {x y : MethodName} {bytes : ByteArray} {maxL : Nat} {ret : Option FieldType}
    (hown : s.vm.findClass own = some m.cls) (hlink : (Cond.methodLink own index x).before args s = true) (hsame : (Cond.sameMethod x.cls owner x.name x.desc).before args s = true)
    (hd0 : va_Decl s ⟨owner, x.name, x.desc⟩) (howner : owner ≠ "java/lang/invoke/MethodHandle" ∧ owner ≠ "java/lang/invoke/VarHandle")
    (hsel : (Cond.selects C x y).before args s = true) (hinst : (Cond.instanceMethod y).before args s = true) (hcode : (Cond.code y bytes maxL ret).before args s = true)
    {W : Nat} {Pre : Pt → Array Value → Prop} {Post : Pt → Array Value → Option Value → Pt → Prop} {PostX : Pt → Array Value → Addr → Pt → Prop} (hK : vx_Back l R p e below s args y 3 W Pre Post PostX)
    {b : Addr} {cellB : Cell} (hcell : T.heap[b]? = some cellB) (hobj : cellB.vm.isStatics = false) (hcls : s.vm.findClass C = some cellB.cls)
    {g : JFrame} (hg : g.method = m) (hsize : g.locals.size = c.maxLocals) {argsL rest : List Value} (hlen : ∀ sig, parseMethodDescriptor x.desc = some sig → argsL.length = sig.parameters.length)
    (hstack : g.stack = argsL.reverse ++ .ref b :: rest) (hW : 2 * g.monitorRoom + (rest.map fun v => v.category).sum ≤ W) (hdg : decode c.code g.pc = .ok (.invokevirtual index, 3))
    (hpre : ∀ vm₁, s.WarmedH vm₁ → Pre ⟨T.setVm vm₁, locs, cells, slots⟩ (Value.ref b :: argsL).toArray) :
    (∃ (v : Option Value) (vm₁ : Vm) (B : Pt), s.WarmedH vm₁ ∧ Stand p l e R s m args below meth c B.U B.locs B.cells B.slots ∧ Post ⟨T.setVm vm₁, locs, cells, slots⟩ (Value.ref b :: argsL).toArray v B ∧
      ∀ target, Steps p.tables e below (B.U.setTop { g with pc := g.pc + 3, stack := v.toList ++ rest }) target → Steps p.tables e below (T.setTop g) target) ∨
    (∃ (q : Addr) (vm₁ : Vm) (B : Pt), s.WarmedH vm₁ ∧ Stand p l e R s m args below meth c B.U B.locs B.cells B.slots ∧ PostX ⟨T.setVm vm₁, locs, cells, slots⟩ (Value.ref b :: argsL).toArray q B ∧
      Steps p.tables e below (T.setTop g) ((B.U.setTop { g with stack := rest }).pushFrame (.throwing q))) := by
  obtain ⟨r0, r, hn, hrm, hstR, hsigR⟩ := hd0
  obtain ⟨cn, ck, r1, hcn, hck, hni, hf, hn1⟩ := Cond.sameMethod_found hsame
  cases hn.symm.trans hn1
  obtain ⟨mk, methM, hnamed, hmethM, -, habM⟩ := Cond.instanceMethod_spec hinst
  obtain ⟨c2, r2, m2, q1, q2, q3, q4, kP, hkP, hkPi⟩ := Cond.selects_spec hsel
  cases hcls.symm.trans q1
  cases hf.symm.trans q2
  cases hnamed.symm.trans q3
  have hselP : selectMethod e.platform s.vm cellB.cls r0 = .method mk := by rw [Launch.admits_selectMethod X.admits]; exact q4
  obtain ⟨vm₁, X₁, hstep₁⟩ := X.invokevirtualUp hexec hown hlink hsame howner hn hrm hstR (a := b) (cell := cellB) hcell
    (fun z h => by rw [h] at hobj; cases hobj) hselP hmethM habM hkP hkPi (g := g) hg (argsL := argsL) (rest := rest) (hlen _ hsigR) hstack hdg
  rcases hK m meth c ⟨T.setVm vm₁, locs, cells, slots⟩ { g with stack := rest } (.invokevirtual index) mk (Value.ref b :: argsL).toArray X₁ hg hsize hdg hW (X₁.named hnamed) (hpre vm₁ X₁.warmed) with ⟨v, B, X', hpost, hsteps⟩ | ⟨q, B, X', hpost, hsteps⟩
  · exact Or.inl ⟨v, vm₁, B, X₁.warmed, X', hpost, fun target h => hstep₁ _ fun acts => by rw [doInvoke_state]; exact hsteps.trans h⟩
  · exact Or.inr ⟨q, vm₁, B, X₁.warmed, X', hpost, hstep₁ _ fun acts => by rw [doInvoke_state]; exact hsteps⟩
theorem vx_runU {x y : MethodName} {bytes cc : ByteArray} {maxL nL mc ms n index : Nat} {ret : Option FieldType} {ws : List Cond} {rm : Room} {Pc : Array Value → State → Prop} {Qc : Array Value → State → Outcome → State → Prop} {XC : String → State → State → Prop} {free : Addr → Prop} {Ts : List Cond} {own C owner : String} {b : Addr} {As rest : List Value} {g : JFrame}
    (S : CallFix p m c cc nL s args Ts own) (hM : vx_Met l y ws rm Pc Qc XC mc ms free) (cw : va_CU R s args own C owner index x y bytes maxL ret ws rm mc ms n) (hp : PreV s H C b Pc As)
    (hg : g.method = m) (hn : As.length = n) (hsize : g.locals.size = nL) (hstack : g.stack = As.reverse ++ .ref b :: rest) (hW : 2 * g.monitorRoom + (rest.map fun v => v.category).sum ≤ 8) (hdg : decode cc g.pc = .ok (.invokevirtual index, 3)) (hf : cells + mc ≤ R.cells ∧ slots + ms ≤ R.slots) :
    vx_Run p l e R s m args below meth c H locs cells slots mc ms g rest (Qc (Value.ref b :: As).toArray) XC free := by
  obtain ⟨hrc, hrs, hfr, hlo, hws, hcw⟩ := cw.back
  have hini := cw.init
  have hK : vx_Back l R p e below s args y 3 8 (PreOf R mc ms Pc) (PostOf Qc mc ms free) (vx_Post XC mc ms free) := vx_back (bytes := bytes) (maxL := maxL) (ret := ret) hM hp.1 hrc hrs hfr hlo hws hcw (fun a' U hW => word_at hW (Or.inl (by first | rfl | simp [Cond.onTables, Cond.keeps, Cond.steady])) hini)
  obtain ⟨hx, hb, hml, ho, -⟩ := S
  obtain ⟨-, ⟨cellB, hcB, hoB, hclB⟩, hPc⟩ := hp
  intro T hT X
  rcases vx_callVU X hx (C := C) (owner := owner) (bytes := bytes) (maxL := maxL) (ret := ret) ho cw.link cw.same cw.decl cw.notMH cw.sel cw.inst cw.code hK (by rw [hT]; exact hcB) hoB hclB hg (hsize.trans hml.symm) (argsL := As) (rest := rest) (fun sig h => hn.trans (cw.len sig h)) hstack hW (by rw [hb]; exact hdg)
    (fun vm₁ hW₁ => ⟨hf.1, hf.2, hPc (T.setVm vm₁) hT hW₁⟩) with ⟨v, vm₁, ⟨U', l2, c2, s2⟩, hW₁, X', ⟨g', mk, t, L, e1, e2, hq, h1, hL, h2, h3⟩, st⟩ | ⟨q, vm₁, ⟨U', l2, c2, s2⟩, hW₁, X', ⟨g', mk, t, L, E, ce, e1, e2, hq, hce, hcv, hcl, h1, hL, h2, h3⟩, st⟩
  · dsimp only [Pt.U, Pt.locs, Pt.cells, Pt.slots] at X' e1 e2 h1 h2 h3 st
    subst h1; subst h2; subst h3
    exact Or.inl ⟨v, (T.setVm vm₁).calling g' mk (Value.ref b :: As).toArray, t, U', L, hT, X', hL, e1, e2, hq, st⟩
  · dsimp only [Pt.U, Pt.locs, Pt.cells, Pt.slots] at X' e1 e2 h1 h2 h3 st hcl
    subst h1; subst h2; subst h3
    exact Or.inr ⟨q, (T.setVm vm₁).calling g' mk (Value.ref b :: As).toArray, t, U', L, E, ce, hT, X', hL, e1, e2, hq, hce, hcv, vx_cls hW₁ hcl, st⟩
end
/-! ===== END ===== -/
/-! ===== BEGIN super.m(..) that may throw (follows va_callSU, va_runSU) ===== -/
section
variable {p : Program} {l : Launch} {e : Env} {R : Room} {s : State} {m : MethodId} {args : Array Value} {below : List Frame} {meth : Method} {c : Code} {H : Heap} {locs : List Loc} {cells slots : Nat}
theorem vx_callSU {T : State} {locs : List Loc} {cells slots : Nat} (X : Stand p l e R s m args below meth c T locs cells slots) (hexec : p.tables.exec = Jvm.exec) {own : String} {index : Nat} {y : MethodName} {bytes : ByteArray} {maxL : Nat} {ret : Option FieldType}
    (hown : s.vm.findClass own = some m.cls) (hlink : (Cond.methodLink own index y).before args s = true) (hsame : (Cond.sameMethod y.cls y.cls y.name y.desc).before args s = true) (hsup : (Cond.superclass own y.cls).before args s = true)
    (hinst : (Cond.instanceMethod y).before args s = true) (hcode : (Cond.code y bytes maxL ret).before args s = true) (hno : y.name ≠ "<init>")
    {W : Nat} {Pre : Pt → Array Value → Prop} {Post : Pt → Array Value → Option Value → Pt → Prop} {PostX : Pt → Array Value → Addr → Pt → Prop} (hK : vx_Back l R p e below s args y 3 W Pre Post PostX)
    {b : Addr} {cellB : Cell} {kB : Class} (hcell : T.heap[b]? = some cellB) (hobj : cellB.vm.isStatics = false) (hkB : s.vm.classes[cellB.cls]? = some kB)
    {g : JFrame} (hg : g.method = m) (hsize : g.locals.size = c.maxLocals) {argsL rest : List Value} (hlen : ∀ sig, parseMethodDescriptor y.desc = some sig → argsL.length = sig.parameters.length)
    (hstack : g.stack = argsL.reverse ++ .ref b :: rest) (hW : 2 * g.monitorRoom + (rest.map fun v => v.category).sum ≤ W) (hdg : decode c.code g.pc = .ok (.invokespecial index, 3))
    (hpre : ∀ vm₁, s.WarmedH vm₁ → Pre ⟨T.setVm vm₁, locs, cells, slots⟩ (Value.ref b :: argsL).toArray) :
    (∃ (v : Option Value) (vm₁ : Vm) (B : Pt), s.WarmedH vm₁ ∧ Stand p l e R s m args below meth c B.U B.locs B.cells B.slots ∧ Post ⟨T.setVm vm₁, locs, cells, slots⟩ (Value.ref b :: argsL).toArray v B ∧
      ∀ target, Steps p.tables e below (B.U.setTop { g with pc := g.pc + 3, stack := v.toList ++ rest }) target → Steps p.tables e below (T.setTop g) target) ∨
    (∃ (q : Addr) (vm₁ : Vm) (B : Pt), s.WarmedH vm₁ ∧ Stand p l e R s m args below meth c B.U B.locs B.cells B.slots ∧ PostX ⟨T.setVm vm₁, locs, cells, slots⟩ (Value.ref b :: argsL).toArray q B ∧
      Steps p.tables e below (T.setTop g) ((B.U.setTop { g with stack := rest }).pushFrame (.throwing q))) := by
  obtain ⟨mk, methM, hnamed, hmethM, hstM, habM⟩ := Cond.instanceMethod_spec hinst
  obtain ⟨methM', cM, hmethM', -, -, -, -, -, -, hsigM⟩ := Cond.code_spec hnamed hcode
  cases hmethM.symm.trans hmethM'
  obtain ⟨ps, dk, kp, hps, hdk, hkp, hsuper, -, -, hnid⟩ := Cond.superclass_spec hown hsup
  have hn : s.methodNamed? ⟨y.cls, y.name, y.desc⟩ = some mk := hnamed
  have hpm : ps = mk.cls := Option.some.inj (hps.symm.trans (findClass_of_methodNamed hnamed))
  have hsub : s.vm.isSubclass ps mk.cls = true := by rw [hpm]; simp [Vm.isSubclass, Vm.isSubclassAux]
  obtain ⟨vm₁, X₁, hstep₁⟩ := X.invokespecialUp hexec hown hlink hsame hn hmethM hstM habM hno hdk hnid hps hsuper hsub (a := b) (cell := cellB) hcell
    (fun z h => by rw [h] at hobj; cases hobj) hkB (g := g) hg (argsL := argsL) (rest := rest) (hlen _ hsigM) hstack hdg
  rcases hK m meth c ⟨T.setVm vm₁, locs, cells, slots⟩ { g with stack := rest } (.invokespecial index) mk (Value.ref b :: argsL).toArray X₁ hg hsize hdg hW (X₁.named hnamed) (hpre vm₁ X₁.warmed) with ⟨v, B, X', hpost, hsteps⟩ | ⟨q, B, X', hpost, hsteps⟩
  · exact Or.inl ⟨v, vm₁, B, X₁.warmed, X', hpost, fun target h => hstep₁ _ (by rw [doInvoke_state]; exact hsteps.trans h)⟩
  · exact Or.inr ⟨q, vm₁, B, X₁.warmed, X', hpost, hstep₁ _ (by rw [doInvoke_state]; exact hsteps)⟩
theorem vx_runSU {y : MethodName} {bytes cc : ByteArray} {maxL nL mc ms n index : Nat} {ret : Option FieldType} {ws : List Cond} {rm : Room} {Pc : Array Value → State → Prop} {Qc : Array Value → State → Outcome → State → Prop} {XC : String → State → State → Prop} {free : Addr → Prop} {Ts : List Cond} {own C : String} {cC : ClassId} {b : Addr} {As rest : List Value} {g : JFrame}
    (hat : ClassAt s C cC) (S : CallFix p m c cc nL s args Ts own) (hM : vx_Met l y ws rm Pc Qc XC mc ms free) (cw : va_CS R s args own index y bytes maxL ret ws rm mc ms n) (hp : PreV s H C b Pc As)
    (hg : g.method = m) (hn : As.length = n) (hsize : g.locals.size = nL) (hstack : g.stack = As.reverse ++ .ref b :: rest) (hW : 2 * g.monitorRoom + (rest.map fun v => v.category).sum ≤ 8) (hdg : decode cc g.pc = .ok (.invokespecial index, 3)) (hf : cells + mc ≤ R.cells ∧ slots + ms ≤ R.slots) :
    vx_Run p l e R s m args below meth c H locs cells slots mc ms g rest (Qc (Value.ref b :: As).toArray) XC free := by
  obtain ⟨⟨hrc, hrs, hfr, hlo, hws, hcw⟩, hl1, hl2, hl3, hl4, hini, hcode, hno, hlen⟩ := cw
  have hK : vx_Back l R p e below s args y 3 8 (PreOf R mc ms Pc) (PostOf Qc mc ms free) (vx_Post XC mc ms free) := vx_back (bytes := bytes) (maxL := maxL) (ret := ret) hM hp.1 hrc hrs hfr hlo hws hcw (fun a' U hW => word_at hW (Or.inl (by first | rfl | simp [Cond.onTables, Cond.keeps, Cond.steady])) hini)
  obtain ⟨hx, hb, hml, ho, -⟩ := S
  obtain ⟨-, ⟨cellB, hcB, hoB, hclB⟩, hPc⟩ := hp
  obtain ⟨hfc, kB, hkB, -⟩ := hat
  cases hfc.symm.trans hclB
  intro T hT X
  rcases vx_callSU X hx (bytes := bytes) (maxL := maxL) (ret := ret) ho hl1 hl2 hl3 hl4 hcode hno hK (by rw [hT]; exact hcB) hoB hkB hg (hsize.trans hml.symm) (argsL := As) (rest := rest) (fun sig h => hn.trans (hlen sig h)) hstack hW (by rw [hb]; exact hdg)
    (fun vm₁ hW₁ => ⟨hf.1, hf.2, hPc (T.setVm vm₁) hT hW₁⟩) with ⟨v, vm₁, ⟨U', l2, c2, s2⟩, hW₁, X', ⟨g', mk, t, L, e1, e2, hq, h1, hL, h2, h3⟩, st⟩ | ⟨q, vm₁, ⟨U', l2, c2, s2⟩, hW₁, X', ⟨g', mk, t, L, E, ce, e1, e2, hq, hce, hcv, hcl, h1, hL, h2, h3⟩, st⟩
  · dsimp only [Pt.U, Pt.locs, Pt.cells, Pt.slots] at X' e1 e2 h1 h2 h3 st
    subst h1; subst h2; subst h3
    exact Or.inl ⟨v, (T.setVm vm₁).calling g' mk (Value.ref b :: As).toArray, t, U', L, hT, X', hL, e1, e2, hq, st⟩
  · dsimp only [Pt.U, Pt.locs, Pt.cells, Pt.slots] at X' e1 e2 h1 h2 h3 st hcl
    subst h1; subst h2; subst h3
    exact Or.inr ⟨q, (T.setVm vm₁).calling g' mk (Value.ref b :: As).toArray, t, U', L, E, ce, hT, X', hL, e1, e2, hq, hce, hcv, vx_cls hW₁ hcl, st⟩
end
/-! ===== END ===== -/
/-! ===== BEGIN a private method of a nest mate that may throw (follows va_callVN, va_callSN, va_runVN, va_runSN) ===== -/
section
variable {p : Program} {l : Launch} {e : Env} {R : Room} {s : State} {m : MethodId} {args : Array Value} {below : List Frame} {meth : Method} {c : Code} {H : Heap} {locs : List Loc} {cells slots : Nat}
variable {T : State}
theorem vx_callVN (X : Stand p l e R s m args below meth c T locs cells slots) (hexec : p.tables.exec = Jvm.exec) {own C : String} {index : Nat} {host : String} {y : MethodName} {bytes : ByteArray} {maxL : Nat} {ret : Option FieldType}
    (hown : s.vm.findClass own = some m.cls) (hlink : (Cond.methodLinkNest own index y host).before args s = true) (hinst : (Cond.instanceMethod y).before args s = true) (hsel : (Cond.selects C y y).before args s = true)
    (hcode : (Cond.code y bytes maxL ret).before args s = true) (hy : y.cls ≠ "java/lang/invoke/MethodHandle" ∧ y.cls ≠ "java/lang/invoke/VarHandle")
    {W : Nat} {Pre : Pt → Array Value → Prop} {Post : Pt → Array Value → Option Value → Pt → Prop} {PostX : Pt → Array Value → Addr → Pt → Prop} (hK : vx_Back l R p e below s args y 3 W Pre Post PostX)
    {b : Addr} {cellB : Cell} (hcell : T.heap[b]? = some cellB) (hobj : cellB.vm.isStatics = false) (hcls : s.vm.findClass C = some cellB.cls)
    {g : JFrame} (hg : g.method = m) (hsize : g.locals.size = c.maxLocals) {argsL rest : List Value} (hlen : ∀ sig, parseMethodDescriptor y.desc = some sig → argsL.length = sig.parameters.length)
    (hstack : g.stack = argsL.reverse ++ .ref b :: rest) (hW : 2 * g.monitorRoom + (rest.map fun v => v.category).sum ≤ W) (hdg : decode c.code g.pc = .ok (.invokevirtual index, 3))
    (hpre : ∀ vm₁, s.WarmedH vm₁ → Pre ⟨T.setVm vm₁, locs, cells, slots⟩ (Value.ref b :: argsL).toArray) :
    (∃ (v : Option Value) (vm₁ : Vm) (B : Pt), s.WarmedH vm₁ ∧ Stand p l e R s m args below meth c B.U B.locs B.cells B.slots ∧ Post ⟨T.setVm vm₁, locs, cells, slots⟩ (Value.ref b :: argsL).toArray v B ∧
      ∀ target, Steps p.tables e below (B.U.setTop { g with pc := g.pc + 3, stack := v.toList ++ rest }) target → Steps p.tables e below (T.setTop g) target) ∨
    (∃ (q : Addr) (vm₁ : Vm) (B : Pt), s.WarmedH vm₁ ∧ Stand p l e R s m args below meth c B.U B.locs B.cells B.slots ∧ PostX ⟨T.setVm vm₁, locs, cells, slots⟩ (Value.ref b :: argsL).toArray q B ∧
      Steps p.tables e below (T.setTop g) ((B.U.setTop { g with stack := rest }).pushFrame (.throwing q))) := by
  obtain ⟨mk, methM, hnamed, hmethM, hstM, habM⟩ := Cond.instanceMethod_spec hinst
  obtain ⟨methM', cM, hmethM', -, -, -, -, -, -, hsigM⟩ := Cond.code_spec hnamed hcode
  cases hmethM.symm.trans hmethM'
  obtain ⟨c2, r2, m2, q1, q2, q3, q4, kP, hkP, hkPi⟩ := Cond.selects_spec hsel
  cases hcls.symm.trans q1
  cases (State.methodFound?_of_named hnamed hy).symm.trans q2
  cases hnamed.symm.trans q3
  have hselP : selectMethod e.platform s.vm cellB.cls mk = .method mk := by rw [Launch.admits_selectMethod X.admits]; exact q4
  obtain ⟨vm₁, X₁, hstep₁⟩ := X.invokevirtualNest hexec hown hlink hnamed hmethM hstM hkP hkPi hy (a := b) (cell := cellB) hcell
    (fun z h => by rw [h] at hobj; cases hobj) hselP hmethM habM hkP hkPi (g := g) hg (argsL := argsL) (rest := rest) (hlen _ hsigM) hstack hdg
  rcases hK m meth c ⟨T.setVm vm₁, locs, cells, slots⟩ { g with stack := rest } (.invokevirtual index) mk (Value.ref b :: argsL).toArray X₁ hg hsize hdg hW (X₁.named hnamed) (hpre vm₁ X₁.warmed) with ⟨v, B, X', hpost, hsteps⟩ | ⟨q, B, X', hpost, hsteps⟩
  · exact Or.inl ⟨v, vm₁, B, X₁.warmed, X', hpost, fun target h => hstep₁ _ fun acts => by rw [doInvoke_state]; exact hsteps.trans h⟩
  · exact Or.inr ⟨q, vm₁, B, X₁.warmed, X', hpost, hstep₁ _ fun acts => by rw [doInvoke_state]; exact hsteps⟩
theorem vx_callSN (X : Stand p l e R s m args below meth c T locs cells slots) (hexec : p.tables.exec = Jvm.exec) {own : String} {index : Nat} {host : String} {y : MethodName} {bytes : ByteArray} {maxL : Nat} {ret : Option FieldType}
    (hown : s.vm.findClass own = some m.cls) (hlink : (Cond.methodLinkNest own index y host).before args s = true) (hstat : (Cond.static y).before args s = true) (hinit : (Cond.initialized y.cls).before args s = true)
    (hcode : (Cond.code y bytes maxL ret).before args s = true) (hy : y.cls ≠ "java/lang/invoke/MethodHandle" ∧ y.cls ≠ "java/lang/invoke/VarHandle")
    {W : Nat} {Pre : Pt → Array Value → Prop} {Post : Pt → Array Value → Option Value → Pt → Prop} {PostX : Pt → Array Value → Addr → Pt → Prop} (hK : vx_Back l R p e below s args y 3 W Pre Post PostX)
    {g : JFrame} (hg : g.method = m) (hsize : g.locals.size = c.maxLocals) {argsL rest : List Value} (hlen : ∀ sig, parseMethodDescriptor y.desc = some sig → argsL.length = sig.parameters.length)
    (hstack : g.stack = argsL.reverse ++ rest) (hW : 2 * g.monitorRoom + (rest.map fun v => v.category).sum ≤ W) (hdg : decode c.code g.pc = .ok (.invokestatic index, 3))
    (hpre : ∀ vm₁, s.WarmedH vm₁ → Pre ⟨T.setVm vm₁, locs, cells, slots⟩ argsL.toArray) :
    (∃ (v : Option Value) (vm₁ : Vm) (B : Pt), s.WarmedH vm₁ ∧ Stand p l e R s m args below meth c B.U B.locs B.cells B.slots ∧ Post ⟨T.setVm vm₁, locs, cells, slots⟩ argsL.toArray v B ∧
      ∀ target, Steps p.tables e below (B.U.setTop { g with pc := g.pc + 3, stack := v.toList ++ rest }) target → Steps p.tables e below (T.setTop g) target) ∨
    (∃ (q : Addr) (vm₁ : Vm) (B : Pt), s.WarmedH vm₁ ∧ Stand p l e R s m args below meth c B.U B.locs B.cells B.slots ∧ PostX ⟨T.setVm vm₁, locs, cells, slots⟩ argsL.toArray q B ∧
      Steps p.tables e below (T.setTop g) ((B.U.setTop { g with stack := rest }).pushFrame (.throwing q))) := by
  obtain ⟨mk, hnamed⟩ := Cond.code_named hcode
  obtain ⟨methM, cM, hmethM, -, -, -, -, -, -, hsigM⟩ := Cond.code_spec hnamed hcode
  have hstatic : methM.isStatic = true := Cond.static_spec hnamed hmethM hstat
  obtain ⟨kP, hkP, -⟩ := className_of_methodNamed hnamed
  have hinitP : kP.init = .initialized := Cond.initialized_spec (findClass_of_methodNamed hnamed) hkP hinit
  obtain ⟨vm₁, X₁, hstep₁⟩ := X.invokestaticNest hexec hown hlink hnamed hmethM hstatic hkP hinitP hy (g := g) hg (argsL := argsL) (rest := rest) (hlen _ hsigM) hstack hdg
  rcases hK m meth c ⟨T.setVm vm₁, locs, cells, slots⟩ { g with stack := rest } (.invokestatic index) mk argsL.toArray X₁ hg hsize hdg hW (X₁.named hnamed) (hpre vm₁ X₁.warmed) with ⟨v, B, X', hpost, hsteps⟩ | ⟨q, B, X', hpost, hsteps⟩
  · exact Or.inl ⟨v, vm₁, B, X₁.warmed, X', hpost, fun target h => hstep₁ _ fun acts => by rw [doInvoke_state]; exact hsteps.trans h⟩
  · exact Or.inr ⟨q, vm₁, B, X₁.warmed, X', hpost, hstep₁ _ fun acts => by rw [doInvoke_state]; exact hsteps⟩
theorem vx_runVN {y : MethodName} {bytes cc : ByteArray} {maxL nL mc ms n index : Nat} {ret : Option FieldType} {ws : List Cond} {rm : Room} {Pc : Array Value → State → Prop} {Qc : Array Value → State → Outcome → State → Prop} {XC : String → State → State → Prop} {free : Addr → Prop} {Ts : List Cond} {own C host : String} {b : Addr} {As rest : List Value} {g : JFrame}
    (S : CallFix p m c cc nL s args Ts own) (hM : vx_Met l y ws rm Pc Qc XC mc ms free) (cw : va_CN R s args own index y host bytes maxL ret ws rm mc ms n ∧ (Cond.instanceMethod y).before args s = true ∧ (Cond.selects C y y).before args s = true) (hp : PreV s H C b Pc As)
    (hg : g.method = m) (hn : As.length = n) (hsize : g.locals.size = nL) (hstack : g.stack = As.reverse ++ .ref b :: rest) (hW : 2 * g.monitorRoom + (rest.map fun v => v.category).sum ≤ 8) (hdg : decode cc g.pc = .ok (.invokevirtual index, 3)) (hf : cells + mc ≤ R.cells ∧ slots + ms ≤ R.slots) :
    vx_Run p l e R s m args below meth c H locs cells slots mc ms g rest (Qc (Value.ref b :: As).toArray) XC free := by
  obtain ⟨⟨⟨hrc, hrs, hfr, hlo, hws, hcw⟩, hcode, hini, hy, hlen, hl⟩, hx1, hx2⟩ := cw
  have hK : vx_Back l R p e below s args y 3 8 (PreOf R mc ms Pc) (PostOf Qc mc ms free) (vx_Post XC mc ms free) := vx_back (bytes := bytes) (maxL := maxL) (ret := ret) hM hp.1 hrc hrs hfr hlo hws hcw (fun a' U hW => word_at hW (Or.inl (by first | rfl | simp [Cond.onTables, Cond.keeps, Cond.steady])) hini)
  obtain ⟨hx, hb, hml, ho, -⟩ := S
  obtain ⟨-, ⟨cellB, hcB, hoB, hclB⟩, hPc⟩ := hp
  intro T hT X
  rcases vx_callVN X hx (C := C) (bytes := bytes) (maxL := maxL) (ret := ret) ho hl hx1 hx2 hcode hy hK (by rw [hT]; exact hcB) hoB hclB hg (hsize.trans hml.symm) (argsL := As) (rest := rest) (fun sig h => hn.trans (hlen sig h)) hstack hW (by rw [hb]; exact hdg)
    (fun vm₁ hW₁ => ⟨hf.1, hf.2, hPc (T.setVm vm₁) hT hW₁⟩) with ⟨v, vm₁, ⟨U', l2, c2, s2⟩, hW₁, X', ⟨g', mk, t, L, e1, e2, hq, h1, hL, h2, h3⟩, st⟩ | ⟨q, vm₁, ⟨U', l2, c2, s2⟩, hW₁, X', ⟨g', mk, t, L, E, ce, e1, e2, hq, hce, hcv, hcl, h1, hL, h2, h3⟩, st⟩
  · dsimp only [Pt.U, Pt.locs, Pt.cells, Pt.slots] at X' e1 e2 h1 h2 h3 st
    subst h1; subst h2; subst h3
    exact Or.inl ⟨v, (T.setVm vm₁).calling g' mk (Value.ref b :: As).toArray, t, U', L, hT, X', hL, e1, e2, hq, st⟩
  · dsimp only [Pt.U, Pt.locs, Pt.cells, Pt.slots] at X' e1 e2 h1 h2 h3 st hcl
    subst h1; subst h2; subst h3
    exact Or.inr ⟨q, (T.setVm vm₁).calling g' mk (Value.ref b :: As).toArray, t, U', L, E, ce, hT, X', hL, e1, e2, hq, hce, hcv, vx_cls hW₁ hcl, st⟩
theorem vx_runSN {y : MethodName} {bytes cc : ByteArray} {maxL nL mc ms n index : Nat} {ret : Option FieldType} {ws : List Cond} {rm : Room} {Pc : Array Value → State → Prop} {Qc : Array Value → State → Outcome → State → Prop} {XC : String → State → State → Prop} {free : Addr → Prop} {Ts : List Cond} {own host : String} {As rest : List Value} {g : JFrame}
    (S : CallFix p m c cc nL s args Ts own) (hM : vx_Met l y ws rm Pc Qc XC mc ms free) (cw : va_CN R s args own index y host bytes maxL ret ws rm mc ms n ∧ (Cond.static y).before args s = true ∧ True) (hp : PreS s H Pc As)
    (hg : g.method = m) (hn : As.length = n) (hsize : g.locals.size = nL) (hstack : g.stack = As.reverse ++ rest) (hW : 2 * g.monitorRoom + (rest.map fun v => v.category).sum ≤ 8) (hdg : decode cc g.pc = .ok (.invokestatic index, 3)) (hf : cells + mc ≤ R.cells ∧ slots + ms ≤ R.slots) :
    vx_Run p l e R s m args below meth c H locs cells slots mc ms g rest (Qc As.toArray) XC free := by
  obtain ⟨⟨⟨hrc, hrs, hfr, hlo, hws, hcw⟩, hcode, hini, hy, hlen, hl⟩, hx1, hx2⟩ := cw
  have hK : vx_Back l R p e below s args y 3 8 (PreOf R mc ms Pc) (PostOf Qc mc ms free) (vx_Post XC mc ms free) := vx_back (bytes := bytes) (maxL := maxL) (ret := ret) hM hp.1 hrc hrs hfr hlo hws hcw (fun a' U hW => word_at hW (Or.inl (by first | rfl | simp [Cond.onTables, Cond.keeps, Cond.steady])) hini)
  obtain ⟨hx, hb, hml, ho, -⟩ := S
  have hPc := hp.2
  intro T hT X
  rcases vx_callSN X hx (bytes := bytes) (maxL := maxL) (ret := ret) ho hl hx1 hini hcode hy hK hg (hsize.trans hml.symm) (argsL := As) (rest := rest) (fun sig h => hn.trans (hlen sig h)) hstack hW (by rw [hb]; exact hdg)
    (fun vm₁ hW₁ => ⟨hf.1, hf.2, hPc (T.setVm vm₁) hT hW₁⟩) with ⟨v, vm₁, ⟨U', l2, c2, s2⟩, hW₁, X', ⟨g', mk, t, L, e1, e2, hq, h1, hL, h2, h3⟩, st⟩ | ⟨q, vm₁, ⟨U', l2, c2, s2⟩, hW₁, X', ⟨g', mk, t, L, E, ce, e1, e2, hq, hce, hcv, hcl, h1, hL, h2, h3⟩, st⟩
  · dsimp only [Pt.U, Pt.locs, Pt.cells, Pt.slots] at X' e1 e2 h1 h2 h3 st
    subst h1; subst h2; subst h3
    exact Or.inl ⟨v, (T.setVm vm₁).calling g' mk As.toArray, t, U', L, hT, X', hL, e1, e2, hq, st⟩
  · dsimp only [Pt.U, Pt.locs, Pt.cells, Pt.slots] at X' e1 e2 h1 h2 h3 st hcl
    subst h1; subst h2; subst h3
    exact Or.inr ⟨q, (T.setVm vm₁).calling g' mk As.toArray, t, U', L, E, ce, hT, X', hL, e1, e2, hq, hce, hcv, vx_cls hW₁ hcl, st⟩
end
/-! ===== END ===== -/
/-! ===== BEGIN calls by an interface of methods that may throw (vx_callIF, vx_runF follow va_callIF, va_runF of this kit) ===== -/
section
variable {p : Program} {l : Launch} {e : Env} {R : Room} {s : State} {m : MethodId} {args : Array Value} {below : List Frame} {meth : Method} {c : Code} {H : Heap} {locs : List Loc} {cells slots : Nat} {Q : State → Prop}
variable {mc ms : Nat} {free : Addr → Prop} {A0 A1 : Nat → Prop} {H0 : Heap} {a : Array Value} {pc : Nat} {ls : Array Slot} {st0 rest : List Value}
def vx_Run5 (p : Program) (l : Launch) (e : Env) (R : Room) (s : State) (m : MethodId) (args : Array Value) (below : List Frame) (meth : Method) (c : Code) (H : Heap) (locs : List Loc) (cells slots mc ms : Nat) (g : JFrame) (rest : List Value) (Qa : State → Outcome → State → Prop) (XC : String → State → State → Prop) (free : Addr → Prop) : Prop :=
  ∀ T : State, T.heap = H → Stand p l e R s m args below meth c T locs cells slots →
    (∃ (v : Option Value) (st₀ t T' : State) (L : List Loc), st₀.heap = H ∧ Stand p l e R s m args below meth c T' (locs ++ L) (cells + mc) (slots + ms) ∧ (∀ q ∈ L, free q.base) ∧ T'.heap = t.heap ∧ T'.vm = t.vm ∧ Qa st₀ (.returned v) t ∧
      Goes p e below T g T' { g with pc := g.pc + 5, stack := v.toList ++ rest }) ∨
    (∃ (q : Addr) (st₀ t T' : State) (L : List Loc) (E : String) (ce : Cell), st₀.heap = H ∧ Stand p l e R s m args below meth c T' (locs ++ L) (cells + mc) (slots + ms) ∧ (∀ z ∈ L, free z.base) ∧ T'.heap = t.heap ∧ T'.vm = t.vm ∧ XC E st₀ t ∧ t.heap[q]? = some ce ∧ ce.vm = .none ∧ s.vm.findClass E = some ce.cls ∧
      Steps p.tables e below (T.setTop g) ((T'.setTop { g with stack := rest }).pushFrame (.throwing q)))
theorem vx_callIF {T : State} (X : Stand p l e R s m args below meth c T locs cells slots) (hexec : p.tables.exec = Jvm.exec) {own C : String} {index count : Nat} {x y : MethodName} {bytes : ByteArray} {maxL : Nat} {ret : Option FieldType}
    (hown : s.vm.findClass own = some m.cls) (hlink : (Cond.methodLink own index x).before args s = true) (hdecl : (Cond.declares x).before args s = true) (hface : (Cond.interfaceMethod x.cls x.cls x.name x.desc).before args s = true)
    (hsel : (Cond.selects C x y).before args s = true) (hinst : (Cond.instanceMethod y).before args s = true) (hpub : (Cond.publicMethod y).before args s = true) (hunh : (Cond.unhidden C x.name x.desc).before args s = true)
    (hcast : (Cond.castable C x.cls).before args s = true) (hcode : (Cond.code y bytes maxL ret).before args s = true) (hx : x.cls ≠ "java/lang/invoke/MethodHandle" ∧ x.cls ≠ "java/lang/invoke/VarHandle")
    {W9 : Nat} {Pre : Pt → Array Value → Prop} {Post : Pt → Array Value → Option Value → Pt → Prop} {PostX : Pt → Array Value → Addr → Pt → Prop} (hK : vx_Back l R p e below s args y 5 W9 Pre Post PostX)
    {b : Addr} {cellB : Cell} {kB : Class} (hcell : T.heap[b]? = some cellB) (hobj : cellB.vm.isStatics = false) (hcls : s.vm.findClass C = some cellB.cls) (hkB : s.vm.classes[cellB.cls]? = some kB)
    {g : JFrame} (hg : g.method = m) (hsize : g.locals.size = c.maxLocals) {argsL rest : List Value} (hlen : ∀ sig, parseMethodDescriptor x.desc = some sig → argsL.length = sig.parameters.length)
    (hstack : g.stack = argsL.reverse ++ .ref b :: rest) (hW : 2 * g.monitorRoom + (rest.map fun v => v.category).sum ≤ W9) (hdg : decode c.code g.pc = .ok (.invokeinterface index count, 5))
    (hpre : ∀ vm₁, s.WarmedH vm₁ → Pre ⟨T.setVm vm₁, locs, cells, slots⟩ (Value.ref b :: argsL).toArray) :
    (∃ (v : Option Value) (vm₁ : Vm) (B : Pt), s.WarmedH vm₁ ∧ Stand p l e R s m args below meth c B.U B.locs B.cells B.slots ∧ Post ⟨T.setVm vm₁, locs, cells, slots⟩ (Value.ref b :: argsL).toArray v B ∧
      ∀ target, Steps p.tables e below (B.U.setTop { g with pc := g.pc + 5, stack := v.toList ++ rest }) target → Steps p.tables e below (T.setTop g) target) ∨
    (∃ (q : Addr) (vm₁ : Vm) (B : Pt), s.WarmedH vm₁ ∧ Stand p l e R s m args below meth c B.U B.locs B.cells B.slots ∧ PostX ⟨T.setVm vm₁, locs, cells, slots⟩ (Value.ref b :: argsL).toArray q B ∧
      Steps p.tables e below (T.setTop g) ((B.U.setTop { g with stack := rest }).pushFrame (.throwing q))) := by
  obtain ⟨r0, r, hn, hrm, hstR, hsigR⟩ := Cond.declares_spec hdecl
  obtain ⟨cL, kL, r1, hcL, hkL, hiL, hfoundL, hn1⟩ := Cond.interfaceMethod_spec hface
  cases hn.symm.trans hn1
  have hr0cls : r0.cls = cL := Option.some.inj ((findClass_of_methodNamed hn).symm.trans hcL)
  obtain ⟨hnameR, hdescR⟩ := name_of_methodNamed hn hrm
  obtain ⟨mk, methM, hnamed, hmethM, -, habM⟩ := Cond.instanceMethod_spec hinst
  obtain ⟨c2, r2, m2, q1, q2, q3, q4, -⟩ := Cond.selects_spec hsel
  cases hcls.symm.trans q1
  cases hfoundL.symm.trans q2
  cases hnamed.symm.trans q3
  have hselP : selectMethod e.platform s.vm cellB.cls r0 = .method mk := by rw [Launch.admits_selectMethod X.admits]; exact q4
  have hpubM : hasFlag methM.accessFlags Acc.public_ = true := Cond.publicMethod_spec hnamed hmethM hpub
  have hway : ((cellB.cls :: s.vm.superclasses cellB.cls).any fun k => (declaredIn s.vm r.name r.desc k).any fun (_, z) => z.isPrivate || z.isStatic) = false := by
    rw [hnameR, hdescR]; exact Cond.unhidden_spec hcls hunh
  obtain ⟨c3, t3, w1, w2, w3⟩ := Cond.castable_spec hcast
  cases hcls.symm.trans w1
  cases hcL.symm.trans w2
  obtain ⟨vm₁, X₁, hstep₁⟩ := X.invokeinterface hexec hown hlink hn hrm hstR (by rw [hr0cls]; exact hkL) hiL hx (a := b) (cell := cellB) (kcell := kB) hcell
    (fun z h => by rw [h] at hobj; cases hobj) hkB (by rw [hr0cls]; exact w3) hselP hmethM hway hpubM habM (g := g) hg (argsL := argsL) (rest := rest) (hlen _ hsigR) hstack hdg
  rcases hK m meth c ⟨T.setVm vm₁, locs, cells, slots⟩ { g with stack := rest } (.invokeinterface index count) mk (Value.ref b :: argsL).toArray X₁ hg hsize hdg hW (X₁.named hnamed) (hpre vm₁ X₁.warmed) with ⟨v, B, X', hpost, hsteps⟩ | ⟨q, B, X', hpost, hsteps⟩
  · exact Or.inl ⟨v, vm₁, B, X₁.warmed, X', hpost, fun target h => hstep₁ _ fun acts => by rw [doInvoke_state]; exact hsteps.trans h⟩
  · exact Or.inr ⟨q, vm₁, B, X₁.warmed, X', hpost, hstep₁ _ fun acts => by rw [doInvoke_state]; exact hsteps⟩
theorem vx_runF {x y : MethodName} {bytes cc : ByteArray} {maxL nL mc ms n index count : Nat} {ret : Option FieldType} {ws : List Cond} {rm : Room} {Pc : Array Value → State → Prop} {Qc : Array Value → State → Outcome → State → Prop} {XC : String → State → State → Prop} {free : Addr → Prop} {Ts : List Cond} {own C : String} {cC : ClassId} {b : Addr} {As rest : List Value} {g : JFrame}
    (hat : ClassAt s C cC) (S : CallFix p m c cc nL s args Ts own) (hM : vx_Met l y ws rm Pc Qc XC mc ms free) (cw : va_CI R s args own C index x y bytes maxL ret ws rm mc ms n) (hp : PreV s H C b Pc As)
    (hg : g.method = m) (hn : As.length = n) (hsize : g.locals.size = nL) (hstack : g.stack = As.reverse ++ .ref b :: rest) (hW : 2 * g.monitorRoom + (rest.map fun v => v.category).sum ≤ 8) (hdg : decode cc g.pc = .ok (.invokeinterface index count, 5)) (hf : cells + mc ≤ R.cells ∧ slots + ms ≤ R.slots) :
    vx_Run5 p l e R s m args below meth c H locs cells slots mc ms g rest (Qc (Value.ref b :: As).toArray) XC free := by
  obtain ⟨hrc, hrs, hfr, hlo, hws, hcw⟩ := cw.back
  have hini := cw.init
  have hK : vx_Back l R p e below s args y 5 8 (PreOf R mc ms Pc) (PostOf Qc mc ms free) (vx_Post XC mc ms free) := vx_back (bytes := bytes) (maxL := maxL) (ret := ret) hM hp.1 hrc hrs hfr hlo hws hcw (fun a' U hW => word_at hW (Or.inl (by first | rfl | simp [Cond.onTables, Cond.keeps, Cond.steady])) hini)
  obtain ⟨hx, hb, hml, ho, -⟩ := S
  obtain ⟨-, ⟨cellB, hcB, hoB, hclB⟩, hPc⟩ := hp
  obtain ⟨hfc, kB, hkB, -⟩ := hat
  cases hfc.symm.trans hclB
  intro T hT X
  rcases vx_callIF X hx (C := C) (bytes := bytes) (maxL := maxL) (ret := ret) ho cw.link cw.decl cw.face cw.sel cw.inst cw.pub cw.unh cw.cast cw.code cw.notMH hK (by rw [hT]; exact hcB) hoB hclB hkB hg (hsize.trans hml.symm) (argsL := As) (rest := rest) (fun sig h => hn.trans (cw.len sig h)) hstack hW (by rw [hb]; exact hdg)
    (fun vm₁ hW₁ => ⟨hf.1, hf.2, hPc (T.setVm vm₁) hT hW₁⟩) with ⟨v, vm₁, ⟨U', l2, c2, s2⟩, hW₁, X', ⟨g', mk, t, L, e1, e2, hq, h1, hL, h2, h3⟩, st⟩ | ⟨q, vm₁, ⟨U', l2, c2, s2⟩, hW₁, X', ⟨g', mk, t, L, E, ce, e1, e2, hq, hce, hcv, hcl, h1, hL, h2, h3⟩, st⟩
  · dsimp only [Pt.U, Pt.locs, Pt.cells, Pt.slots] at X' e1 e2 h1 h2 h3 st
    subst h1; subst h2; subst h3
    exact Or.inl ⟨v, (T.setVm vm₁).calling g' mk (Value.ref b :: As).toArray, t, U', L, hT, X', hL, e1, e2, hq, st⟩
  · dsimp only [Pt.U, Pt.locs, Pt.cells, Pt.slots] at X' e1 e2 h1 h2 h3 st hcl
    subst h1; subst h2; subst h3
    exact Or.inr ⟨q, (T.setVm vm₁).calling g' mk (Value.ref b :: As).toArray, t, U', L, E, ce, hT, X', hL, e1, e2, hq, hce, hcv, vx_cls hW₁ hcl, st⟩
theorem vx_callFv {S SX : Type} {post : S → Prop} {px : SX → Prop} {B : S → State → Prop} {BX : String → SX → State → Prop} {AX : Nat → Prop} (hr : vx_Run5 p l e R s m args below meth c H locs cells slots mc ms (F0 m pc ls st0) rest (va_Qv post B A1 a) (vx_X px BX AX) free) (hS : va_S A0 H0 H locs) (hA : ∀ q, q < H.size → A1 q → A0 q) (hf : ∀ q, free q → A0 q) (hAX : ∀ q, q < H.size → AX q → A0 q)
    (kx : ∀ (E : String) (ce : Cell) (q9 : Addr) (u : SX) (t : State) (H1 : Heap) (locs1 : List Loc), t.heap = H1 → s.vm.Alike t.vm → px u → BX E u t → H.size ≤ H1.size → (∀ q : Nat, q < H.size → ¬ AX q → H1[q]? = H[q]?) → va_S A0 H0 H1 locs1 → H1[q9]? = some ce → ce.vm = .none → s.vm.findClass E = some ce.cls → vx_W p l e R s m args below meth c H1 locs1 (cells + mc) (slots + ms) Q (F0 m pc ls rest) q9)
    (kk : ∀ (u : S) (t : State) (H1 : Heap) (locs1 : List Loc), t.heap = H1 → s.vm.Alike t.vm → post u → B u t → H.size ≤ H1.size → (∀ q : Nat, q < H.size → ¬ A1 q → H1[q]? = H[q]?) → va_S A0 H0 H1 locs1 → W p l e R s m args below meth c H1 locs1 (cells + mc) (slots + ms) Q (F0 m (pc + 5) ls (rest))) : W p l e R s m args below meth c H locs cells slots Q (F0 m pc ls st0) := by
  intro T hT X
  rcases hr T hT X with ⟨v, st₀, t, T', L, h0, X', hL, e1, e2, ⟨⟨u, hv, hp, hb⟩, hF⟩, st⟩ | ⟨q, st₀, t, T', L, E, ce, h0, X', hL, e1, e2, ⟨u, hp, hb, hF⟩, hce, hcv, hcl, st⟩
  · cases hv
    obtain ⟨k1, k2, k3⟩ := vx_keep h0 e1 hS hA hf hL hF
    obtain ⟨t2, a1, b1⟩ := kk u t T'.heap (locs ++ L) e1.symm (by rw [← e2]; exact X'.warmed.alike) hp hb k1 k2 k3 T' rfl X'
    exact ⟨t2, st t2 a1, b1⟩
  · obtain ⟨k1, k2, k3⟩ := vx_keep h0 e1 hS hAX hf hL hF
    obtain ⟨t2, a1, b1⟩ := kx E ce q u t T'.heap (locs ++ L) e1.symm (by rw [← e2]; exact X'.warmed.alike) hp hb k1 k2 k3 (by rw [e1]; exact hce) hcv hcl T' rfl X'
    exact ⟨t2, st.trans a1, b1⟩
theorem vx_callFi {S SX : Type} {post : Int32 → S → Prop} {px : SX → Prop} {B : S → State → Prop} {BX : String → SX → State → Prop} {AX : Nat → Prop} (hr : vx_Run5 p l e R s m args below meth c H locs cells slots mc ms (F0 m pc ls st0) rest (va_Qi post B A1 a) (vx_X px BX AX) free) (hS : va_S A0 H0 H locs) (hA : ∀ q, q < H.size → A1 q → A0 q) (hf : ∀ q, free q → A0 q) (hAX : ∀ q, q < H.size → AX q → A0 q)
    (kx : ∀ (E : String) (ce : Cell) (q9 : Addr) (u : SX) (t : State) (H1 : Heap) (locs1 : List Loc), t.heap = H1 → s.vm.Alike t.vm → px u → BX E u t → H.size ≤ H1.size → (∀ q : Nat, q < H.size → ¬ AX q → H1[q]? = H[q]?) → va_S A0 H0 H1 locs1 → H1[q9]? = some ce → ce.vm = .none → s.vm.findClass E = some ce.cls → vx_W p l e R s m args below meth c H1 locs1 (cells + mc) (slots + ms) Q (F0 m pc ls rest) q9)
    (kk : ∀ (r : Int32) (u : S) (t : State) (H1 : Heap) (locs1 : List Loc), t.heap = H1 → s.vm.Alike t.vm → post r u → B u t → H.size ≤ H1.size → (∀ q : Nat, q < H.size → ¬ A1 q → H1[q]? = H[q]?) → va_S A0 H0 H1 locs1 → W p l e R s m args below meth c H1 locs1 (cells + mc) (slots + ms) Q (F0 m (pc + 5) ls (.int r :: rest))) : W p l e R s m args below meth c H locs cells slots Q (F0 m pc ls st0) := by
  intro T hT X
  rcases hr T hT X with ⟨v, st₀, t, T', L, h0, X', hL, e1, e2, ⟨⟨r, u, hv, hp, hb⟩, hF⟩, st⟩ | ⟨q, st₀, t, T', L, E, ce, h0, X', hL, e1, e2, ⟨u, hp, hb, hF⟩, hce, hcv, hcl, st⟩
  · cases hv
    obtain ⟨k1, k2, k3⟩ := vx_keep h0 e1 hS hA hf hL hF
    obtain ⟨t2, a1, b1⟩ := kk r u t T'.heap (locs ++ L) e1.symm (by rw [← e2]; exact X'.warmed.alike) hp hb k1 k2 k3 T' rfl X'
    exact ⟨t2, st t2 a1, b1⟩
  · obtain ⟨k1, k2, k3⟩ := vx_keep h0 e1 hS hAX hf hL hF
    obtain ⟨t2, a1, b1⟩ := kx E ce q u t T'.heap (locs ++ L) e1.symm (by rw [← e2]; exact X'.warmed.alike) hp hb k1 k2 k3 (by rw [e1]; exact hce) hcv hcl T' rfl X'
    exact ⟨t2, st.trans a1, b1⟩
theorem vx_callFl {S SX : Type} {post : Int64 → S → Prop} {px : SX → Prop} {B : S → State → Prop} {BX : String → SX → State → Prop} {AX : Nat → Prop} (hr : vx_Run5 p l e R s m args below meth c H locs cells slots mc ms (F0 m pc ls st0) rest (va_Ql post B A1 a) (vx_X px BX AX) free) (hS : va_S A0 H0 H locs) (hA : ∀ q, q < H.size → A1 q → A0 q) (hf : ∀ q, free q → A0 q) (hAX : ∀ q, q < H.size → AX q → A0 q)
    (kx : ∀ (E : String) (ce : Cell) (q9 : Addr) (u : SX) (t : State) (H1 : Heap) (locs1 : List Loc), t.heap = H1 → s.vm.Alike t.vm → px u → BX E u t → H.size ≤ H1.size → (∀ q : Nat, q < H.size → ¬ AX q → H1[q]? = H[q]?) → va_S A0 H0 H1 locs1 → H1[q9]? = some ce → ce.vm = .none → s.vm.findClass E = some ce.cls → vx_W p l e R s m args below meth c H1 locs1 (cells + mc) (slots + ms) Q (F0 m pc ls rest) q9)
    (kk : ∀ (r : Int64) (u : S) (t : State) (H1 : Heap) (locs1 : List Loc), t.heap = H1 → s.vm.Alike t.vm → post r u → B u t → H.size ≤ H1.size → (∀ q : Nat, q < H.size → ¬ A1 q → H1[q]? = H[q]?) → va_S A0 H0 H1 locs1 → W p l e R s m args below meth c H1 locs1 (cells + mc) (slots + ms) Q (F0 m (pc + 5) ls (.long r :: rest))) : W p l e R s m args below meth c H locs cells slots Q (F0 m pc ls st0) := by
  intro T hT X
  rcases hr T hT X with ⟨v, st₀, t, T', L, h0, X', hL, e1, e2, ⟨⟨r, u, hv, hp, hb⟩, hF⟩, st⟩ | ⟨q, st₀, t, T', L, E, ce, h0, X', hL, e1, e2, ⟨u, hp, hb, hF⟩, hce, hcv, hcl, st⟩
  · cases hv
    obtain ⟨k1, k2, k3⟩ := vx_keep h0 e1 hS hA hf hL hF
    obtain ⟨t2, a1, b1⟩ := kk r u t T'.heap (locs ++ L) e1.symm (by rw [← e2]; exact X'.warmed.alike) hp hb k1 k2 k3 T' rfl X'
    exact ⟨t2, st t2 a1, b1⟩
  · obtain ⟨k1, k2, k3⟩ := vx_keep h0 e1 hS hAX hf hL hF
    obtain ⟨t2, a1, b1⟩ := kx E ce q u t T'.heap (locs ++ L) e1.symm (by rw [← e2]; exact X'.warmed.alike) hp hb k1 k2 k3 (by rw [e1]; exact hce) hcv hcl T' rfl X'
    exact ⟨t2, st.trans a1, b1⟩
theorem vx_callFf {S SX : Type} {post : UInt32 → S → Prop} {px : SX → Prop} {B : S → State → Prop} {BX : String → SX → State → Prop} {AX : Nat → Prop} (hr : vx_Run5 p l e R s m args below meth c H locs cells slots mc ms (F0 m pc ls st0) rest (va_Qf post B A1 a) (vx_X px BX AX) free) (hS : va_S A0 H0 H locs) (hA : ∀ q, q < H.size → A1 q → A0 q) (hf : ∀ q, free q → A0 q) (hAX : ∀ q, q < H.size → AX q → A0 q)
    (kx : ∀ (E : String) (ce : Cell) (q9 : Addr) (u : SX) (t : State) (H1 : Heap) (locs1 : List Loc), t.heap = H1 → s.vm.Alike t.vm → px u → BX E u t → H.size ≤ H1.size → (∀ q : Nat, q < H.size → ¬ AX q → H1[q]? = H[q]?) → va_S A0 H0 H1 locs1 → H1[q9]? = some ce → ce.vm = .none → s.vm.findClass E = some ce.cls → vx_W p l e R s m args below meth c H1 locs1 (cells + mc) (slots + ms) Q (F0 m pc ls rest) q9)
    (kk : ∀ (r : UInt32) (u : S) (t : State) (H1 : Heap) (locs1 : List Loc), t.heap = H1 → s.vm.Alike t.vm → post r u → B u t → H.size ≤ H1.size → (∀ q : Nat, q < H.size → ¬ A1 q → H1[q]? = H[q]?) → va_S A0 H0 H1 locs1 → W p l e R s m args below meth c H1 locs1 (cells + mc) (slots + ms) Q (F0 m (pc + 5) ls (.float r :: rest))) : W p l e R s m args below meth c H locs cells slots Q (F0 m pc ls st0) := by
  intro T hT X
  rcases hr T hT X with ⟨v, st₀, t, T', L, h0, X', hL, e1, e2, ⟨⟨r, u, hv, hp, hb⟩, hF⟩, st⟩ | ⟨q, st₀, t, T', L, E, ce, h0, X', hL, e1, e2, ⟨u, hp, hb, hF⟩, hce, hcv, hcl, st⟩
  · cases hv
    obtain ⟨k1, k2, k3⟩ := vx_keep h0 e1 hS hA hf hL hF
    obtain ⟨t2, a1, b1⟩ := kk r u t T'.heap (locs ++ L) e1.symm (by rw [← e2]; exact X'.warmed.alike) hp hb k1 k2 k3 T' rfl X'
    exact ⟨t2, st t2 a1, b1⟩
  · obtain ⟨k1, k2, k3⟩ := vx_keep h0 e1 hS hAX hf hL hF
    obtain ⟨t2, a1, b1⟩ := kx E ce q u t T'.heap (locs ++ L) e1.symm (by rw [← e2]; exact X'.warmed.alike) hp hb k1 k2 k3 (by rw [e1]; exact hce) hcv hcl T' rfl X'
    exact ⟨t2, st.trans a1, b1⟩
theorem vx_callFd {S SX : Type} {post : UInt64 → S → Prop} {px : SX → Prop} {B : S → State → Prop} {BX : String → SX → State → Prop} {AX : Nat → Prop} (hr : vx_Run5 p l e R s m args below meth c H locs cells slots mc ms (F0 m pc ls st0) rest (va_Qd post B A1 a) (vx_X px BX AX) free) (hS : va_S A0 H0 H locs) (hA : ∀ q, q < H.size → A1 q → A0 q) (hf : ∀ q, free q → A0 q) (hAX : ∀ q, q < H.size → AX q → A0 q)
    (kx : ∀ (E : String) (ce : Cell) (q9 : Addr) (u : SX) (t : State) (H1 : Heap) (locs1 : List Loc), t.heap = H1 → s.vm.Alike t.vm → px u → BX E u t → H.size ≤ H1.size → (∀ q : Nat, q < H.size → ¬ AX q → H1[q]? = H[q]?) → va_S A0 H0 H1 locs1 → H1[q9]? = some ce → ce.vm = .none → s.vm.findClass E = some ce.cls → vx_W p l e R s m args below meth c H1 locs1 (cells + mc) (slots + ms) Q (F0 m pc ls rest) q9)
    (kk : ∀ (r : UInt64) (u : S) (t : State) (H1 : Heap) (locs1 : List Loc), t.heap = H1 → s.vm.Alike t.vm → post r u → B u t → H.size ≤ H1.size → (∀ q : Nat, q < H.size → ¬ A1 q → H1[q]? = H[q]?) → va_S A0 H0 H1 locs1 → W p l e R s m args below meth c H1 locs1 (cells + mc) (slots + ms) Q (F0 m (pc + 5) ls (.double r :: rest))) : W p l e R s m args below meth c H locs cells slots Q (F0 m pc ls st0) := by
  intro T hT X
  rcases hr T hT X with ⟨v, st₀, t, T', L, h0, X', hL, e1, e2, ⟨⟨r, u, hv, hp, hb⟩, hF⟩, st⟩ | ⟨q, st₀, t, T', L, E, ce, h0, X', hL, e1, e2, ⟨u, hp, hb, hF⟩, hce, hcv, hcl, st⟩
  · cases hv
    obtain ⟨k1, k2, k3⟩ := vx_keep h0 e1 hS hA hf hL hF
    obtain ⟨t2, a1, b1⟩ := kk r u t T'.heap (locs ++ L) e1.symm (by rw [← e2]; exact X'.warmed.alike) hp hb k1 k2 k3 T' rfl X'
    exact ⟨t2, st t2 a1, b1⟩
  · obtain ⟨k1, k2, k3⟩ := vx_keep h0 e1 hS hAX hf hL hF
    obtain ⟨t2, a1, b1⟩ := kx E ce q u t T'.heap (locs ++ L) e1.symm (by rw [← e2]; exact X'.warmed.alike) hp hb k1 k2 k3 (by rw [e1]; exact hce) hcv hcl T' rfl X'
    exact ⟨t2, st.trans a1, b1⟩
end
/-! ===== END ===== -/
/-! ===== BEGIN by an interface, a method with a table of its own that may throw (follows va_callIFW, va_runFW) ===== -/
section
variable {p : Program} {l : Launch} {e : Env} {R : Room} {s : State} {m : MethodId} {args : Array Value} {below : List Frame} {meth : Method} {c : Code} {H : Heap} {locs : List Loc} {cells slots : Nat}
theorem vx_callIFW {T : State} (X : Stand p l e R s m args below meth c T locs cells slots) (hexec : p.tables.exec = Jvm.exec) {own C : String} {index count : Nat} {x y : MethodName} {bytes : ByteArray} {maxL : Nat} {ret : Option FieldType} {hh : List (Nat × Nat × Nat × Nat)}
    (hown : s.vm.findClass own = some m.cls) (hlink : (Cond.methodLink own index x).before args s = true) (hdecl : (Cond.declares x).before args s = true) (hface : (Cond.interfaceMethod x.cls x.cls x.name x.desc).before args s = true)
    (hsel : (Cond.selects C x y).before args s = true) (hinst : (Cond.instanceMethod y).before args s = true) (hpub : (Cond.publicMethod y).before args s = true) (hunh : (Cond.unhidden C x.name x.desc).before args s = true)
    (hcast : (Cond.castable C x.cls).before args s = true) (hcode : (Cond.codeWith y bytes maxL ret hh).before args s = true) (hx : x.cls ≠ "java/lang/invoke/MethodHandle" ∧ x.cls ≠ "java/lang/invoke/VarHandle")
    {W : Nat} {Pre : Pt → Array Value → Prop} {Post : Pt → Array Value → Option Value → Pt → Prop} {PostX : Pt → Array Value → Addr → Pt → Prop} (hK : vx_Back l R p e below s args y 5 W Pre Post PostX)
    {b : Addr} {cellB : Cell} {kB : Class} (hcell : T.heap[b]? = some cellB) (hobj : cellB.vm.isStatics = false) (hcls : s.vm.findClass C = some cellB.cls) (hkB : s.vm.classes[cellB.cls]? = some kB)
    {g : JFrame} (hg : g.method = m) (hsize : g.locals.size = c.maxLocals) {argsL rest : List Value} (hlen : ∀ sig, parseMethodDescriptor x.desc = some sig → argsL.length = sig.parameters.length)
    (hstack : g.stack = argsL.reverse ++ .ref b :: rest) (hW : 2 * g.monitorRoom + (rest.map fun v => v.category).sum ≤ W) (hdg : decode c.code g.pc = .ok (.invokeinterface index count, 5))
    (hpre : ∀ vm₁, s.WarmedH vm₁ → Pre ⟨T.setVm vm₁, locs, cells, slots⟩ (Value.ref b :: argsL).toArray) :
    (∃ (v : Option Value) (vm₁ : Vm) (B : Pt), s.WarmedH vm₁ ∧ Stand p l e R s m args below meth c B.U B.locs B.cells B.slots ∧ Post ⟨T.setVm vm₁, locs, cells, slots⟩ (Value.ref b :: argsL).toArray v B ∧
      ∀ target, Steps p.tables e below (B.U.setTop { g with pc := g.pc + 5, stack := v.toList ++ rest }) target → Steps p.tables e below (T.setTop g) target) ∨
    (∃ (q : Addr) (vm₁ : Vm) (B : Pt), s.WarmedH vm₁ ∧ Stand p l e R s m args below meth c B.U B.locs B.cells B.slots ∧ PostX ⟨T.setVm vm₁, locs, cells, slots⟩ (Value.ref b :: argsL).toArray q B ∧
      Steps p.tables e below (T.setTop g) ((B.U.setTop { g with stack := rest }).pushFrame (.throwing q))) := by
  obtain ⟨r0, r, hn, hrm, hstR, hsigR⟩ := Cond.declares_spec hdecl
  obtain ⟨cL, kL, r1, hcL, hkL, hiL, hfoundL, hn1⟩ := Cond.interfaceMethod_spec hface
  cases hn.symm.trans hn1
  have hr0cls : r0.cls = cL := Option.some.inj ((findClass_of_methodNamed hn).symm.trans hcL)
  obtain ⟨hnameR, hdescR⟩ := name_of_methodNamed hn hrm
  obtain ⟨mk, methM, hnamed, hmethM, -, habM⟩ := Cond.instanceMethod_spec hinst
  obtain ⟨c2, r2, m2, q1, q2, q3, q4, -⟩ := Cond.selects_spec hsel
  cases hcls.symm.trans q1
  cases hfoundL.symm.trans q2
  cases hnamed.symm.trans q3
  have hselP : selectMethod e.platform s.vm cellB.cls r0 = .method mk := by rw [Launch.admits_selectMethod X.admits]; exact q4
  have hpubM : hasFlag methM.accessFlags Acc.public_ = true := Cond.publicMethod_spec hnamed hmethM hpub
  have hway : ((cellB.cls :: s.vm.superclasses cellB.cls).any fun k => (declaredIn s.vm r.name r.desc k).any fun (_, z) => z.isPrivate || z.isStatic) = false := by
    rw [hnameR, hdescR]; exact Cond.unhidden_spec hcls hunh
  obtain ⟨c3, t3, w1, w2, w3⟩ := Cond.castable_spec hcast
  cases hcls.symm.trans w1
  cases hcL.symm.trans w2
  obtain ⟨vm₁, X₁, hstep₁⟩ := X.invokeinterface hexec hown hlink hn hrm hstR (by rw [hr0cls]; exact hkL) hiL hx (a := b) (cell := cellB) (kcell := kB) hcell
    (fun z h => by rw [h] at hobj; cases hobj) hkB (by rw [hr0cls]; exact w3) hselP hmethM hway hpubM habM (g := g) hg (argsL := argsL) (rest := rest) (hlen _ hsigR) hstack hdg
  rcases hK m meth c ⟨T.setVm vm₁, locs, cells, slots⟩ { g with stack := rest } (.invokeinterface index count) mk (Value.ref b :: argsL).toArray X₁ hg hsize hdg hW (X₁.named hnamed) (hpre vm₁ X₁.warmed) with ⟨v, B, X', hpost, hsteps⟩ | ⟨q, B, X', hpost, hsteps⟩
  · exact Or.inl ⟨v, vm₁, B, X₁.warmed, X', hpost, fun target h => hstep₁ _ fun acts => by rw [doInvoke_state]; exact hsteps.trans h⟩
  · exact Or.inr ⟨q, vm₁, B, X₁.warmed, X', hpost, hstep₁ _ fun acts => by rw [doInvoke_state]; exact hsteps⟩
theorem vx_runFW {x y : MethodName} {bytes cc : ByteArray} {maxL nL mc ms n index count : Nat} {ret : Option FieldType} {hh : List (Nat × Nat × Nat × Nat)} {ws : List Cond} {rm : Room} {Pc : Array Value → State → Prop} {Qc : Array Value → State → Outcome → State → Prop} {XC : String → State → State → Prop} {free : Addr → Prop} {Ts : List Cond} {own C : String} {cC : ClassId} {b : Addr} {As rest : List Value} {g : JFrame}
    (hat : ClassAt s C cC) (S : CallFix p m c cc nL s args Ts own) (hM : vx_Met l y ws rm Pc Qc XC mc ms free) (cw : va_CIW R s args own C index x y bytes maxL ret hh ws rm mc ms n) (hp : PreV s H C b Pc As)
    (hg : g.method = m) (hn : As.length = n) (hsize : g.locals.size = nL) (hstack : g.stack = As.reverse ++ .ref b :: rest) (hW : 2 * g.monitorRoom + (rest.map fun v => v.category).sum ≤ 8) (hdg : decode cc g.pc = .ok (.invokeinterface index count, 5)) (hf : cells + mc ≤ R.cells ∧ slots + ms ≤ R.slots) :
    vx_Run5 p l e R s m args below meth c H locs cells slots mc ms g rest (Qc (Value.ref b :: As).toArray) XC free := by
  obtain ⟨hrc, hrs, hfr, hlo, hws, hcw⟩ := cw.back
  have hini := cw.init
  have hK : vx_Back l R p e below s args y 5 8 (PreOf R mc ms Pc) (PostOf Qc mc ms free) (vx_Post XC mc ms free) := vx_backW (hh := hh) (bytes := bytes) (maxL := maxL) (ret := ret) hM hp.1 hrc hrs hfr hlo hws hcw (fun a' U hW => word_at hW (Or.inl (by first | rfl | simp [Cond.onTables, Cond.keeps, Cond.steady])) hini)
  obtain ⟨hx, hb, hml, ho, -⟩ := S
  obtain ⟨-, ⟨cellB, hcB, hoB, hclB⟩, hPc⟩ := hp
  obtain ⟨hfc, kB, hkB, -⟩ := hat
  cases hfc.symm.trans hclB
  intro T hT X
  rcases vx_callIFW X hx (C := C) (hh := hh) (bytes := bytes) (maxL := maxL) (ret := ret) ho cw.link cw.decl cw.face cw.sel cw.inst cw.pub cw.unh cw.cast cw.code cw.notMH hK (by rw [hT]; exact hcB) hoB hclB hkB hg (hsize.trans hml.symm) (argsL := As) (rest := rest) (fun sig h => hn.trans (cw.len sig h)) hstack hW (by rw [hb]; exact hdg)
    (fun vm₁ hW₁ => ⟨hf.1, hf.2, hPc (T.setVm vm₁) hT hW₁⟩) with ⟨v, vm₁, ⟨U', l2, c2, s2⟩, hW₁, X', ⟨g', mk, t, L, e1, e2, hq, h1, hL, h2, h3⟩, st⟩ | ⟨q, vm₁, ⟨U', l2, c2, s2⟩, hW₁, X', ⟨g', mk, t, L, E, ce, e1, e2, hq, hce, hcv, hcl, h1, hL, h2, h3⟩, st⟩
  · dsimp only [Pt.U, Pt.locs, Pt.cells, Pt.slots] at X' e1 e2 h1 h2 h3 st
    subst h1; subst h2; subst h3
    exact Or.inl ⟨v, (T.setVm vm₁).calling g' mk (Value.ref b :: As).toArray, t, U', L, hT, X', hL, e1, e2, hq, st⟩
  · dsimp only [Pt.U, Pt.locs, Pt.cells, Pt.slots] at X' e1 e2 h1 h2 h3 st hcl
    subst h1; subst h2; subst h3
    exact Or.inr ⟨q, (T.setVm vm₁).calling g' mk (Value.ref b :: As).toArray, t, U', L, E, ce, hT, X', hL, e1, e2, hq, hce, hcv, vx_cls hW₁ hcl, st⟩
end
/-! ===== END ===== -/
/-! ===== BEGIN .. of methods that hand back an object of the pool ===== -/
section
variable {p : Program} {l : Launch} {e : Env} {R : Room} {s : State} {m : MethodId} {args : Array Value} {below : List Frame} {meth : Method} {c : Code} {H : Heap} {locs : List Loc} {cells slots : Nat} {Q : State → Prop}
variable {mc ms : Nat} {free : Addr → Prop} {A0 A1 : Nat → Prop} {H0 : Heap} {a : Array Value} {pc : Nat} {ls : Array Slot} {st0 rest : List Value}
theorem vx_callq {S SX : Type} {post : Option Nat → S → Prop} {px : SX → Prop} {B : S → State → Prop} {BX : String → SX → State → Prop} {AX : Nat → Prop} (hr : vx_Run p l e R s m args below meth c H locs cells slots mc ms (F0 m pc ls st0) rest (va_Qq post B A1 a) (vx_X px BX AX) free) (hS : va_S A0 H0 H locs) (hA : ∀ q, q < H.size → A1 q → A0 q) (hf : ∀ q, free q → A0 q) (hAX : ∀ q, q < H.size → AX q → A0 q)
    (kx : ∀ (E : String) (ce : Cell) (q9 : Addr) (u : SX) (t : State) (H1 : Heap) (locs1 : List Loc), t.heap = H1 → s.vm.Alike t.vm → px u → BX E u t → H.size ≤ H1.size → (∀ q : Nat, q < H.size → ¬ AX q → H1[q]? = H[q]?) → va_S A0 H0 H1 locs1 → H1[q9]? = some ce → ce.vm = .none → s.vm.findClass E = some ce.cls → vx_W p l e R s m args below meth c H1 locs1 (cells + mc) (slots + ms) Q (F0 m pc ls rest) q9)
    (kk : ∀ (r : Option Nat) (u : S) (t : State) (H1 : Heap) (locs1 : List Loc), t.heap = H1 → s.vm.Alike t.vm → post r u → B u t → H.size ≤ H1.size → (∀ q : Nat, q < H.size → ¬ A1 q → H1[q]? = H[q]?) → va_S A0 H0 H1 locs1 → W p l e R s m args below meth c H1 locs1 (cells + mc) (slots + ms) Q (F0 m (pc + 3) ls (va_rf r :: rest))) : W p l e R s m args below meth c H locs cells slots Q (F0 m pc ls st0) := by
  intro T hT X
  rcases hr T hT X with ⟨v, st₀, t, T', L, h0, X', hL, e1, e2, ⟨⟨r, u, hv, hp, hb⟩, hF⟩, st⟩ | ⟨q, st₀, t, T', L, E, ce, h0, X', hL, e1, e2, ⟨u, hp, hb, hF⟩, hce, hcv, hcl, st⟩
  · cases hv
    obtain ⟨k1, k2, k3⟩ := vx_keep h0 e1 hS hA hf hL hF
    obtain ⟨t2, a1, b1⟩ := kk r u t T'.heap (locs ++ L) e1.symm (by rw [← e2]; exact X'.warmed.alike) hp hb k1 k2 k3 T' rfl X'
    exact ⟨t2, st t2 a1, b1⟩
  · obtain ⟨k1, k2, k3⟩ := vx_keep h0 e1 hS hAX hf hL hF
    obtain ⟨t2, a1, b1⟩ := kx E ce q u t T'.heap (locs ++ L) e1.symm (by rw [← e2]; exact X'.warmed.alike) hp hb k1 k2 k3 (by rw [e1]; exact hce) hcv hcl T' rfl X'
    exact ⟨t2, st.trans a1, b1⟩
end
/-! ===== END ===== -/
/-! ===== BEGIN .. a constant ===== -/
section
variable {p : Program} {l : Launch} {e : Env} {R : Room} {s : State} {m : MethodId} {args : Array Value} {below : List Frame} {meth : Method} {c : Code} {H : Heap} {locs : List Loc} {cells slots : Nat} {Q : State → Prop}
variable {mc ms : Nat} {free : Addr → Prop} {A0 A1 : Nat → Prop} {H0 : Heap} {a : Array Value} {pc : Nat} {ls : Array Slot} {st0 rest : List Value}
theorem vx_calle {ad : Nat → Nat} {S SX : Type} {post : Option Nat → S → Prop} {px : SX → Prop} {B : S → State → Prop} {BX : String → SX → State → Prop} {AX : Nat → Prop} (hr : vx_Run p l e R s m args below meth c H locs cells slots mc ms (F0 m pc ls st0) rest (va_Qe ad post B A1 a) (vx_X px BX AX) free) (hS : va_S A0 H0 H locs) (hA : ∀ q, q < H.size → A1 q → A0 q) (hf : ∀ q, free q → A0 q) (hAX : ∀ q, q < H.size → AX q → A0 q)
    (kx : ∀ (E : String) (ce : Cell) (q9 : Addr) (u : SX) (t : State) (H1 : Heap) (locs1 : List Loc), t.heap = H1 → s.vm.Alike t.vm → px u → BX E u t → H.size ≤ H1.size → (∀ q : Nat, q < H.size → ¬ AX q → H1[q]? = H[q]?) → va_S A0 H0 H1 locs1 → H1[q9]? = some ce → ce.vm = .none → s.vm.findClass E = some ce.cls → vx_W p l e R s m args below meth c H1 locs1 (cells + mc) (slots + ms) Q (F0 m pc ls rest) q9)
    (kk : ∀ (r : Option Nat) (u : S) (t : State) (H1 : Heap) (locs1 : List Loc), t.heap = H1 → s.vm.Alike t.vm → post r u → B u t → H.size ≤ H1.size → (∀ q : Nat, q < H.size → ¬ A1 q → H1[q]? = H[q]?) → va_S A0 H0 H1 locs1 → W p l e R s m args below meth c H1 locs1 (cells + mc) (slots + ms) Q (F0 m (pc + 3) ls (va_re ad r :: rest))) : W p l e R s m args below meth c H locs cells slots Q (F0 m pc ls st0) := by
  intro T hT X
  rcases hr T hT X with ⟨v, st₀, t, T', L, h0, X', hL, e1, e2, ⟨⟨r, u, hv, hp, hb⟩, hF⟩, st⟩ | ⟨q, st₀, t, T', L, E, ce, h0, X', hL, e1, e2, ⟨u, hp, hb, hF⟩, hce, hcv, hcl, st⟩
  · cases hv
    obtain ⟨k1, k2, k3⟩ := vx_keep h0 e1 hS hA hf hL hF
    obtain ⟨t2, a1, b1⟩ := kk r u t T'.heap (locs ++ L) e1.symm (by rw [← e2]; exact X'.warmed.alike) hp hb k1 k2 k3 T' rfl X'
    exact ⟨t2, st t2 a1, b1⟩
  · obtain ⟨k1, k2, k3⟩ := vx_keep h0 e1 hS hAX hf hL hF
    obtain ⟨t2, a1, b1⟩ := kx E ce q u t T'.heap (locs ++ L) e1.symm (by rw [← e2]; exact X'.warmed.alike) hp hb k1 k2 k3 (by rw [e1]; exact hce) hcv hcl T' rfl X'
    exact ⟨t2, st.trans a1, b1⟩
end
/-! ===== END ===== -/
/-! ===== BEGIN .. by an interface, an object ===== -/
section
variable {p : Program} {l : Launch} {e : Env} {R : Room} {s : State} {m : MethodId} {args : Array Value} {below : List Frame} {meth : Method} {c : Code} {H : Heap} {locs : List Loc} {cells slots : Nat} {Q : State → Prop}
variable {mc ms : Nat} {free : Addr → Prop} {A0 A1 : Nat → Prop} {H0 : Heap} {a : Array Value} {pc : Nat} {ls : Array Slot} {st0 rest : List Value}
theorem vx_callFq {S SX : Type} {post : Option Nat → S → Prop} {px : SX → Prop} {B : S → State → Prop} {BX : String → SX → State → Prop} {AX : Nat → Prop} (hr : vx_Run5 p l e R s m args below meth c H locs cells slots mc ms (F0 m pc ls st0) rest (va_Qq post B A1 a) (vx_X px BX AX) free) (hS : va_S A0 H0 H locs) (hA : ∀ q, q < H.size → A1 q → A0 q) (hf : ∀ q, free q → A0 q) (hAX : ∀ q, q < H.size → AX q → A0 q)
    (kx : ∀ (E : String) (ce : Cell) (q9 : Addr) (u : SX) (t : State) (H1 : Heap) (locs1 : List Loc), t.heap = H1 → s.vm.Alike t.vm → px u → BX E u t → H.size ≤ H1.size → (∀ q : Nat, q < H.size → ¬ AX q → H1[q]? = H[q]?) → va_S A0 H0 H1 locs1 → H1[q9]? = some ce → ce.vm = .none → s.vm.findClass E = some ce.cls → vx_W p l e R s m args below meth c H1 locs1 (cells + mc) (slots + ms) Q (F0 m pc ls rest) q9)
    (kk : ∀ (r : Option Nat) (u : S) (t : State) (H1 : Heap) (locs1 : List Loc), t.heap = H1 → s.vm.Alike t.vm → post r u → B u t → H.size ≤ H1.size → (∀ q : Nat, q < H.size → ¬ A1 q → H1[q]? = H[q]?) → va_S A0 H0 H1 locs1 → W p l e R s m args below meth c H1 locs1 (cells + mc) (slots + ms) Q (F0 m (pc + 5) ls (va_rf r :: rest))) : W p l e R s m args below meth c H locs cells slots Q (F0 m pc ls st0) := by
  intro T hT X
  rcases hr T hT X with ⟨v, st₀, t, T', L, h0, X', hL, e1, e2, ⟨⟨r, u, hv, hp, hb⟩, hF⟩, st⟩ | ⟨q, st₀, t, T', L, E, ce, h0, X', hL, e1, e2, ⟨u, hp, hb, hF⟩, hce, hcv, hcl, st⟩
  · cases hv
    obtain ⟨k1, k2, k3⟩ := vx_keep h0 e1 hS hA hf hL hF
    obtain ⟨t2, a1, b1⟩ := kk r u t T'.heap (locs ++ L) e1.symm (by rw [← e2]; exact X'.warmed.alike) hp hb k1 k2 k3 T' rfl X'
    exact ⟨t2, st t2 a1, b1⟩
  · obtain ⟨k1, k2, k3⟩ := vx_keep h0 e1 hS hAX hf hL hF
    obtain ⟨t2, a1, b1⟩ := kx E ce q u t T'.heap (locs ++ L) e1.symm (by rw [← e2]; exact X'.warmed.alike) hp hb k1 k2 k3 (by rw [e1]; exact hce) hcv hcl T' rfl X'
    exact ⟨t2, st.trans a1, b1⟩
end
/-! ===== END ===== -/
/-! ===== BEGIN .. by an interface, a constant ===== -/
section
variable {p : Program} {l : Launch} {e : Env} {R : Room} {s : State} {m : MethodId} {args : Array Value} {below : List Frame} {meth : Method} {c : Code} {H : Heap} {locs : List Loc} {cells slots : Nat} {Q : State → Prop}
variable {mc ms : Nat} {free : Addr → Prop} {A0 A1 : Nat → Prop} {H0 : Heap} {a : Array Value} {pc : Nat} {ls : Array Slot} {st0 rest : List Value}
theorem vx_callFe {ad : Nat → Nat} {S SX : Type} {post : Option Nat → S → Prop} {px : SX → Prop} {B : S → State → Prop} {BX : String → SX → State → Prop} {AX : Nat → Prop} (hr : vx_Run5 p l e R s m args below meth c H locs cells slots mc ms (F0 m pc ls st0) rest (va_Qe ad post B A1 a) (vx_X px BX AX) free) (hS : va_S A0 H0 H locs) (hA : ∀ q, q < H.size → A1 q → A0 q) (hf : ∀ q, free q → A0 q) (hAX : ∀ q, q < H.size → AX q → A0 q)
    (kx : ∀ (E : String) (ce : Cell) (q9 : Addr) (u : SX) (t : State) (H1 : Heap) (locs1 : List Loc), t.heap = H1 → s.vm.Alike t.vm → px u → BX E u t → H.size ≤ H1.size → (∀ q : Nat, q < H.size → ¬ AX q → H1[q]? = H[q]?) → va_S A0 H0 H1 locs1 → H1[q9]? = some ce → ce.vm = .none → s.vm.findClass E = some ce.cls → vx_W p l e R s m args below meth c H1 locs1 (cells + mc) (slots + ms) Q (F0 m pc ls rest) q9)
    (kk : ∀ (r : Option Nat) (u : S) (t : State) (H1 : Heap) (locs1 : List Loc), t.heap = H1 → s.vm.Alike t.vm → post r u → B u t → H.size ≤ H1.size → (∀ q : Nat, q < H.size → ¬ A1 q → H1[q]? = H[q]?) → va_S A0 H0 H1 locs1 → W p l e R s m args below meth c H1 locs1 (cells + mc) (slots + ms) Q (F0 m (pc + 5) ls (va_re ad r :: rest))) : W p l e R s m args below meth c H locs cells slots Q (F0 m pc ls st0) := by
  intro T hT X
  rcases hr T hT X with ⟨v, st₀, t, T', L, h0, X', hL, e1, e2, ⟨⟨r, u, hv, hp, hb⟩, hF⟩, st⟩ | ⟨q, st₀, t, T', L, E, ce, h0, X', hL, e1, e2, ⟨u, hp, hb, hF⟩, hce, hcv, hcl, st⟩
  · cases hv
    obtain ⟨k1, k2, k3⟩ := vx_keep h0 e1 hS hA hf hL hF
    obtain ⟨t2, a1, b1⟩ := kk r u t T'.heap (locs ++ L) e1.symm (by rw [← e2]; exact X'.warmed.alike) hp hb k1 k2 k3 T' rfl X'
    exact ⟨t2, st t2 a1, b1⟩
  · obtain ⟨k1, k2, k3⟩ := vx_keep h0 e1 hS hAX hf hL hF
    obtain ⟨t2, a1, b1⟩ := kx E ce q u t T'.heap (locs ++ L) e1.symm (by rw [← e2]; exact X'.warmed.alike) hp hb k1 k2 k3 (by rw [e1]; exact hce) hcv hcl T' rfl X'
    exact ⟨t2, st.trans a1, b1⟩
end
/-! ===== END ===== -/
/-! ===== BEGIN what the machine throws by itself: null at a field, at athrow ===== -/
section VXM2
variable {p : Program} {l : Launch} {e : Env} {R : Room} {s : State} {m : MethodId} {args : Array Value} {below : List Frame} {meth : Method} {c : Code} {H : Heap} {locs : List Loc} {cells slots : Nat}
variable {Q : State → Prop} {cc : ByteArray} {pc : Nat} {ls : Array Slot} {rest : List Value}
theorem vx_getfN {D cl tys} {own ref C : String} {T : u_T} {N ci index : Nat} {Ts : List Cond} (hexec : p.tables.exec = Jvm.exec) (hb : c.code = cc) (hts : ∀ w ∈ Ts, w.before args s = true) (hin : ∀ w ∈ u_ws C T N, w ∈ Ts) (hown : s.vm.findClass own = some m.cls) (hK : va_K D cl tys s) (hc : cl[ci]? = some (C, T, N)) (k : Nat) (hk : k < N) (hlink : (Cond.fieldLink own index ref (T k).2.1 (T k).2.2.1).before args s = true) (hsame : ∀ x, s.fieldFound? (T k).1 (T k).2.1 (T k).2.2.1 = some x → s.fieldFound? ref (T k).2.1 (T k).2.2.1 = some x) (hdg : decode cc pc = .ok (.getfield index, 3)) (kk : vx_NoteN p l e R s m args below meth c H locs cells slots Q (F0 m pc ls rest)) : W p l e R s m args below meth c H locs cells slots Q (F0 m pc ls (.null :: rest)) := by
  obtain ⟨hS, hfc, kC, hkC, -⟩ := hK.1 ci _ hc
  obtain ⟨cf, kf, fi, f, hi, -⟩ := hS k hk
  intro U hU X
  obtain ⟨vm', X1, st1⟩ := X.getfieldNull hexec hown hlink (hsame _ hi) (u_facts hfc hkC (u_lays hts hin hk) hi).1 (g := F0 m pc ls (.null :: rest)) rfl (rest := rest) rfl (by rw [hb]; exact hdg)
  obtain ⟨t, st, q⟩ := kk (U.setVm vm') hU X1
  exact ⟨t, st1 t st, q⟩
theorem vx_getfNN {D cl tys} {own ref C host : String} {T : u_T} {N ci index : Nat} {Ts : List Cond} (hexec : p.tables.exec = Jvm.exec) (hb : c.code = cc) (hts : ∀ w ∈ Ts, w.before args s = true) (hin : ∀ w ∈ u_ws C T N, w ∈ Ts) (hown : s.vm.findClass own = some m.cls) (hK : va_K D cl tys s) (hc : cl[ci]? = some (C, T, N)) (k : Nat) (hk : k < N) (hlink : (Cond.fieldLinkNest own index ref (T k).2.1 (T k).2.2.1 host).before args s = true) (hsame : ∀ x, s.fieldFound? (T k).1 (T k).2.1 (T k).2.2.1 = some x → s.fieldFound? ref (T k).2.1 (T k).2.2.1 = some x) (hdg : decode cc pc = .ok (.getfield index, 3)) (kk : vx_NoteN p l e R s m args below meth c H locs cells slots Q (F0 m pc ls rest)) : W p l e R s m args below meth c H locs cells slots Q (F0 m pc ls (.null :: rest)) := by
  obtain ⟨hS, hfc, kC, hkC, -⟩ := hK.1 ci _ hc
  obtain ⟨cf, kf, fi, f, hi, -⟩ := hS k hk
  intro U hU X
  obtain ⟨vm', X1, st1⟩ := X.getfieldNullNest hexec hown hlink (hsame _ hi) (u_facts hfc hkC (u_lays hts hin hk) hi).1 (g := F0 m pc ls (.null :: rest)) rfl (rest := rest) rfl (by rw [hb]; exact hdg)
  obtain ⟨t, st, q⟩ := kk (U.setVm vm') hU X1
  exact ⟨t, st1 t st, q⟩
theorem vx_putfN {D cl tys} {own ref C : String} {T : u_T} {N ci index : Nat} {Ts : List Cond} (hexec : p.tables.exec = Jvm.exec) (hb : c.code = cc) (hts : ∀ w ∈ Ts, w.before args s = true) (hin : ∀ w ∈ u_ws C T N, w ∈ Ts) (hown : s.vm.findClass own = some m.cls) (hK : va_K D cl tys s) (hc : cl[ci]? = some (C, T, N)) (k : Nat) (hk : k < N) (hlink : (Cond.fieldLink own index ref (T k).2.1 (T k).2.2.1).before args s = true) (hsame : ∀ x, s.fieldFound? (T k).1 (T k).2.1 (T k).2.2.1 = some x → s.fieldFound? ref (T k).2.1 (T k).2.2.1 = some x) (hfin : (T k).2.2.2 = false) {v : Value} (hdg : decode cc pc = .ok (.putfield index, 3)) (kk : vx_NoteN p l e R s m args below meth c H locs cells slots Q (F0 m pc ls rest)) : W p l e R s m args below meth c H locs cells slots Q (F0 m pc ls (v :: .null :: rest)) := by
  obtain ⟨hS, hfc, kC, hkC, -⟩ := hK.1 ci _ hc
  obtain ⟨cf, kf, fi, f, hi, -⟩ := hS k hk
  have hlay := hts _ (hin _ (u_in_lay hk))
  unfold u_lay at hlay
  rw [if_neg (by rw [hfin]; decide)] at hlay
  obtain ⟨c9, k9, cf9, kf9, fi9, f9, -, -, hi9, hst9, hnf9, -⟩ := Cond.lays_spec hlay
  cases hi.symm.trans hi9
  intro U hU X
  obtain ⟨vm', X1, st1⟩ := X.putfieldNull hexec hown hlink (hsame _ hi) hst9 hnf9 (g := F0 m pc ls (v :: .null :: rest)) rfl (v := v) (rest := rest) rfl (by rw [hb]; exact hdg)
  obtain ⟨t, st, q⟩ := kk (U.setVm vm') hU X1
  exact ⟨t, st1 t st, q⟩
theorem vx_putfNN {D cl tys} {own ref C host : String} {T : u_T} {N ci index : Nat} {Ts : List Cond} (hexec : p.tables.exec = Jvm.exec) (hb : c.code = cc) (hts : ∀ w ∈ Ts, w.before args s = true) (hin : ∀ w ∈ u_ws C T N, w ∈ Ts) (hown : s.vm.findClass own = some m.cls) (hK : va_K D cl tys s) (hc : cl[ci]? = some (C, T, N)) (k : Nat) (hk : k < N) (hlink : (Cond.fieldLinkNest own index ref (T k).2.1 (T k).2.2.1 host).before args s = true) (hsame : ∀ x, s.fieldFound? (T k).1 (T k).2.1 (T k).2.2.1 = some x → s.fieldFound? ref (T k).2.1 (T k).2.2.1 = some x) (hfin : (T k).2.2.2 = false) {v : Value} (hdg : decode cc pc = .ok (.putfield index, 3)) (kk : vx_NoteN p l e R s m args below meth c H locs cells slots Q (F0 m pc ls rest)) : W p l e R s m args below meth c H locs cells slots Q (F0 m pc ls (v :: .null :: rest)) := by
  obtain ⟨hS, hfc, kC, hkC, -⟩ := hK.1 ci _ hc
  obtain ⟨cf, kf, fi, f, hi, -⟩ := hS k hk
  have hlay := hts _ (hin _ (u_in_lay hk))
  unfold u_lay at hlay
  rw [if_neg (by rw [hfin]; decide)] at hlay
  obtain ⟨c9, k9, cf9, kf9, fi9, f9, -, -, hi9, hst9, hnf9, -⟩ := Cond.lays_spec hlay
  cases hi.symm.trans hi9
  intro U hU X
  obtain ⟨vm', X1, st1⟩ := X.putfieldNullNest hexec hown hlink (hsame _ hi) hst9 hnf9 (g := F0 m pc ls (v :: .null :: rest)) rfl (v := v) (rest := rest) rfl (by rw [hb]; exact hdg)
  obtain ⟨t, st, q⟩ := kk (U.setVm vm') hU X1
  exact ⟨t, st1 t st, q⟩
theorem vx_athrowN (hexec : p.tables.exec = Jvm.exec) (hb : c.code = cc) (hdg : decode cc pc = .ok (.athrow, 1)) (k : vx_NoteN p l e R s m args below meth c H locs cells slots Q (F0 m pc ls rest)) : W p l e R s m args below meth c H locs cells slots Q (F0 m pc ls (.null :: rest)) := by
  intro T hT X
  obtain ⟨t, st, q⟩ := k T hT X
  exact ⟨t, X.athrowNull hexec (g := F0 m pc ls (.null :: rest)) rfl (rest := rest) rfl (by rw [hb]; exact hdg) t st, q⟩
end VXM2
/-! ===== END ===== -/
end
section
/-! names, by program (wip/whole/gen_names.py) -/
def TB : List Cond := lw_tbl.filter goodWord
def tbl (k : Nat) : List Cond := match k with | 1 => k2_sels lw_privs_1 | 2 => k2_sels lw_privs_2 | 3 => k2_sels lw_privs_3 | 4 => k2_sels lw_privs_4 | 5 => k2_sels lw_privs_5 | 6 => k2_sels lw_privs_6 | 7 => k2_sels lw_privs_7 | 8 => k2_sels lw_privs_8 | 9 => k2_sels lw_privs_9 | 11 => tables_1_1 | 12 => tables_1_2 | 13 => tables_1_3 | 14 => tables_1_4 | 15 => tables_1_5 | 16 => tables_1_6 | 17 => tables_1_7 | 18 => tables_1_8 | 19 => tables_1_9 | 20 => tables_1_10 | _ => []
theorem tbl_in {k : Nat} {w : Cond} (h : w ∈ tbl k) : w ∈ lw_tbl := by
  unfold tbl at h
  unfold lw_tbl tables_1 lw_privs k2_sels
  split at h <;> (first | exact absurd h List.not_mem_nil | (unfold k2_sels at h; simp only [List.map_append, List.mem_append]; simp only [h, true_or, or_true]) | (simp only [List.map_append, List.mem_append]; simp only [h, true_or, or_true]))
def tbAt (q : Nat × Cond) : Bool := decide ((tbl (q.1 / 1000))[q.1 % 1000]? = some q.2) && goodWord q.2
theorem tb_of {i : Nat} {w : Cond} (h : tbAt (i, w) = true) : w ∈ TB := by
  simp only [tbAt, Bool.and_eq_true, decide_eq_true_eq] at h
  exact List.mem_filter.mpr ⟨tbl_in (List.mem_of_getElem? h.1), h.2⟩
def isNw : Cond → Bool
  | .fieldLinkNest _ _ _ _ _ _ => true
  | .methodLinkNest _ _ _ _ => true
  | .declares _ => true
  | .castable _ _ => true
  | _ => false
def NW : List Cond := lw_tbl.filter isNw
def nwAt (q : Nat × Cond) : Bool := decide ((tbl (q.1 / 1000))[q.1 % 1000]? = some q.2) && isNw q.2
theorem nw_of {i : Nat} {w : Cond} (h : nwAt (i, w) = true) : w ∈ NW := by
  simp only [nwAt, Bool.and_eq_true, decide_eq_true_eq] at h
  exact List.mem_filter.mpr ⟨tbl_in (List.mem_of_getElem? h.1), h.2⟩
def cT0 : u_T := fun k => match k with
  | 0 => ("SaidOnce$Law", "lines", "I", false)
  | 1 => ("SaidOnce$Law", "kinds", "[I", true)
  | 2 => ("SaidOnce$Law", "amounts", "[I", true)
  | 3 => ("SaidOnce$Law", "ends", "[I", true)
  | 4 => ("SaidOnce$Law", "code", "[I", true)
  | 5 => ("SaidOnce$Law", "codeLength", "I", false)
  | 6 => ("SaidOnce$Law", "given", "[I", true)
  | 7 => ("SaidOnce$Law", "stack", "[I", true)
  | 8 => ("SaidOnce$Law", "farther", "I", false)
  | _ => ("SaidOnce$Law", "shift", "I", false)
theorem cI0 : ∀ k, k < 10 → tbAt (([11223, 11225, 11227, 11229, 11231, 11233, 11235, 11237, 11239, 12001] : List Nat).getD k 0, u_lay "SaidOnce$Law" cT0 k) = true := by decide +kernel
def cT1 : u_T := fun k => match k with
  | 0 => ("SaidOnce$LineReader", "tape", "LSaidOnce$Tape;", true)
  | 1 => ("SaidOnce$LawReader", "law", "LSaidOnce$Law;", true)
  | 2 => ("SaidOnce$LawReader", "waiting", "[I", true)
  | 3 => ("SaidOnce$LawReader", "waitingCount", "I", false)
  | 4 => ("SaidOnce$LawReader", "depth", "I", false)
  | _ => ("SaidOnce$LawReader", "brackets", "I", false)
theorem cI1 : ∀ k, k < 6 → tbAt (([12159, 12149, 12151, 12153, 12155, 12157] : List Nat).getD k 0, u_lay "SaidOnce$LawReader" cT1 k) = true := by decide +kernel
def cT2 : u_T := fun k => match k with
  | 0 => ("SaidOnce$Log", "days", "[I", true)
  | 1 => ("SaidOnce$Log", "speakers", "[I", true)
  | 2 => ("SaidOnce$Log", "sayings", "[I", true)
  | 3 => ("SaidOnce$Log", "learners", "[I", true)
  | 4 => ("SaidOnce$Log", "learnt", "[J", true)
  | _ => ("SaidOnce$Log", "stammered", "[Z", true)
theorem cI2 : ∀ k, k < 6 → tbAt (([12027, 12029, 12031, 12033, 12035, 12037] : List Nat).getD k 0, u_lay "SaidOnce$Log" cT2 k) = true := by decide +kernel
def cT3 : u_T := fun k => match k with
  | 0 => ("SaidOnce$Planner", "school", "LSaidOnce$School;", true)
  | 1 => ("SaidOnce$Planner", "right", "[I", true)
  | 2 => ("SaidOnce$Planner", "reached", "[J", true)
  | 3 => ("SaidOnce$Planner", "left", "I", false)
  | 4 => ("SaidOnce$Planner", "all", "I", false)
  | _ => ("SaidOnce$Planner", "first", "I", false)
theorem cI3 : ∀ k, k < 6 → tbAt (([12082, 12084, 12086, 12088, 12090, 12092] : List Nat).getD k 0, u_lay "SaidOnce$Planner" cT3 k) = true := by decide +kernel
def cT4 : u_T := fun k => match k with
  | 0 => ("SaidOnce$School", "setup", "LSaidOnce$Setup;", true)
  | 1 => ("SaidOnce$School", "state", "LSaidOnce$State;", true)
  | 2 => ("SaidOnce$School", "law", "LSaidOnce$Law;", true)
  | 3 => ("SaidOnce$School", "log", "LSaidOnce$Log;", true)
  | 4 => ("SaidOnce$School", "held", "LSaidOnce$State;", true)
  | _ => ("SaidOnce$School", "minds", "[I", true)
theorem cI4 : ∀ k, k < 6 → tbAt (([12057, 12059, 12061, 12063, 12065, 12067] : List Nat).getD k 0, u_lay "SaidOnce$School" cT4 k) = true := by decide +kernel
def cT5 : u_T := fun k => match k with
  | 0 => ("SaidOnce$LineReader", "tape", "LSaidOnce$Tape;", true)
  | 1 => ("SaidOnce$SchoolReader", "setup", "LSaidOnce$Setup;", true)
  | _ => ("SaidOnce$SchoolReader", "state", "LSaidOnce$State;", true)
theorem cI5 : ∀ k, k < 3 → tbAt (([12132, 12128, 12130] : List Nat).getD k 0, u_lay "SaidOnce$SchoolReader" cT5 k) = true := by decide +kernel
def cT6 : u_T := fun k => match k with
  | 0 => ("SaidOnce$Search", "school", "LSaidOnce$School;", true)
  | _ => ("SaidOnce$Search", "heardFrom", "[I", true)
theorem cI6 : ∀ k, k < 2 → tbAt (([12103, 12105] : List Nat).getD k 0, u_lay "SaidOnce$Search" cT6 k) = true := by decide +kernel
def cT7 : u_T := fun k => match k with
  | 0 => ("SaidOnce$Setup", "things", "I", false)
  | 1 => ("SaidOnce$Setup", "wordings", "[I", true)
  | 2 => ("SaidOnce$Setup", "people", "I", false)
  | 3 => ("SaidOnce$Setup", "ears", "[I", true)
  | 4 => ("SaidOnce$Setup", "stammers", "[I", true)
  | 5 => ("SaidOnce$Setup", "rules", "I", false)
  | 6 => ("SaidOnce$Setup", "firsts", "[I", true)
  | 7 => ("SaidOnce$Setup", "seconds", "[I", true)
  | 8 => ("SaidOnce$Setup", "thirds", "[I", true)
  | 9 => ("SaidOnce$Setup", "loud", "I", false)
  | _ => ("SaidOnce$Setup", "texts", "I", false)
theorem cI7 : ∀ k, k < 11 → tbAt (([11130, 11132, 11134, 11136, 11138, 11140, 11142, 11144, 11146, 11148, 11150] : List Nat).getD k 0, u_lay "SaidOnce$Setup" cT7 k) = true := by decide +kernel
def cT8 : u_T := fun k => match k with
  | 0 => ("SaidOnce$State", "store", "J", false)
  | 1 => ("SaidOnce$State", "knows", "[I", true)
  | 2 => ("SaidOnce$State", "xs", "[I", true)
  | 3 => ("SaidOnce$State", "ys", "[I", true)
  | 4 => ("SaidOnce$State", "absent", "I", false)
  | 5 => ("SaidOnce$State", "day", "I", false)
  | 6 => ("SaidOnce$State", "seed", "I", false)
  | _ => ("SaidOnce$State", "rows", "I", false)
theorem cI8 : ∀ k, k < 8 → tbAt (([11187, 11189, 11191, 11193, 11195, 11197, 11199, 11201] : List Nat).getD k 0, u_lay "SaidOnce$State" cT8 k) = true := by decide +kernel
def cT9 : u_T := fun k => match k with
  | 0 => ("SaidOnce$Tape", "bytes", "[B", true)
  | 1 => ("SaidOnce$Tape", "length", "I", false)
  | 2 => ("SaidOnce$Tape", "fault", "I", false)
  | 3 => ("SaidOnce$Tape", "kind", "I", false)
  | 4 => ("SaidOnce$Tape", "start", "I", false)
  | 5 => ("SaidOnce$Tape", "stop", "I", false)
  | _ => ("SaidOnce$Tape", "number", "I", false)
theorem cI9 : ∀ k, k < 7 → tbAt (([11059, 11061, 11063, 11065, 11067, 11069, 11071] : List Nat).getD k 0, u_lay "SaidOnce$Tape" cT9 k) = true := by decide +kernel
def cT10 : u_T := fun k => match k with
  | 0 => ("SaidOnce", "tape", "LSaidOnce$Tape;", true)
  | 1 => ("SaidOnce", "now", "LSaidOnce$School;", true)
  | 2 => ("SaidOnce", "pictured", "LSaidOnce$School;", true)
  | 3 => ("SaidOnce", "planner", "LSaidOnce$Planner;", true)
  | 4 => ("SaidOnce", "search", "LSaidOnce$Search;", true)
  | 5 => ("SaidOnce", "schoolReader", "LSaidOnce$SchoolReader;", true)
  | 6 => ("SaidOnce", "lawReader", "LSaidOnce$LawReader;", true)
  | 7 => ("SaidOnce", "past", "[LSaidOnce$State;", true)
  | 8 => ("SaidOnce", "remembered", "I", false)
  | _ => ("SaidOnce", "imaged", "Z", false)
theorem cI10 : ∀ k, k < 10 → tbAt (([12174, 12176, 12178, 12180, 12182, 12184, 12186, 12188, 12190, 12192] : List Nat).getD k 0, u_lay "SaidOnce" cT10 k) = true := by decide +kernel
def cT11 : u_T := fun k => match k with
  | 0 => ("SaidOnceModel", "thrown", "I", false)
  | 1 => ("SaidOnceModel", "world", "[I", true)
  | 2 => ("SaidOnceModel", "image", "[I", true)
  | 3 => ("SaidOnceModel", "before", "[I", true)
  | 4 => ("SaidOnceModel", "trial", "[I", true)
  | 5 => ("SaidOnceModel", "acts", "[I", true)
  | 6 => ("SaidOnceModel", "store", "J", false)
  | 7 => ("SaidOnceModel", "imageStore", "J", false)
  | 8 => ("SaidOnceModel", "beforeStore", "J", false)
  | 9 => ("SaidOnceModel", "trialStore", "J", false)
  | 10 => ("SaidOnceModel", "actsStore", "[J", true)
  | 11 => ("SaidOnceModel", "hasImage", "Z", false)
  | 12 => ("SaidOnceModel", "remembered", "I", false)
  | 13 => ("SaidOnceModel", "tape", "[B", true)
  | 14 => ("SaidOnceModel", "taped", "I", false)
  | 15 => ("SaidOnceModel", "point", "I", false)
  | 16 => ("SaidOnceModel", "end", "I", false)
  | 17 => ("SaidOnceModel", "begin", "I", false)
  | 18 => ("SaidOnceModel", "deep", "I", false)
  | 19 => ("SaidOnceModel", "faultAt", "I", false)
  | 20 => ("SaidOnceModel", "five", "[I", true)
  | 21 => ("SaidOnceModel", "steps", "I", false)
  | 22 => ("SaidOnceModel", "value", "[I", true)
  | 23 => ("SaidOnceModel", "taken", "[I", true)
  | 24 => ("SaidOnceModel", "right", "[I", true)
  | 25 => ("SaidOnceModel", "fewest", "[B", true)
  | _ => ("SaidOnceModel", "teaches", "[I", true)
theorem cI11 : ∀ k, k < 27 → tbAt (([17096, 17098, 17100, 17102, 17104, 17106, 17108, 17110, 17112, 17114, 17116, 17118, 17120, 17122, 17124, 17126, 17128, 17130, 17132, 17134, 17136, 17138, 17140, 17142, 17144, 17146, 17148] : List Nat).getD k 0, u_lay "SaidOnceModel" cT11 k) = true := by decide +kernel
abbrev cls : List vw_C := [("SaidOnce$Law", cT0, 10), ("SaidOnce$LawReader", cT1, 6), ("SaidOnce$Log", cT2, 6), ("SaidOnce$Planner", cT3, 6), ("SaidOnce$School", cT4, 6), ("SaidOnce$SchoolReader", cT5, 3), ("SaidOnce$Search", cT6, 2), ("SaidOnce$Setup", cT7, 11), ("SaidOnce$State", cT8, 8), ("SaidOnce$Tape", cT9, 7), ("SaidOnce", cT10, 10), ("SaidOnceModel", cT11, 27)]
def cTy (T : u_T) (k : Nat) : FieldType := (parseFieldDescriptor (T k).2.2.1).getD .int
theorem cN0 : (∀ k, k < 10 → parseFieldDescriptor (cT0 k).2.2.1 = some (cTy cT0 k)) ∧ ∀ a, a < 10 → ∀ b, b < 10 → a ≠ b → (cT0 a).2.1 ≠ (cT0 b).2.1 := by decide +kernel
theorem cN1 : (∀ k, k < 6 → parseFieldDescriptor (cT1 k).2.2.1 = some (cTy cT1 k)) ∧ ∀ a, a < 6 → ∀ b, b < 6 → a ≠ b → (cT1 a).2.1 ≠ (cT1 b).2.1 := by decide +kernel
theorem cN2 : (∀ k, k < 6 → parseFieldDescriptor (cT2 k).2.2.1 = some (cTy cT2 k)) ∧ ∀ a, a < 6 → ∀ b, b < 6 → a ≠ b → (cT2 a).2.1 ≠ (cT2 b).2.1 := by decide +kernel
theorem cN3 : (∀ k, k < 6 → parseFieldDescriptor (cT3 k).2.2.1 = some (cTy cT3 k)) ∧ ∀ a, a < 6 → ∀ b, b < 6 → a ≠ b → (cT3 a).2.1 ≠ (cT3 b).2.1 := by decide +kernel
theorem cN4 : (∀ k, k < 6 → parseFieldDescriptor (cT4 k).2.2.1 = some (cTy cT4 k)) ∧ ∀ a, a < 6 → ∀ b, b < 6 → a ≠ b → (cT4 a).2.1 ≠ (cT4 b).2.1 := by decide +kernel
theorem cN5 : (∀ k, k < 3 → parseFieldDescriptor (cT5 k).2.2.1 = some (cTy cT5 k)) ∧ ∀ a, a < 3 → ∀ b, b < 3 → a ≠ b → (cT5 a).2.1 ≠ (cT5 b).2.1 := by decide +kernel
theorem cN6 : (∀ k, k < 2 → parseFieldDescriptor (cT6 k).2.2.1 = some (cTy cT6 k)) ∧ ∀ a, a < 2 → ∀ b, b < 2 → a ≠ b → (cT6 a).2.1 ≠ (cT6 b).2.1 := by decide +kernel
theorem cN7 : (∀ k, k < 11 → parseFieldDescriptor (cT7 k).2.2.1 = some (cTy cT7 k)) ∧ ∀ a, a < 11 → ∀ b, b < 11 → a ≠ b → (cT7 a).2.1 ≠ (cT7 b).2.1 := by decide +kernel
theorem cN8 : (∀ k, k < 8 → parseFieldDescriptor (cT8 k).2.2.1 = some (cTy cT8 k)) ∧ ∀ a, a < 8 → ∀ b, b < 8 → a ≠ b → (cT8 a).2.1 ≠ (cT8 b).2.1 := by decide +kernel
theorem cN9 : (∀ k, k < 7 → parseFieldDescriptor (cT9 k).2.2.1 = some (cTy cT9 k)) ∧ ∀ a, a < 7 → ∀ b, b < 7 → a ≠ b → (cT9 a).2.1 ≠ (cT9 b).2.1 := by decide +kernel
theorem cN10 : (∀ k, k < 10 → parseFieldDescriptor (cT10 k).2.2.1 = some (cTy cT10 k)) ∧ ∀ a, a < 10 → ∀ b, b < 10 → a ≠ b → (cT10 a).2.1 ≠ (cT10 b).2.1 := by decide +kernel
theorem cN11 : (∀ k, k < 27 → parseFieldDescriptor (cT11 k).2.2.1 = some (cTy cT11 k)) ∧ ∀ a, a < 27 → ∀ b, b < 27 → a ≠ b → (cT11 a).2.1 ≠ (cT11 b).2.1 := by decide +kernel
/-- what is said of a class of the list -/
def clsOK (q : vw_C) : Prop := (∀ w ∈ u_ws q.1 q.2.1 q.2.2, w ∈ TB) ∧ (∀ k, k < q.2.2 → parseFieldDescriptor (q.2.1 k).2.2.1 = some (cTy q.2.1 k)) ∧ ∀ a, a < q.2.2 → ∀ b, b < q.2.2 → a ≠ b → (q.2.1 a).2.1 ≠ (q.2.1 b).2.1
theorem cls_w {C : String} {T : u_T} {N : Nat} {l : List Nat} (h : ∀ k, k < N → tbAt (l.getD k 0, u_lay C T k) = true) : ∀ w ∈ u_ws C T N, w ∈ TB := by
  intro w hw
  obtain ⟨k, hk, rfl⟩ := List.mem_map.mp hw
  exact tb_of (h k (List.mem_range.mp hk))
theorem cls_ok {k : Nat} {q : vw_C} (h : cls[k]? = some q) : clsOK q := by
  match k, h with
  | 0, h => cases h; exact ⟨cls_w cI0, cN0⟩
  | 1, h => cases h; exact ⟨cls_w cI1, cN1⟩
  | 2, h => cases h; exact ⟨cls_w cI2, cN2⟩
  | 3, h => cases h; exact ⟨cls_w cI3, cN3⟩
  | 4, h => cases h; exact ⟨cls_w cI4, cN4⟩
  | 5, h => cases h; exact ⟨cls_w cI5, cN5⟩
  | 6, h => cases h; exact ⟨cls_w cI6, cN6⟩
  | 7, h => cases h; exact ⟨cls_w cI7, cN7⟩
  | 8, h => cases h; exact ⟨cls_w cI8, cN8⟩
  | 9, h => cases h; exact ⟨cls_w cI9, cN9⟩
  | 10, h => cases h; exact ⟨cls_w cI10, cN10⟩
  | 11, h => cases h; exact ⟨cls_w cI11, cN11⟩
  | k + 12, h => simp [cls] at h
/-- field kinds: 0 int, 1 long, 3 boolean, 4 reference -/
def FT : List (List Nat) := [[0, 4, 4, 4, 4, 0, 4, 4, 0, 0], [4, 4, 4, 0, 0, 0], [4, 4, 4, 4, 4, 4], [4, 4, 4, 0, 0, 0], [4, 4, 4, 4, 4, 4], [4, 4, 4], [4, 4], [0, 4, 0, 4, 4, 0, 4, 4, 4, 0, 0], [1, 4, 4, 4, 0, 0, 0, 0], [4, 0, 0, 0, 0, 0, 0], [4, 4, 4, 4, 4, 4, 4, 4, 0, 3], [0, 4, 4, 4, 4, 4, 1, 1, 1, 1, 4, 3, 0, 4, 0, 0, 0, 0, 0, 0, 4, 0, 4, 4, 4, 4, 4]]
def ftc (ci j : Nat) : Nat := (FT.getD ci []).getD j 0
/-- shapes: an object (its class, its number of fields), an array (100 and its kind, its length) -/
def SH : List (List (Nat × Nat)) := [[(10, 10), (9, 7), (102, 400), (4, 6), (7, 11), (100, 10), (100, 10), (100, 10), (100, 12), (100, 12), (100, 12), (8, 8), (100, 10), (100, 10), (100, 10), (0, 10)], [(100, 12), (100, 12), (100, 12), (100, 400), (100, 8), (100, 32), (2, 6), (100, 60), (100, 60), (100, 60), (100, 60), (101, 60), (103, 60), (8, 8), (100, 10), (100, 10)], [(100, 10), (100, 10), (4, 6), (7, 11), (100, 10), (100, 10), (100, 10), (100, 12), (100, 12), (100, 12), (8, 8), (100, 10), (100, 10), (100, 10), (0, 10), (100, 12)], [(100, 12), (100, 12), (100, 400), (100, 8), (100, 32), (2, 6), (100, 60), (100, 60), (100, 60), (100, 60), (101, 60), (103, 60), (8, 8), (100, 10), (100, 10), (100, 10)], [(100, 10), (3, 6), (100, 60), (101, 1024), (6, 2), (100, 10), (5, 3), (7, 11), (100, 10), (100, 10), (100, 10), (100, 12), (100, 12), (100, 12), (8, 8), (100, 10)], [(100, 10), (100, 10), (1, 6), (0, 10), (100, 12), (100, 12), (100, 12), (100, 400), (100, 8), (100, 32), (100, 32), (104, 12), (8, 8), (100, 10), (100, 10), (100, 10)], [(8, 8), (100, 10), (100, 10), (100, 10), (8, 8), (100, 10), (100, 10), (100, 10), (8, 8), (100, 10), (100, 10), (100, 10), (8, 8), (100, 10), (100, 10), (100, 10)], [(8, 8), (100, 10), (100, 10), (100, 10), (8, 8), (100, 10), (100, 10), (100, 10), (8, 8), (100, 10), (100, 10), (100, 10), (8, 8), (100, 10), (100, 10), (100, 10)], [(8, 8), (100, 10), (100, 10), (100, 10), (8, 8), (100, 10), (100, 10), (100, 10), (8, 8), (100, 10), (100, 10), (100, 10), (11, 27), (100, 2713), (100, 1864), (100, 1864)], [(100, 1015), (100, 12180), (101, 12), (102, 400), (100, 5), (100, 400), (100, 10), (100, 60), (102, 65536), (100, 10), (101, 1)]]
def sh (k : Nat) : Nat × Nat := (SH.getD (k / 16) []).getD (k % 16) (999, 0)
/-- references of objects: they never change -/
def RT : List (List (List (Option Nat))) := [[[some 1, some 3, some 34, some 65, some 68, some 70, some 82, some 91, none, none], [some 2, none, none, none, none, none, none], [], [some 4, some 11, some 15, some 22, some 29, some 33], [none, some 5, none, some 6, some 7, none, some 8, some 9, some 10, none, none], [], [], [], [], [], [], [none, some 12, some 13, some 14, none, none, none, none], [], [], [], [none, some 16, some 17, some 18, some 19, none, some 20, some 21, none, none]], [[], [], [], [], [], [], [some 23, some 24, some 25, some 26, some 27, some 28], [], [], [], [], [], [], [none, some 30, some 31, some 32, none, none, none, none], [], []], [[], [], [some 35, some 42, some 46, some 53, some 60, some 64], [none, some 36, none, some 37, some 38, none, some 39, some 40, some 41, none, none], [], [], [], [], [], [], [none, some 43, some 44, some 45, none, none, none, none], [], [], [], [none, some 47, some 48, some 49, some 50, none, some 51, some 52, none, none], []], [[], [], [], [], [], [some 54, some 55, some 56, some 57, some 58, some 59], [], [], [], [], [], [], [none, some 61, some 62, some 63, none, none, none, none], [], [], []], [[], [some 3, some 66, some 67, none, none, none], [], [], [some 3, some 69], [], [some 1, some 71, some 78], [none, some 72, none, some 73, some 74, none, some 75, some 76, some 77, none, none], [], [], [], [], [], [], [none, some 79, some 80, some 81, none, none, none, none], []], [[], [], [some 1, some 83, some 90, none, none, none], [none, some 84, some 85, some 86, some 87, none, some 88, some 89, none, none], [], [], [], [], [], [], [], [], [none, some 93, some 94, some 95, none, none, none, none], [], [], []], [[none, some 97, some 98, some 99, none, none, none, none], [], [], [], [none, some 101, some 102, some 103, none, none, none, none], [], [], [], [none, some 105, some 106, some 107, none, none, none, none], [], [], [], [none, some 109, some 110, some 111, none, none, none, none], [], [], []], [[none, some 113, some 114, some 115, none, none, none, none], [], [], [], [none, some 117, some 118, some 119, none, none, none, none], [], [], [], [none, some 121, some 122, some 123, none, none, none, none], [], [], [], [none, some 125, some 126, some 127, none, none, none, none], [], [], []], [[none, some 129, some 130, some 131, none, none, none, none], [], [], [], [none, some 133, some 134, some 135, none, none, none, none], [], [], [], [none, some 137, some 138, some 139, none, none, none, none], [], [], [], [none, some 141, some 142, some 143, some 144, some 145, none, none, none, none, some 146, none, none, some 147, none, none, none, none, none, none, some 148, none, some 149, some 150, some 151, some 152, some 153], [], [], []], [[], [], [], [], [], [], [], [], [], [], []]]
def rt (k j : Nat) : Option Nat := ((RT.getD (k / 16) []).getD (k % 16) []).getD j none
abbrev NC : Nat := 155
/-- the texts that code loads: whose, where, what -/
def STR : List (String × Nat × String) := [("SaidOnce$LawReader", 31, "far"), ("SaidOnce$LawReader", 39, "near"), ("SaidOnce$LawReader", 41, "as"), ("SaidOnce$LawReader", 50, "if"), ("SaidOnce$LawReader", 97, "not"), ("SaidOnce$LawReader", 102, "known"), ("SaidOnce$LawReader", 118, "thing"), ("SaidOnce$LawReader", 120, "wording"), ("SaidOnce$LawReader", 122, "who"), ("SaidOnce$LawReader", 124, "whom"), ("SaidOnce$LawReader", 126, "apart"), ("SaidOnce$LawReader", 128, "ear"), ("SaidOnce$LawReader", 130, "day"), ("SaidOnce$LawReader", 82, "and"), ("SaidOnce$LawReader", 84, "or"), ("SaidOnce$SchoolReader", 42, "thing"), ("SaidOnce$SchoolReader", 58, "person"), ("SaidOnce$SchoolReader", 114, "ear"), ("SaidOnce$SchoolReader", 116, "stammer"), ("SaidOnce$SchoolReader", 118, "knows"), ("SaidOnce$SchoolReader", 66, "follow"), ("SaidOnce$SchoolReader", 74, "said"), ("SaidOnce$SchoolReader", 82, "absent"), ("SaidOnce$SchoolReader", 87, "loud"), ("SaidOnce", 86, "the text of the school is wrong"), ("SaidOnce", 102, "the school has all its texts"), ("SaidOnce", 114, "the text of the law is wrong"), ("SaidOnce", 419, "there is no such thing"), ("SaidOnce", 148, "of a thing there is no such number"), ("SaidOnce", 424, "there is no such person"), ("SaidOnce", 186, "of a person there is no such number"), ("SaidOnce", 188, "of a rule there is no such number"), ("SaidOnce", 426, "both are one"), ("SaidOnce", 422, "there is no such wording"), ("SaidOnce", 237, "this cannot be said"), ("SaidOnce", 428, "a term has not so many sayings"), ("SaidOnce", 291, "the tape has not a byte for each person"), ("SaidOnce", 299, "a byte of the tape is no thing"), ("SaidOnce", 376, "of a row of the log there is no such number"), ("SaidOnceModel", 167, "thing"), ("SaidOnceModel", 172, "person"), ("SaidOnceModel", 144, "ear"), ("SaidOnceModel", 150, "stammer"), ("SaidOnceModel", 152, "knows"), ("SaidOnceModel", 177, "follow"), ("SaidOnceModel", 182, "said"), ("SaidOnceModel", 187, "absent"), ("SaidOnceModel", 189, "loud"), ("SaidOnceModel", 237, "as"), ("SaidOnceModel", 239, "far"), ("SaidOnceModel", 241, "near"), ("SaidOnceModel", 243, "if"), ("SaidOnceModel", 220, "not"), ("SaidOnceModel", 225, "known"), ("SaidOnceModel", 198, "wording"), ("SaidOnceModel", 200, "who"), ("SaidOnceModel", 202, "whom"), ("SaidOnceModel", 204, "apart"), ("SaidOnceModel", 206, "day"), ("SaidOnceModel", 230, "and"), ("SaidOnceModel", 235, "or")]
def SBY : List (List Int32) := [[102, 97, 114], [110, 101, 97, 114], [97, 115], [105, 102], [110, 111, 116], [107, 110, 111, 119, 110], [116, 104, 105, 110, 103], [119, 111, 114, 100, 105, 110, 103], [119, 104, 111], [119, 104, 111, 109], [97, 112, 97, 114, 116], [101, 97, 114], [100, 97, 121], [97, 110, 100], [111, 114], [116, 104, 105, 110, 103], [112, 101, 114, 115, 111, 110], [101, 97, 114], [115, 116, 97, 109, 109, 101, 114], [107, 110, 111, 119, 115], [102, 111, 108, 108, 111, 119], [115, 97, 105, 100], [97, 98, 115, 101, 110, 116], [108, 111, 117, 100], [116, 104, 101, 32, 116, 101, 120, 116, 32, 111, 102, 32, 116, 104, 101, 32, 115, 99, 104, 111, 111, 108, 32, 105, 115, 32, 119, 114, 111, 110, 103], [116, 104, 101, 32, 115, 99, 104, 111, 111, 108, 32, 104, 97, 115, 32, 97, 108, 108, 32, 105, 116, 115, 32, 116, 101, 120, 116, 115], [116, 104, 101, 32, 116, 101, 120, 116, 32, 111, 102, 32, 116, 104, 101, 32, 108, 97, 119, 32, 105, 115, 32, 119, 114, 111, 110, 103], [116, 104, 101, 114, 101, 32, 105, 115, 32, 110, 111, 32, 115, 117, 99, 104, 32, 116, 104, 105, 110, 103], [111, 102, 32, 97, 32, 116, 104, 105, 110, 103, 32, 116, 104, 101, 114, 101, 32, 105, 115, 32, 110, 111, 32, 115, 117, 99, 104, 32, 110, 117, 109, 98, 101, 114], [116, 104, 101, 114, 101, 32, 105, 115, 32, 110, 111, 32, 115, 117, 99, 104, 32, 112, 101, 114, 115, 111, 110], [111, 102, 32, 97, 32, 112, 101, 114, 115, 111, 110, 32, 116, 104, 101, 114, 101, 32, 105, 115, 32, 110, 111, 32, 115, 117, 99, 104, 32, 110, 117, 109, 98, 101, 114], [111, 102, 32, 97, 32, 114, 117, 108, 101, 32, 116, 104, 101, 114, 101, 32, 105, 115, 32, 110, 111, 32, 115, 117, 99, 104, 32, 110, 117, 109, 98, 101, 114], [98, 111, 116, 104, 32, 97, 114, 101, 32, 111, 110, 101], [116, 104, 101, 114, 101, 32, 105, 115, 32, 110, 111, 32, 115, 117, 99, 104, 32, 119, 111, 114, 100, 105, 110, 103], [116, 104, 105, 115, 32, 99, 97, 110, 110, 111, 116, 32, 98, 101, 32, 115, 97, 105, 100], [97, 32, 116, 101, 114, 109, 32, 104, 97, 115, 32, 110, 111, 116, 32, 115, 111, 32, 109, 97, 110, 121, 32, 115, 97, 121, 105, 110, 103, 115], [116, 104, 101, 32, 116, 97, 112, 101, 32, 104, 97, 115, 32, 110, 111, 116, 32, 97, 32, 98, 121, 116, 101, 32, 102, 111, 114, 32, 101, 97, 99, 104, 32, 112, 101, 114, 115, 111, 110], [97, 32, 98, 121, 116, 101, 32, 111, 102, 32, 116, 104, 101, 32, 116, 97, 112, 101, 32, 105, 115, 32, 110, 111, 32, 116, 104, 105, 110, 103], [111, 102, 32, 97, 32, 114, 111, 119, 32, 111, 102, 32, 116, 104, 101, 32, 108, 111, 103, 32, 116, 104, 101, 114, 101, 32, 105, 115, 32, 110, 111, 32, 115, 117, 99, 104, 32, 110, 117, 109, 98, 101, 114], [116, 104, 105, 110, 103], [112, 101, 114, 115, 111, 110], [101, 97, 114], [115, 116, 97, 109, 109, 101, 114], [107, 110, 111, 119, 115], [102, 111, 108, 108, 111, 119], [115, 97, 105, 100], [97, 98, 115, 101, 110, 116], [108, 111, 117, 100], [97, 115], [102, 97, 114], [110, 101, 97, 114], [105, 102], [110, 111, 116], [107, 110, 111, 119, 110], [119, 111, 114, 100, 105, 110, 103], [119, 104, 111], [119, 104, 111, 109], [97, 112, 97, 114, 116], [100, 97, 121], [97, 110, 100], [111, 114]]
def EN (e : Nat) : String := match e with | 0 => "java/lang/IllegalArgumentException" | 1 => "java/lang/UnsupportedOperationException" | 2 => "java/lang/IndexOutOfBoundsException" | 3 => "java/util/NoSuchElementException" | _ => "java/lang/IllegalStateException"
end
section
/-! the abstract machine: memory of the static object graph, frames, the judgement Wm -/
abbrev Mem : Type := (Nat → Nat) × (Nat → Nat → Int32) × (Nat → Nat → Int64)
def mP (μ : Mem) : Nat → Nat := μ.1
def mI (μ : Mem) : Nat → Nat → Int32 := μ.2.1
def mL (μ : Mem) : Nat → Nat → Int64 := μ.2.2
def u2 {α : Type} (f : Nat → Nat → α) (k j : Nat) (v : α) : Nat → Nat → α := fun a b => if a = k then (if b = j then v else f a b) else f a b
def sI (μ : Mem) (k j : Nat) (v : Int32) : Mem := (μ.1, u2 μ.2.1 k j v, μ.2.2)
def sL (μ : Mem) (k j : Nat) (v : Int64) : Mem := (μ.1, μ.2.1, u2 μ.2.2 k j v)
def sP (μ : Mem) (j v : Nat) : Mem := (va_up μ.1 j v, μ.2.1, μ.2.2)
/-- a row copied -/
def sRI (μ : Mem) (k : Nat) (f : Nat → Int32) : Mem := (μ.1, fun a b => if a = k then f b else μ.2.1 a b, μ.2.2)
def sRL (μ : Mem) (k : Nat) (f : Nat → Int64) : Mem := (μ.1, μ.2.1, fun a b => if a = k then f b else μ.2.2 a b)
abbrev Gl : Type := Launch × va_G × (Nat → ClassId) × (Nat → Nat) × (Nat → Nat) × (Nat → Nat) × Nat × Nat × Nat × (Nat → Int32) × Option Nat
def gl (g : Gl) : Launch := g.1
def gD (g : Gl) : va_G := g.2.1
def gA (g : Gl) : Nat → ClassId := g.2.2.1
/-- where the cells of the graph lie -/
def ga (g : Gl) : Nat → Nat := g.2.2.2.1
def gs (g : Gl) : Nat → Nat := g.2.2.2.2.1
def gv (g : Gl) : Nat → Nat := g.2.2.2.2.2.1
def gb (g : Gl) : Nat := g.2.2.2.2.2.2.1
def gB (g : Gl) : Nat := g.2.2.2.2.2.2.2.1
def gN (g : Gl) : Nat := g.2.2.2.2.2.2.2.2.1
def gX (g : Gl) : Nat → Int32 := g.2.2.2.2.2.2.2.2.2.1
def gZ (g : Gl) : Option Nat := g.2.2.2.2.2.2.2.2.2.2
def gP (g : Gl) : Nat → Prop := fun q => gb g ≤ q
/-- an id's address: a cell, a text (1000 and on), the script (2000), a text's bytes (3000 and on), the JDK's formatter (4000) -/
def gr (g : Gl) (k : Nat) : Nat := if k < 1000 then ga g k else if k < 2000 then gs g (k - 1000) else if k < 3000 then gB g else if k < 4000 then gv g (k - 3000) else (gZ g).getD 0
def szv (g : Gl) : Value := match gZ g with
  | none => .null
  | some _ => .ref 4000
def szT (g : Gl) : Value := match gZ g with
  | none => .null
  | some t => .ref t
def tv (g : Gl) : Value → Value
  | .ref k => .ref (gr g k)
  | v => v
def tl (g : Gl) (ls : List (Nat × Value)) : List (Nat × Value) := ls.map fun q => (q.1, tv g q.2)
theorem tv_szv (g : Gl) : tv g (szv g) = szT g := by
  unfold szv szT
  cases h : gZ g with
  | none => rfl
  | some t => show Value.ref (gr g 4000) = _; simp [gr, h]
theorem tv_cat (g : Gl) (v : Value) : (tv g v).category = v.category := by cases v <;> rfl
def fv (g : Gl) (μ : Mem) (k j t : Nat) : Value := if t = 1 then .long (mL μ k j) else if t = 4 then va_rf ((rt k j).map (ga g)) else .int (mI μ k j)
def cE (g : Gl) (μ : Mem) (k : Nat) : va_E :=
  if (sh k).1 < 100 then .inr ((sh k).1, (List.range (sh k).2).map fun j => fv g μ k j (ftc (sh k).1 j))
  else if (sh k).1 = 101 then .inl (gA g 1, (sh k).2, .inr (.inl (mL μ k)))
  else if (sh k).1 = 104 then .inl (gA g 4, (sh k).2, .inr (.inr (.inr (.inr fun i => some (ga g (mP μ i))))))
  else .inl (gA g ((sh k).1 - 100), (sh k).2, .inl (mI μ k))
def wd (g : Gl) (μ : Mem) : va_W := (List.range NC).map fun k => (ga g k, cE g μ k)
def Rep (g : Gl) (μ : Mem) (H : Heap) : Prop := va_P (gD g) cls (wd g μ) H
def tysG (g : Gl) : List (ClassId × FieldType) := [(gA g 0, .int), (gA g 1, .long), (gA g 2, .byte), (gA g 3, .boolean), (gA g 4, .object "SaidOnce$State")]
def strOK (g : Gl) (j : Nat) (s : State) : Prop := vk_R (STR.getD j ("", 0, "")).1 (STR.getD j ("", 0, "")).2.1 (STR.getD j ("", 0, "")).2.2 (gs g j) s ∧
  va_O "java/lang/String" (gs g j) (gP g) s s.heap ∧ va_OF "java/lang/String" "coder" "B" (.int 0) (gs g j) (gP g) s s.heap ∧ va_OF "java/lang/String" "value" "[B" (.ref (gv g j)) (gs g j) (gP g) s s.heap ∧
  va_T .byte (gv g j) (SBY.getD j []).length (fun i => .int ((SBY.getD j []).getD i 0)) (gP g) s s.heap
def EnvS (g : Gl) (s : State) : Prop := va_K (gD g) cls (tysG g) s ∧ (∀ w ∈ NW, va_Nw w s) ∧ (∀ j, j < 61 → strOK g j s) ∧
  vx_Zq Bundle.tN "UNASSIGNED_STACK" Bundle.steD (gP g) s s.heap ∧ vx_Zq Bundle.tN "SUPPRESSED_SENTINEL" Bundle.listD (gP g) s s.heap ∧ va_Z "java/lang/String" "COMPACT_STRINGS" "Z" (.int 1) (gP g) s s.heap ∧
  gb g ≤ s.heap.size ∧ (gl g).stackTraces = false ∧ va_X (gB g) (gN g) (gX g) s s.heap ∧ gB g < gb g ∧ (∀ k, k < NC → gb g ≤ ga g k) ∧ (∀ i j, i < NC → j < NC → ga g i = ga g j → i = j) ∧
  (∀ a b, a < 5 → b < 5 → a ≠ b → va_Nc (EN a) (EN b) s) ∧ va_Z "jdk/internal/util/Preconditions" "SIOOBE_FORMATTER" "Ljava/util/function/BiFunction;" (szT g) (gP g) s s.heap
theorem nw_warm {w : Cond} (hw : isNw w = true) {s U : State} (hW : s.WarmedH U.vm) (h : va_Nw w s) : va_Nw w U := by
  cases w <;> first | exact va_Nw.warmF hW h | exact va_Nw.warmM hW h | exact va_Nw.warmD hW h | exact va_Nw.warmC hW h | exact absurd hw (by simp [isNw])
theorem EnvS.move {g : Gl} {s U : State} {locs : List Loc} (h : EnvS g s) (hW : s.WarmedH U.vm) (hS : va_S (gP g) s.heap U.heap locs) : EnvS g U := by
  obtain ⟨h1, h2, h3, h4, h5, h6, h7, h8, h9, h10, h11, h12, h13, h14⟩ := h
  have hq : ∀ a : Nat, a < s.heap.size → ¬ gP g a → U.heap[a]? = s.heap[a]? := hS.2.1
  refine ⟨h1.moved hW.alike, fun w hw => nw_warm (List.mem_filter.mp hw).2 hW (h2 w hw), fun j hj => ?_, (h4.moved hW.alike).kept hq, (h5.moved hW.alike).kept hq, (h6.moved hW.alike).kept hq, Nat.le_trans h7 hS.1, h8, ?_, h10, h11, h12, fun a b ha hb hn => (h13 a b ha hb hn).moved hW.alike, (h14.moved hW.alike).kept hq⟩
  · obtain ⟨k1, k2, k3, k4, k5⟩ := h3 j hj
    exact ⟨k1.warm hW, (k2.moved hW.alike).kept hq, (k3.moved hW.alike).kept hq, (k4.moved hW.alike).kept hq, (k5.moved hW.alike).kept hq⟩
  · exact (h9.moved hW.alike).kept (hq _ (Nat.lt_of_lt_of_le h10 h7) (Nat.not_le.mpr h10))
end
section
/-! methods, the judgement Wm, locals -/
abbrev MI : Type := MethodName × ByteArray × Nat × Option FieldType × List (Nat × Nat × Nat × Nat) × Nat × Nat × Nat
def miY (mi : MI) : MethodName := mi.1
def miC (mi : MI) : ByteArray := mi.2.1
def miN (mi : MI) : Nat := mi.2.2.1
def miT (mi : MI) : Option FieldType := mi.2.2.2.1
def miH (mi : MI) : List (Nat × Nat × Nat × Nat) := mi.2.2.2.2.1
def miD (mi : MI) : Nat := mi.2.2.2.2.2.1
def miK (mi : MI) : Nat := mi.2.2.2.2.2.2.1
def miS (mi : MI) : Nat := mi.2.2.2.2.2.2.2
abbrev Out : Type := Option Value ⊕ Nat
def rm (mi : MI) (dx : Nat) : Room := { frames := miD mi + dx, cells := miK mi, slots := miS mi, locals := 100 * (miD mi + dx) }
def Ctx (g : Gl) (mi : MI) (p : Program) (s : State) (m : MethodId) (args : Array Value) (meth : Method) (c : Code) : Prop :=
  p.tables.exec = Jvm.exec ∧ c.code = miC mi ∧ c.maxLocals = miN mi ∧ meth.sig.returnType = miT mi ∧ meth.locks = false ∧ s.vm.findClass (miY mi).cls = some m.cls ∧ (∀ w ∈ TB, w.before args s = true) ∧ c.exceptionTable.toList = tableOf (miH mi) ∧ EnvS g s
abbrev QT : Type := List Frame → Array Value → State → State → Prop
def Wm (g : Gl) (mi : MI) (R : Room) (Q : QT) (nc ns pc : Nat) (ls : List (Nat × Value)) (st : List Value) (μ : Mem) : Prop :=
  ∀ (p : Program) (e : Env) (s : State) (m : MethodId) (args : Array Value) (below : List Frame) (meth : Method) (c : Code), Ctx g mi p s m args meth c →
    ∀ (H : Heap) (locs : List Loc) (L : Array Slot), Rep g μ H → va_S (gP g) s.heap H locs → lv_has L (miN mi) (tl g ls) →
      W p (gl g) e R s m args below meth c H locs nc ns (Q below args s) (F0 m pc L (st.map (tv g)))
def lk : List (Nat × Value) → Nat → Option Value
  | [], _ => none
  | q :: t, i => match Nat.beq q.1 i with
    | true => some q.2
    | false => lk t i
def lput (ls : List (Nat × Value)) (i : Nat) (v : Value) : List (Nat × Value) :=
  ls.filter (fun q => Nat.ble (q.1 + q.2.category) i) ++ (i, v) :: ls.filter (fun q => Nat.ble (i + v.category) q.1)
def lpick (ls : List (Nat × Value)) (ks : List Nat) : List (Nat × Value) := ls.filter (fun q => ks.any (Nat.beq q.1))
theorem lk_mem {ls : List (Nat × Value)} {i : Nat} {v : Value} (h : lk ls i = some v) : (i, v) ∈ ls := by
  induction ls with
  | nil => cases h
  | cons q t ih =>
    unfold lk at h
    cases hb : Nat.beq q.1 i with
    | true =>
      rw [hb] at h
      have : q.1 = i := Nat.eq_of_beq_eq_true hb
      have h2 : q.2 = v := Option.some.inj h
      rw [← this, ← h2]
      exact List.mem_cons_self
    | false =>
      rw [hb] at h
      exact List.mem_cons_of_mem _ (ih h)
theorem lk_at {g : Gl} {L : Array Slot} {n : Nat} {ls : List (Nat × Value)} {i : Nat} {v : Value} (hl : lv_has L n (tl g ls)) (h : lk ls i = some v) : L[i]? = some (.val (tv g v)) :=
  hl.2.2 (i, tv g v) (List.mem_map.mpr ⟨(i, v), lk_mem h, rfl⟩)
theorem lv_weak {L : Array Slot} {n : Nat} {l l' : List (Nat × Value)} (h : lv_has L n l) (hs : ∀ q ∈ l', q ∈ l) : lv_has L n l' := ⟨h.1, h.2.1, fun q hq => h.2.2 q (hs q hq)⟩
theorem Wm.pick {g : Gl} {mi : MI} {R : Room} {Q : QT} {nc ns pc : Nat} {ls ls' : List (Nat × Value)} {st : List Value} {μ : Mem} (hs : ∀ q ∈ ls', q ∈ ls) (h : Wm g mi R Q nc ns pc ls' st μ) : Wm g mi R Q nc ns pc ls st μ := by
  intro p e s m args below meth c C H locs L hR hS hl
  refine h p e s m args below meth c C H locs L hR hS (lv_weak hl fun q hq => ?_)
  obtain ⟨r, hr, rfl⟩ := List.mem_map.mp hq
  exact List.mem_map.mpr ⟨r, hs r hr, rfl⟩
theorem lpick_sub {ls : List (Nat × Value)} {ks : List Nat} : ∀ q ∈ lpick ls ks, q ∈ ls := fun _ h => (List.mem_filter.mp h).1
theorem cat_pos (v : Value) : 1 ≤ v.category := by cases v <;> simp [Value.category]
theorem lput_sub1 {g : Gl} {ls : List (Nat × Value)} {i : Nat} {v : Value} (hc : v.category = 1) : ∀ q ∈ tl g (lput ls i v), q ∈ (i, tv g v) :: (tl g ls).filter (fun q => !(q.1 == i) && !(q.1 + 1 == i && q.2.category == 2)) := by
  intro q hq
  obtain ⟨r, hr, rfl⟩ := List.mem_map.mp hq
  rcases List.mem_append.mp hr with h | h
  · obtain ⟨h1, h2⟩ := List.mem_filter.mp h
    have h3 := Nat.le_of_ble_eq_true h2
    have := cat_pos r.2
    refine List.mem_cons_of_mem _ (List.mem_filter.mpr ⟨List.mem_map.mpr ⟨r, h1, rfl⟩, ?_⟩)
    simp only [tv_cat, Bool.and_eq_true, Bool.not_eq_true', beq_eq_false_iff_ne, Bool.and_eq_false_iff]
    refine ⟨by omega, ?_⟩
    by_cases hz : r.2.category = 2
    · left; omega
    · right; exact hz
  · rcases List.mem_cons.mp h with rfl | h
    · exact List.mem_cons_self
    · obtain ⟨h1, h2⟩ := List.mem_filter.mp h
      have h3 := Nat.le_of_ble_eq_true h2
      refine List.mem_cons_of_mem _ (List.mem_filter.mpr ⟨List.mem_map.mpr ⟨r, h1, rfl⟩, ?_⟩)
      simp only [tv_cat, Bool.and_eq_true, Bool.not_eq_true', beq_eq_false_iff_ne, Bool.and_eq_false_iff]
      exact ⟨by omega, Or.inl (by omega)⟩
theorem lput_sub2 {g : Gl} {ls : List (Nat × Value)} {i : Nat} {v : Value} (hc : v.category = 2) : ∀ q ∈ tl g (lput ls i v), q ∈ (i, tv g v) :: (tl g ls).filter (fun q => !(q.1 == i) && (!(q.1 == i + 1) && !(q.1 + 1 == i && q.2.category == 2))) := by
  intro q hq
  obtain ⟨r, hr, rfl⟩ := List.mem_map.mp hq
  rcases List.mem_append.mp hr with h | h
  · obtain ⟨h1, h2⟩ := List.mem_filter.mp h
    have h3 := Nat.le_of_ble_eq_true h2
    have := cat_pos r.2
    refine List.mem_cons_of_mem _ (List.mem_filter.mpr ⟨List.mem_map.mpr ⟨r, h1, rfl⟩, ?_⟩)
    simp only [tv_cat, Bool.and_eq_true, Bool.not_eq_true', beq_eq_false_iff_ne, Bool.and_eq_false_iff]
    refine ⟨by omega, by omega, ?_⟩
    by_cases hz : r.2.category = 2
    · left; omega
    · right; exact hz
  · rcases List.mem_cons.mp h with rfl | h
    · exact List.mem_cons_self
    · obtain ⟨h1, h2⟩ := List.mem_filter.mp h
      have h3 := Nat.le_of_ble_eq_true h2
      refine List.mem_cons_of_mem _ (List.mem_filter.mpr ⟨List.mem_map.mpr ⟨r, h1, rfl⟩, ?_⟩)
      simp only [tv_cat, Bool.and_eq_true, Bool.not_eq_true', beq_eq_false_iff_ne, Bool.and_eq_false_iff]
      exact ⟨by omega, by omega, Or.inl (by omega)⟩
def iv : Int → Int32
  | .ofNat n => Int32.ofNat n
  | .negSucc n => -(Int32.ofNat (n + 1))
theorem iv_ofInt (n : Int) : Int32.ofInt n = iv n := by
  cases n with
  | ofNat n => exact Int32.ofInt_eq_ofNat
  | negSucc n =>
    show Int32.ofInt (-(↑(n + 1) : Int)) = _
    rw [Int32.ofInt_neg]; rfl
/-- a pc plus a jump -/
def jt (pc : Nat) (off : Int) : Nat := ((pc : Int) + off).toNat
end
section
/-! one row an instruction -/
section AM3
variable {g : Gl} {mi : MI} {R : Room} {Q : QT} {nc ns pc : Nat} {ls : List (Nat × Value)} {st : List Value} {μ : Mem}
theorem am_iadd {x y : Int32} (hd : decode (miC mi) pc = .ok (.iadd, 1)) (k : Wm g mi R Q nc ns (pc + 1) ls (.int (x + y) :: st) μ) : Wm g mi R Q nc ns pc ls (.int y :: .int x :: st) μ := fun p e s m args below meth c C H locs L hR hS hl =>
  lv_iadd C.1 C.2.1 hd (k p e s m args below meth c C H locs L hR hS hl)
theorem am_isub {x y : Int32} (hd : decode (miC mi) pc = .ok (.isub, 1)) (k : Wm g mi R Q nc ns (pc + 1) ls (.int (x - y) :: st) μ) : Wm g mi R Q nc ns pc ls (.int y :: .int x :: st) μ := fun p e s m args below meth c C H locs L hR hS hl =>
  lv_isub C.1 C.2.1 hd (k p e s m args below meth c C H locs L hR hS hl)
theorem am_imul {x y : Int32} (hd : decode (miC mi) pc = .ok (.imul, 1)) (k : Wm g mi R Q nc ns (pc + 1) ls (.int (x * y) :: st) μ) : Wm g mi R Q nc ns pc ls (.int y :: .int x :: st) μ := fun p e s m args below meth c C H locs L hR hS hl =>
  lv_imul C.1 C.2.1 hd (k p e s m args below meth c C H locs L hR hS hl)
theorem am_iand {x y : Int32} (hd : decode (miC mi) pc = .ok (.iand, 1)) (k : Wm g mi R Q nc ns (pc + 1) ls (.int (x &&& y) :: st) μ) : Wm g mi R Q nc ns pc ls (.int y :: .int x :: st) μ := fun p e s m args below meth c C H locs L hR hS hl =>
  lv_iand C.1 C.2.1 hd (k p e s m args below meth c C H locs L hR hS hl)
theorem am_ior {x y : Int32} (hd : decode (miC mi) pc = .ok (.ior, 1)) (k : Wm g mi R Q nc ns (pc + 1) ls (.int (x ||| y) :: st) μ) : Wm g mi R Q nc ns pc ls (.int y :: .int x :: st) μ := fun p e s m args below meth c C H locs L hR hS hl =>
  lv_ior C.1 C.2.1 hd (k p e s m args below meth c C H locs L hR hS hl)
theorem am_ixor {x y : Int32} (hd : decode (miC mi) pc = .ok (.ixor, 1)) (k : Wm g mi R Q nc ns (pc + 1) ls (.int (x ^^^ y) :: st) μ) : Wm g mi R Q nc ns pc ls (.int y :: .int x :: st) μ := fun p e s m args below meth c C H locs L hR hS hl =>
  lv_ixor C.1 C.2.1 hd (k p e s m args below meth c C H locs L hR hS hl)
theorem am_ishl {x y : Int32} (hd : decode (miC mi) pc = .ok (.ishl, 1)) (k : Wm g mi R Q nc ns (pc + 1) ls (.int (x <<< (y &&& 31)) :: st) μ) : Wm g mi R Q nc ns pc ls (.int y :: .int x :: st) μ := fun p e s m args below meth c C H locs L hR hS hl =>
  lv_ishl C.1 C.2.1 hd (k p e s m args below meth c C H locs L hR hS hl)
theorem am_ishr {x y : Int32} (hd : decode (miC mi) pc = .ok (.ishr, 1)) (k : Wm g mi R Q nc ns (pc + 1) ls (.int (x >>> (y &&& 31)) :: st) μ) : Wm g mi R Q nc ns pc ls (.int y :: .int x :: st) μ := fun p e s m args below meth c C H locs L hR hS hl =>
  lv_ishr C.1 C.2.1 hd (k p e s m args below meth c C H locs L hR hS hl)
def ush (x y : Int32) : Int32 := (x.toUInt32 >>> (y.toUInt32 &&& Int32.toUInt32 31)).toInt32
theorem am_iushr {x y : Int32} (hd : decode (miC mi) pc = .ok (.iushr, 1)) (k : Wm g mi R Q nc ns (pc + 1) ls (.int (ush x y) :: st) μ) : Wm g mi R Q nc ns pc ls (.int y :: .int x :: st) μ := fun p e s m args below meth c C H locs L hR hS hl =>
  lv_iushr C.1 C.2.1 hd rfl (k p e s m args below meth c C H locs L hR hS hl)
theorem am_idiv {x y : Int32} (hn : ¬ y = 0) (hd : decode (miC mi) pc = .ok (.idiv, 1)) (k : Wm g mi R Q nc ns (pc + 1) ls (.int (x / y) :: st) μ) : Wm g mi R Q nc ns pc ls (.int y :: .int x :: st) μ := fun p e s m args below meth c C H locs L hR hS hl =>
  lv_idiv C.1 C.2.1 hd hn (k p e s m args below meth c C H locs L hR hS hl)
theorem am_irem {x y : Int32} (hn : ¬ y = 0) (hd : decode (miC mi) pc = .ok (.irem, 1)) (k : Wm g mi R Q nc ns (pc + 1) ls (.int (x - x / y * y) :: st) μ) : Wm g mi R Q nc ns pc ls (.int y :: .int x :: st) μ := fun p e s m args below meth c C H locs L hR hS hl =>
  lv_irem C.1 C.2.1 hd hn (k p e s m args below meth c C H locs L hR hS hl)
theorem am_ineg {x : Int32} (hd : decode (miC mi) pc = .ok (.ineg, 1)) (k : Wm g mi R Q nc ns (pc + 1) ls (.int (-x) :: st) μ) : Wm g mi R Q nc ns pc ls (.int x :: st) μ := fun p e s m args below meth c C H locs L hR hS hl =>
  lv_ineg C.1 C.2.1 hd (k p e s m args below meth c C H locs L hR hS hl)
theorem am_ladd {x y : Int64} (hd : decode (miC mi) pc = .ok (.ladd, 1)) (k : Wm g mi R Q nc ns (pc + 1) ls (.long (x + y) :: st) μ) : Wm g mi R Q nc ns pc ls (.long y :: .long x :: st) μ := fun p e s m args below meth c C H locs L hR hS hl =>
  lv_ladd C.1 C.2.1 hd (k p e s m args below meth c C H locs L hR hS hl)
theorem am_lsub {x y : Int64} (hd : decode (miC mi) pc = .ok (.lsub, 1)) (k : Wm g mi R Q nc ns (pc + 1) ls (.long (x - y) :: st) μ) : Wm g mi R Q nc ns pc ls (.long y :: .long x :: st) μ := fun p e s m args below meth c C H locs L hR hS hl =>
  lv_lsub C.1 C.2.1 hd (k p e s m args below meth c C H locs L hR hS hl)
theorem am_land {x y : Int64} (hd : decode (miC mi) pc = .ok (.land, 1)) (k : Wm g mi R Q nc ns (pc + 1) ls (.long (x &&& y) :: st) μ) : Wm g mi R Q nc ns pc ls (.long y :: .long x :: st) μ := fun p e s m args below meth c C H locs L hR hS hl =>
  lv_land C.1 C.2.1 hd (k p e s m args below meth c C H locs L hR hS hl)
theorem am_lor {x y : Int64} (hd : decode (miC mi) pc = .ok (.lor, 1)) (k : Wm g mi R Q nc ns (pc + 1) ls (.long (x ||| y) :: st) μ) : Wm g mi R Q nc ns pc ls (.long y :: .long x :: st) μ := fun p e s m args below meth c C H locs L hR hS hl =>
  lv_lor C.1 C.2.1 hd (k p e s m args below meth c C H locs L hR hS hl)
theorem am_lxor {x y : Int64} (hd : decode (miC mi) pc = .ok (.lxor, 1)) (k : Wm g mi R Q nc ns (pc + 1) ls (.long (x ^^^ y) :: st) μ) : Wm g mi R Q nc ns pc ls (.long y :: .long x :: st) μ := fun p e s m args below meth c C H locs L hR hS hl =>
  lv_lxor C.1 C.2.1 hd (k p e s m args below meth c C H locs L hR hS hl)
def lush (x : Int64) (y : Int32) : Int64 := (x.toUInt64 >>> (y.toInt64.toUInt64 &&& Int64.toUInt64 63)).toInt64
theorem am_lushr {x : Int64} {y : Int32} (hd : decode (miC mi) pc = .ok (.lushr, 1)) (k : Wm g mi R Q nc ns (pc + 1) ls (.long (lush x y) :: st) μ) : Wm g mi R Q nc ns pc ls (.int y :: .long x :: st) μ := fun p e s m args below meth c C H locs L hR hS hl =>
  lv_lushr C.1 C.2.1 hd rfl (k p e s m args below meth c C H locs L hR hS hl)
theorem am_lshl {x : Int64} {y : Int32} (hd : decode (miC mi) pc = .ok (.lshl, 1)) (k : Wm g mi R Q nc ns (pc + 1) ls (.long (x <<< (y.toInt64 &&& 63)) :: st) μ) : Wm g mi R Q nc ns pc ls (.int y :: .long x :: st) μ := fun p e s m args below meth c C H locs L hR hS hl =>
  lv_lshl C.1 C.2.1 hd rfl (k p e s m args below meth c C H locs L hR hS hl)
theorem am_lshr {x : Int64} {y : Int32} (hd : decode (miC mi) pc = .ok (.lshr, 1)) (k : Wm g mi R Q nc ns (pc + 1) ls (.long (x >>> (y.toInt64 &&& 63)) :: st) μ) : Wm g mi R Q nc ns pc ls (.int y :: .long x :: st) μ := fun p e s m args below meth c C H locs L hR hS hl =>
  lv_lshr C.1 C.2.1 hd rfl (k p e s m args below meth c C H locs L hR hS hl)
theorem am_lcmp {x y : Int64} (hd : decode (miC mi) pc = .ok (.lcmp, 1)) (k : Wm g mi R Q nc ns (pc + 1) ls (.int (lg_cmp x y) :: st) μ) : Wm g mi R Q nc ns pc ls (.long y :: .long x :: st) μ := fun p e s m args below meth c C H locs L hR hS hl =>
  W.lcmp C.1 C.2.1 hd (k p e s m args below meth c C H locs L hR hS hl)
theorem am_i2l {x : Int32} (hd : decode (miC mi) pc = .ok (.i2l, 1)) (k : Wm g mi R Q nc ns (pc + 1) ls (.long x.toInt64 :: st) μ) : Wm g mi R Q nc ns pc ls (.int x :: st) μ := fun p e s m args below meth c C H locs L hR hS hl =>
  lv_i2l C.1 C.2.1 hd rfl (k p e s m args below meth c C H locs L hR hS hl)
theorem am_l2i {x : Int64} (hd : decode (miC mi) pc = .ok (.l2i, 1)) (k : Wm g mi R Q nc ns (pc + 1) ls (.int x.toInt32 :: st) μ) : Wm g mi R Q nc ns pc ls (.long x :: st) μ := fun p e s m args below meth c C H locs L hR hS hl =>
  lv_l2i C.1 C.2.1 hd rfl (k p e s m args below meth c C H locs L hR hS hl)
theorem am_i2b {x : Int32} (hd : decode (miC mi) pc = .ok (.i2b, 1)) (k : Wm g mi R Q nc ns (pc + 1) ls (.int x.toInt8.toInt32 :: st) μ) : Wm g mi R Q nc ns pc ls (.int x :: st) μ := fun p e s m args below meth c C H locs L hR hS hl =>
  lv_i2b C.1 C.2.1 hd rfl (k p e s m args below meth c C H locs L hR hS hl)
theorem am_iconst {n : Int} (hd : decode (miC mi) pc = .ok (.iconst n, 1)) (k : Wm g mi R Q nc ns (pc + 1) ls (.int (iv n) :: st) μ) : Wm g mi R Q nc ns pc ls st μ := fun p e s m args below meth c C H locs L hR hS hl =>
  lv_iconst C.1 C.2.1 hd (iv_ofInt n) (k p e s m args below meth c C H locs L hR hS hl)
theorem am_bipush {n : Int} (hn : (Int8.ofInt n).toInt32 = iv n) (hd : decode (miC mi) pc = .ok (.bipush n, 2)) (k : Wm g mi R Q nc ns (pc + 2) ls (.int (iv n) :: st) μ) : Wm g mi R Q nc ns pc ls st μ := fun p e s m args below meth c C H locs L hR hS hl =>
  lv_bipush C.1 C.2.1 hd hn (k p e s m args below meth c C H locs L hR hS hl)
theorem am_sipush {n : Int} (hn : (Int16.ofInt n).toInt32 = iv n) (hd : decode (miC mi) pc = .ok (.sipush n, 3)) (k : Wm g mi R Q nc ns (pc + 3) ls (.int (iv n) :: st) μ) : Wm g mi R Q nc ns pc ls st μ := fun p e s m args below meth c C H locs L hR hS hl =>
  lv_sipush C.1 C.2.1 hd hn (k p e s m args below meth c C H locs L hR hS hl)
theorem am_iload_n {n : Fin 4} {x : Int32} (hx : lk ls n = some (.int x)) (hd : decode (miC mi) pc = .ok (.iload_n n, 1)) (k : Wm g mi R Q nc ns (pc + 1) ls (.int x :: st) μ) : Wm g mi R Q nc ns pc ls st μ := fun p e s m args below meth c C H locs L hR hS hl =>
  lv_iload_n C.1 C.2.1 hd rfl (lk_at hl hx) (k p e s m args below meth c C H locs L hR hS hl)
theorem am_iload {n : Nat} {x : Int32} (hx : lk ls n = some (.int x)) (hd : decode (miC mi) pc = .ok (.iload n, 2)) (k : Wm g mi R Q nc ns (pc + 2) ls (.int x :: st) μ) : Wm g mi R Q nc ns pc ls st μ := fun p e s m args below meth c C H locs L hR hS hl =>
  lv_iload C.1 C.2.1 hd (lk_at hl hx) (k p e s m args below meth c C H locs L hR hS hl)
theorem am_istore_n {n : Fin 4} {x : Int32} (hn : (n : Nat) < miN mi) (hd : decode (miC mi) pc = .ok (.istore_n n, 1)) (k : Wm g mi R Q nc ns (pc + 1) (lput ls n (.int x)) st μ) : Wm g mi R Q nc ns pc ls (.int x :: st) μ := fun p e s m args below meth c C H locs L hR hS hl =>
  lv_istore_n C.1 C.2.1 hd rfl hl hn rfl fun L' hl' => k p e s m args below meth c C H locs L' hR hS (lv_weak hl' (lput_sub1 rfl))
theorem am_istore {n : Nat} {x : Int32} (hn : (n : Nat) < miN mi) (hd : decode (miC mi) pc = .ok (.istore n, 2)) (k : Wm g mi R Q nc ns (pc + 2) (lput ls n (.int x)) st μ) : Wm g mi R Q nc ns pc ls (.int x :: st) μ := fun p e s m args below meth c C H locs L hR hS hl =>
  lv_istore C.1 C.2.1 hd hl hn rfl fun L' hl' => k p e s m args below meth c C H locs L' hR hS (lv_weak hl' (lput_sub1 rfl))
theorem am_lload_n {n : Fin 4} {x : Int64} (hx : lk ls n = some (.long x)) (hd : decode (miC mi) pc = .ok (.lload_n n, 1)) (k : Wm g mi R Q nc ns (pc + 1) ls (.long x :: st) μ) : Wm g mi R Q nc ns pc ls st μ := fun p e s m args below meth c C H locs L hR hS hl =>
  lv_lload_n C.1 C.2.1 hd rfl (lk_at hl hx) (k p e s m args below meth c C H locs L hR hS hl)
theorem am_lload {n : Nat} {x : Int64} (hx : lk ls n = some (.long x)) (hd : decode (miC mi) pc = .ok (.lload n, 2)) (k : Wm g mi R Q nc ns (pc + 2) ls (.long x :: st) μ) : Wm g mi R Q nc ns pc ls st μ := fun p e s m args below meth c C H locs L hR hS hl =>
  lv_lload C.1 C.2.1 hd (lk_at hl hx) (k p e s m args below meth c C H locs L hR hS hl)
theorem am_lstore_n {n : Fin 4} {x : Int64} (hn : (n : Nat) + 1 < miN mi) (hd : decode (miC mi) pc = .ok (.lstore_n n, 1)) (k : Wm g mi R Q nc ns (pc + 1) (lput ls n (.long x)) st μ) : Wm g mi R Q nc ns pc ls (.long x :: st) μ := fun p e s m args below meth c C H locs L hR hS hl =>
  lv_lstore_n C.1 C.2.1 hd rfl hl hn rfl fun L' hl' => k p e s m args below meth c C H locs L' hR hS (lv_weak hl' (lput_sub2 rfl))
theorem am_lstore {n : Nat} {x : Int64} (hn : (n : Nat) + 1 < miN mi) (hd : decode (miC mi) pc = .ok (.lstore n, 2)) (k : Wm g mi R Q nc ns (pc + 2) (lput ls n (.long x)) st μ) : Wm g mi R Q nc ns pc ls (.long x :: st) μ := fun p e s m args below meth c C H locs L hR hS hl =>
  lv_lstore C.1 C.2.1 hd hl hn rfl fun L' hl' => k p e s m args below meth c C H locs L' hR hS (lv_weak hl' (lput_sub2 rfl))
theorem am_aload_n {n : Fin 4} {a : Nat} (hx : lk ls n = some (.ref a)) (hd : decode (miC mi) pc = .ok (.aload_n n, 1)) (k : Wm g mi R Q nc ns (pc + 1) ls (.ref a :: st) μ) : Wm g mi R Q nc ns pc ls st μ := fun p e s m args below meth c C H locs L hR hS hl =>
  lv_aload_n C.1 C.2.1 hd rfl (lk_at hl hx) (k p e s m args below meth c C H locs L hR hS hl)
theorem am_aload {n : Nat} {a : Nat} (hx : lk ls n = some (.ref a)) (hd : decode (miC mi) pc = .ok (.aload n, 2)) (k : Wm g mi R Q nc ns (pc + 2) ls (.ref a :: st) μ) : Wm g mi R Q nc ns pc ls st μ := fun p e s m args below meth c C H locs L hR hS hl =>
  lv_aload C.1 C.2.1 hd (lk_at hl hx) (k p e s m args below meth c C H locs L hR hS hl)
theorem am_astore_n {n : Fin 4} {a : Nat} (hn : (n : Nat) < miN mi) (hd : decode (miC mi) pc = .ok (.astore_n n, 1)) (k : Wm g mi R Q nc ns (pc + 1) (lput ls n (.ref a)) st μ) : Wm g mi R Q nc ns pc ls (.ref a :: st) μ := fun p e s m args below meth c C H locs L hR hS hl =>
  lv_astore_n C.1 C.2.1 hd rfl hl hn rfl fun L' hl' => k p e s m args below meth c C H locs L' hR hS (lv_weak hl' (lput_sub1 rfl))
theorem am_astore {n : Nat} {a : Nat} (hn : (n : Nat) < miN mi) (hd : decode (miC mi) pc = .ok (.astore n, 2)) (k : Wm g mi R Q nc ns (pc + 2) (lput ls n (.ref a)) st μ) : Wm g mi R Q nc ns pc ls (.ref a :: st) μ := fun p e s m args below meth c C H locs L hR hS hl =>
  lv_astore C.1 C.2.1 hd hl hn rfl fun L' hl' => k p e s m args below meth c C H locs L' hR hS (lv_weak hl' (lput_sub1 rfl))
theorem am_iinc {i : Nat} {n : Int} {x : Int32} (hn : i < miN mi) (hx : lk ls i = some (.int x)) (hd : decode (miC mi) pc = .ok (.iinc i n, 3)) (k : Wm g mi R Q nc ns (pc + 3) (lput ls i (.int (x + iv n))) st μ) : Wm g mi R Q nc ns pc ls st μ := by
  intro p e s m args below meth c C H locs L hR hS hl
  obtain ⟨q, hq⟩ := List.getElem?_of_mem (List.mem_map.mpr ⟨(i, .int x), lk_mem hx, rfl⟩ : (i, tv g (.int x)) ∈ tl g ls)
  exact lv_iinc C.1 C.2.1 hd hl hq (by rw [iv_ofInt]) hn rfl fun L' hl' => k p e s m args below meth c C H locs L' hR hS (lv_weak hl' (lput_sub1 rfl))
theorem am_dup {v : Value} (hv : v.category = 1) (hd : decode (miC mi) pc = .ok (.dup, 1)) (k : Wm g mi R Q nc ns (pc + 1) ls (v :: v :: st) μ) : Wm g mi R Q nc ns pc ls (v :: st) μ := fun p e s m args below meth c C H locs L hR hS hl =>
  lv_dup C.1 C.2.1 hd ((tv_cat g v).trans hv) (k p e s m args below meth c C H locs L hR hS hl)
theorem am_pop {v : Value} (hv : v.category = 1) (hd : decode (miC mi) pc = .ok (.pop, 1)) (k : Wm g mi R Q nc ns (pc + 1) ls st μ) : Wm g mi R Q nc ns pc ls (v :: st) μ := fun p e s m args below meth c C H locs L hR hS hl =>
  lv_pop C.1 C.2.1 hd ((tv_cat g v).trans hv) (k p e s m args below meth c C H locs L hR hS hl)
theorem am_dup2 {v w : Value} (hv : v.category = 1) (hw : w.category = 1) (hd : decode (miC mi) pc = .ok (.dup2, 1)) (k : Wm g mi R Q nc ns (pc + 1) ls (v :: w :: v :: w :: st) μ) : Wm g mi R Q nc ns pc ls (v :: w :: st) μ := fun p e s m args below meth c C H locs L hR hS hl =>
  lv_dup2_11 C.1 C.2.1 hd ((tv_cat g v).trans hv) ((tv_cat g w).trans hw) (k p e s m args below meth c C H locs L hR hS hl)
theorem jt_ok {pc : Nat} {off : Int} (h : 0 ≤ (pc : Int) + off) : (pc : Int) + off = ((jt pc off : Nat) : Int) := (Int.toNat_of_nonneg h).symm
theorem am_goto {off : Int} (ho : 0 ≤ (pc : Int) + off) (hd : decode (miC mi) pc = .ok (.goto off, 3)) (k : Wm g mi R Q nc ns (jt pc off) ls st μ) : Wm g mi R Q nc ns pc ls st μ := fun p e s m args below meth c C H locs L hR hS hl =>
  lv_goto C.1 C.2.1 hd (jt_ok ho) (k p e s m args below meth c C H locs L hR hS hl)
theorem am_if_eq {off : Int} {x : Int32} (ho : 0 ≤ (pc : Int) + off) (hd : decode (miC mi) pc = .ok (.ifCond .eq off, 3)) (k : (x = 0 → Wm g mi R Q nc ns (jt pc off) ls st μ) ∧ (¬ x = 0 → Wm g mi R Q nc ns (pc + 3) ls st μ)) : Wm g mi R Q nc ns pc ls (.int x :: st) μ := fun p e s m args below meth c C H locs L hR hS hl =>
  lv_if_eq C.1 C.2.1 hd (jt_ok ho) (fun h => k.1 h p e s m args below meth c C H locs L hR hS hl) (fun h => k.2 h p e s m args below meth c C H locs L hR hS hl)
theorem am_icmp_eq {off : Int} {x y : Int32} (ho : 0 ≤ (pc : Int) + off) (hd : decode (miC mi) pc = .ok (.if_icmp .eq off, 3)) (k : (x = y → Wm g mi R Q nc ns (jt pc off) ls st μ) ∧ (¬ x = y → Wm g mi R Q nc ns (pc + 3) ls st μ)) : Wm g mi R Q nc ns pc ls (.int y :: .int x :: st) μ := fun p e s m args below meth c C H locs L hR hS hl =>
  lv_icmp_eq C.1 C.2.1 hd (jt_ok ho) (fun h => k.1 h p e s m args below meth c C H locs L hR hS hl) (fun h => k.2 h p e s m args below meth c C H locs L hR hS hl)
theorem am_if_ne {off : Int} {x : Int32} (ho : 0 ≤ (pc : Int) + off) (hd : decode (miC mi) pc = .ok (.ifCond .ne off, 3)) (k : (¬ x = 0 → Wm g mi R Q nc ns (jt pc off) ls st μ) ∧ (x = 0 → Wm g mi R Q nc ns (pc + 3) ls st μ)) : Wm g mi R Q nc ns pc ls (.int x :: st) μ := fun p e s m args below meth c C H locs L hR hS hl =>
  lv_if_ne C.1 C.2.1 hd (jt_ok ho) (fun h => k.1 h p e s m args below meth c C H locs L hR hS hl) (fun h => k.2 h p e s m args below meth c C H locs L hR hS hl)
theorem am_icmp_ne {off : Int} {x y : Int32} (ho : 0 ≤ (pc : Int) + off) (hd : decode (miC mi) pc = .ok (.if_icmp .ne off, 3)) (k : (¬ x = y → Wm g mi R Q nc ns (jt pc off) ls st μ) ∧ (x = y → Wm g mi R Q nc ns (pc + 3) ls st μ)) : Wm g mi R Q nc ns pc ls (.int y :: .int x :: st) μ := fun p e s m args below meth c C H locs L hR hS hl =>
  lv_icmp_ne C.1 C.2.1 hd (jt_ok ho) (fun h => k.1 h p e s m args below meth c C H locs L hR hS hl) (fun h => k.2 h p e s m args below meth c C H locs L hR hS hl)
theorem am_if_lt {off : Int} {x : Int32} (ho : 0 ≤ (pc : Int) + off) (hd : decode (miC mi) pc = .ok (.ifCond .lt off, 3)) (k : (x < 0 → Wm g mi R Q nc ns (jt pc off) ls st μ) ∧ (¬ x < 0 → Wm g mi R Q nc ns (pc + 3) ls st μ)) : Wm g mi R Q nc ns pc ls (.int x :: st) μ := fun p e s m args below meth c C H locs L hR hS hl =>
  lv_if_lt C.1 C.2.1 hd (jt_ok ho) (fun h => k.1 h p e s m args below meth c C H locs L hR hS hl) (fun h => k.2 h p e s m args below meth c C H locs L hR hS hl)
theorem am_icmp_lt {off : Int} {x y : Int32} (ho : 0 ≤ (pc : Int) + off) (hd : decode (miC mi) pc = .ok (.if_icmp .lt off, 3)) (k : (x < y → Wm g mi R Q nc ns (jt pc off) ls st μ) ∧ (¬ x < y → Wm g mi R Q nc ns (pc + 3) ls st μ)) : Wm g mi R Q nc ns pc ls (.int y :: .int x :: st) μ := fun p e s m args below meth c C H locs L hR hS hl =>
  lv_icmp_lt C.1 C.2.1 hd (jt_ok ho) (fun h => k.1 h p e s m args below meth c C H locs L hR hS hl) (fun h => k.2 h p e s m args below meth c C H locs L hR hS hl)
theorem am_if_ge {off : Int} {x : Int32} (ho : 0 ≤ (pc : Int) + off) (hd : decode (miC mi) pc = .ok (.ifCond .ge off, 3)) (k : (0 ≤ x → Wm g mi R Q nc ns (jt pc off) ls st μ) ∧ (¬ 0 ≤ x → Wm g mi R Q nc ns (pc + 3) ls st μ)) : Wm g mi R Q nc ns pc ls (.int x :: st) μ := fun p e s m args below meth c C H locs L hR hS hl =>
  lv_if_ge C.1 C.2.1 hd (jt_ok ho) (fun h => k.1 h p e s m args below meth c C H locs L hR hS hl) (fun h => k.2 h p e s m args below meth c C H locs L hR hS hl)
theorem am_icmp_ge {off : Int} {x y : Int32} (ho : 0 ≤ (pc : Int) + off) (hd : decode (miC mi) pc = .ok (.if_icmp .ge off, 3)) (k : (y ≤ x → Wm g mi R Q nc ns (jt pc off) ls st μ) ∧ (¬ y ≤ x → Wm g mi R Q nc ns (pc + 3) ls st μ)) : Wm g mi R Q nc ns pc ls (.int y :: .int x :: st) μ := fun p e s m args below meth c C H locs L hR hS hl =>
  lv_icmp_ge C.1 C.2.1 hd (jt_ok ho) (fun h => k.1 h p e s m args below meth c C H locs L hR hS hl) (fun h => k.2 h p e s m args below meth c C H locs L hR hS hl)
theorem am_if_gt {off : Int} {x : Int32} (ho : 0 ≤ (pc : Int) + off) (hd : decode (miC mi) pc = .ok (.ifCond .gt off, 3)) (k : (0 < x → Wm g mi R Q nc ns (jt pc off) ls st μ) ∧ (¬ 0 < x → Wm g mi R Q nc ns (pc + 3) ls st μ)) : Wm g mi R Q nc ns pc ls (.int x :: st) μ := fun p e s m args below meth c C H locs L hR hS hl =>
  lv_if_gt C.1 C.2.1 hd (jt_ok ho) (fun h => k.1 h p e s m args below meth c C H locs L hR hS hl) (fun h => k.2 h p e s m args below meth c C H locs L hR hS hl)
theorem am_icmp_gt {off : Int} {x y : Int32} (ho : 0 ≤ (pc : Int) + off) (hd : decode (miC mi) pc = .ok (.if_icmp .gt off, 3)) (k : (y < x → Wm g mi R Q nc ns (jt pc off) ls st μ) ∧ (¬ y < x → Wm g mi R Q nc ns (pc + 3) ls st μ)) : Wm g mi R Q nc ns pc ls (.int y :: .int x :: st) μ := fun p e s m args below meth c C H locs L hR hS hl =>
  lv_icmp_gt C.1 C.2.1 hd (jt_ok ho) (fun h => k.1 h p e s m args below meth c C H locs L hR hS hl) (fun h => k.2 h p e s m args below meth c C H locs L hR hS hl)
theorem am_if_le {off : Int} {x : Int32} (ho : 0 ≤ (pc : Int) + off) (hd : decode (miC mi) pc = .ok (.ifCond .le off, 3)) (k : (x ≤ 0 → Wm g mi R Q nc ns (jt pc off) ls st μ) ∧ (¬ x ≤ 0 → Wm g mi R Q nc ns (pc + 3) ls st μ)) : Wm g mi R Q nc ns pc ls (.int x :: st) μ := fun p e s m args below meth c C H locs L hR hS hl =>
  lv_if_le C.1 C.2.1 hd (jt_ok ho) (fun h => k.1 h p e s m args below meth c C H locs L hR hS hl) (fun h => k.2 h p e s m args below meth c C H locs L hR hS hl)
theorem am_icmp_le {off : Int} {x y : Int32} (ho : 0 ≤ (pc : Int) + off) (hd : decode (miC mi) pc = .ok (.if_icmp .le off, 3)) (k : (x ≤ y → Wm g mi R Q nc ns (jt pc off) ls st μ) ∧ (¬ x ≤ y → Wm g mi R Q nc ns (pc + 3) ls st μ)) : Wm g mi R Q nc ns pc ls (.int y :: .int x :: st) μ := fun p e s m args below meth c C H locs L hR hS hl =>
  lv_icmp_le C.1 C.2.1 hd (jt_ok ho) (fun h => k.1 h p e s m args below meth c C H locs L hR hS hl) (fun h => k.2 h p e s m args below meth c C H locs L hR hS hl)
end AM3
end
section
/-! rows of the heap -/
theorem sh_n : ∀ k, k < NC → (sh k).1 < 100 → (cls[(sh k).1]?).map (fun r => r.2.2) = some (sh k).2 := by decide +kernel
theorem rt_lt : ∀ k, k < NC → ∀ j, j < 32 → (rt k j).all (fun r => decide (r < NC)) = true := by decide +kernel
theorem sh_small : ∀ k, k < NC → (sh k).1 < 100 → (sh k).2 ≤ 32 := by decide +kernel
/-- a field's value, references as ids -/
def rfv : Option Nat → Value
  | some r => .ref r
  | none => .null
def gF (μ : Mem) (k j t : Nat) : Value := match t with
  | 1 => .long (mL μ k j)
  | 4 => rfv (rt k j)
  | _ => .int (mI μ k j)
theorem wd_at {g : Gl} {μ : Mem} {k : Nat} (hk : k < NC) : (wd g μ)[k]? = some (ga g k, cE g μ k) := by simp [wd, hk]
theorem gr_lt {g : Gl} {k : Nat} (hk : k < NC) : gr g k = ga g k := if_pos (Nat.lt_trans hk (by decide))
theorem cE_obj {g : Gl} {μ : Mem} {k ci : Nat} (h : (sh k).1 = ci) (hc : ci < 100) : cE g μ k = .inr (ci, (List.range (sh k).2).map fun j => fv g μ k j (ftc ci j)) := by
  unfold cE; rw [if_pos (by rw [h]; exact hc), h]
theorem tv_gF {g : Gl} {μ : Mem} {k j t : Nat} (hk : k < NC) (hj : j < 32) : tv g (gF μ k j t) = fv g μ k j t := by
  unfold gF fv
  split
  · rfl
  · rw [if_neg (by decide), if_pos rfl]
    have := rt_lt k hk j hj
    cases h : rt k j with
    | none => rfl
    | some r =>
      rw [h] at this
      have hr : r < NC := by simpa using this
      show Value.ref (gr g r) = Value.ref (ga g r)
      rw [gr_lt hr]
  · rename_i h1 h2
    rw [if_neg h1, if_neg h2]; rfl
abbrev Fld : Type := Nat × Nat × Nat × Nat × Nat × Nat
/-- a field link of a class's pool: index, class, slot, kind (0 own, 1 a nest mate's, 2 inherited), the words' places -/
def flB (own : String) (q : Fld) : Bool := match cls[q.2.1]? with
  | none => false
  | some r => Nat.blt q.2.2.1 r.2.2 && (match q.2.2.2.1 with
    | 0 => tbAt (q.2.2.2.2.1, .fieldLink own q.1 (r.2.1 q.2.2.1).1 (r.2.1 q.2.2.1).2.1 (r.2.1 q.2.2.1).2.2.1)
    | 1 => nwAt (q.2.2.2.2.1, .fieldLinkNest own q.1 (r.2.1 q.2.2.1).1 (r.2.1 q.2.2.1).2.1 (r.2.1 q.2.2.1).2.2.1 "SaidOnce")
    | _ => tbAt (q.2.2.2.2.1, .fieldLink own q.1 own (r.2.1 q.2.2.1).2.1 (r.2.1 q.2.2.1).2.2.1) && tbAt (q.2.2.2.2.2, .sameField own (r.2.1 q.2.2.1).1 (r.2.1 q.2.2.1).2.1 (r.2.1 q.2.2.1).2.2.1))
section AM4
variable {g : Gl} {mi : MI} {R : Room} {Q : QT} {nc ns pc : Nat} {ls : List (Nat × Value)} {st : List Value} {μ : Mem}
theorem am_get {idx ci j kd p1 p2 k : Nat} (hq : flB (miY mi).cls (idx, ci, j, kd, p1, p2) = true) (hk : k < NC) (hc : (sh k).1 = ci) (hd : decode (miC mi) pc = .ok (.getfield idx, 3))
    (kk : Wm g mi R Q nc ns (pc + 3) ls (gF μ k j (ftc ci j) :: st) μ) : Wm g mi R Q nc ns pc ls (.ref k :: st) μ := by
  intro p e s m args below meth c C H locs L hR hS hl
  have k9 := kk p e s m args below meth c C H locs L hR hS hl
  obtain ⟨hx, hb, hml, hr, hlk, hown, hts, hex, hE⟩ := C
  unfold flB at hq
  cases hr0 : cls[ci]? with
  | none => simp only [hr0] at hq; cases hq
  | some r =>
    obtain ⟨Cn, T, N⟩ := r
    simp only [hr0, Bool.and_eq_true] at hq
    obtain ⟨hj, hq⟩ := hq
    have hj : j < N := Nat.le_of_ble_eq_true hj
    have hci : ci < 100 := Nat.lt_of_lt_of_le (List.getElem?_eq_some_iff.mp hr0).1 (by decide)
    have hn : (sh k).2 = N := by
      have := sh_n k hk (by rw [hc]; exact hci)
      rw [hc, hr0] at this
      exact (Option.some.inj this).symm
    have he : (wd g μ)[k]? = some (gr g k, .inr (ci, (List.range N).map fun j => fv g μ k j (ftc ci j))) := by
      rw [wd_at hk, gr_lt hk, cE_obj hc hci, hn]
    have hv : ((List.range N).map fun j => fv g μ k j (ftc ci j))[j]? = some (tv g (gF μ k j (ftc ci j))) := by
      rw [tv_gF hk (Nat.lt_of_lt_of_le hj (by rw [← hn]; exact sh_small k hk (by rw [hc]; exact hci)))]
      simp [hj]
    have hok := cls_ok hr0
    split at hq
    · exact va_get (ref := (T j).1) hx hb hts hok.1 hown hE.1 hR k he hr0 j hj (hts _ (tb_of hq)) (fun _ h => h) hv hd k9
    · exact va_getN (ref := (T j).1) hx hb hts hok.1 hown hE.1 hR k he hr0 j hj ((hE.2.1 _ (nw_of hq)).use rfl) (fun _ h => h) hv hd k9
    · simp only [Bool.and_eq_true] at hq
      exact va_get (ref := (miY mi).cls) hx hb hts hok.1 hown hE.1 hR k he hr0 j hj (hts _ (tb_of hq.1)) (fun x h => u_same (hts _ (tb_of hq.2)) x h) hv hd k9
end AM4
end
section
/-! writes -/
theorem wd_set {g : Gl} {μ μ' : Mem} {k : Nat} {e : va_E} (hk : k < NC) (he : cE g μ' k = e) (ho : ∀ i, i ≠ k → cE g μ' i = cE g μ i) : (wd g μ).set k (gr g k, e) = wd g μ' := by
  apply List.ext_getElem?
  intro i
  rw [List.getElem?_set]
  by_cases h : k = i
  · subst h
    rw [if_pos rfl, wd_at hk, gr_lt hk, he]
    simp [wd, hk]
  · rw [if_neg h]
    by_cases hi : i < NC
    · rw [wd_at hi, wd_at hi, ho i (fun q => h q.symm)]
    · simp [wd, hi]
theorem u2_row {α : Type} {f : Nat → Nat → α} {k j a : Nat} {v : α} (h : a ≠ k) : u2 f k j v a = f a := by funext b; simp [u2, h]
theorem u2_self {α : Type} {f : Nat → Nat → α} {k j b : Nat} {v : α} : u2 f k j v k b = if b = j then v else f k b := by simp [u2]
theorem cE_I {g : Gl} {μ : Mem} {k j i : Nat} {x : Int32} (h : i ≠ k) : cE g (sI μ k j x) i = cE g μ i := by
  have e1 : mI (sI μ k j x) i = mI μ i := u2_row h
  have e2 : mL (sI μ k j x) = mL μ := rfl
  have e3 : mP (sI μ k j x) = mP μ := rfl
  unfold cE fv; rw [e1, e2, e3]
theorem cE_L {g : Gl} {μ : Mem} {k j i : Nat} {x : Int64} (h : i ≠ k) : cE g (sL μ k j x) i = cE g μ i := by
  have e1 : mL (sL μ k j x) i = mL μ i := u2_row h
  have e2 : mI (sL μ k j x) = mI μ := rfl
  have e3 : mP (sL μ k j x) = mP μ := rfl
  unfold cE fv; rw [e1, e2, e3]
theorem cE_RI {g : Gl} {μ : Mem} {k i : Nat} {f : Nat → Int32} (h : i ≠ k) : cE g (sRI μ k f) i = cE g μ i := by
  have e1 : mI (sRI μ k f) i = mI μ i := by funext b; exact if_neg h
  have e2 : mL (sRI μ k f) = mL μ := rfl
  have e3 : mP (sRI μ k f) = mP μ := rfl
  unfold cE fv; rw [e1, e2, e3]
theorem cE_RL {g : Gl} {μ : Mem} {k i : Nat} {f : Nat → Int64} (h : i ≠ k) : cE g (sRL μ k f) i = cE g μ i := by
  have e1 : mL (sRL μ k f) i = mL μ i := by funext b; exact if_neg h
  have e2 : mI (sRL μ k f) = mI μ := rfl
  have e3 : mP (sRL μ k f) = mP μ := rfl
  unfold cE fv; rw [e1, e2, e3]
theorem D_wd {g : Gl} {μ : Mem} {s : State} (hE : EnvS g s) : va_D (gP g) (wd g μ) := by
  obtain ⟨-, -, -, -, -, -, -, -, -, -, h1, h2, -⟩ := hE
  have key : ∀ (k : Nat) (q : Nat × va_E), (wd g μ)[k]? = some q → k < NC ∧ q.1 = ga g k := by
    intro k q h
    have hk : k < NC := by have := (List.getElem?_eq_some_iff.mp h).1; simpa [wd] using this
    rw [wd_at hk] at h
    exact ⟨hk, by rw [← Option.some.inj h]⟩
  refine ⟨fun i j p q hp hq e => ?_, fun k q h => ?_⟩
  · obtain ⟨a1, a2⟩ := key i p hp
    obtain ⟨b1, b2⟩ := key j q hq
    exact h2 i j a1 b1 (by rw [← a2, ← b2, e])
  · obtain ⟨a1, a2⟩ := key k q h
    rw [a2]; exact h1 k a1
theorem ftc_ty : ∀ ci, ci < 12 → ∀ j, j < 32 → ∀ r, cls[ci]? = some r → j < r.2.2 → (ftc ci j = 0 ∧ cTy r.2.1 j = .int) ∨ (ftc ci j = 1 ∧ cTy r.2.1 j = .long) ∨ (ftc ci j = 3 ∧ cTy r.2.1 j = .boolean) ∨ ftc ci j = 4 := by
  intro ci hci
  match ci, hci with
  | 0, _ => intro j hj r hr; cases hr; revert j; decide +kernel
  | 1, _ => intro j hj r hr; cases hr; revert j; decide +kernel
  | 2, _ => intro j hj r hr; cases hr; revert j; decide +kernel
  | 3, _ => intro j hj r hr; cases hr; revert j; decide +kernel
  | 4, _ => intro j hj r hr; cases hr; revert j; decide +kernel
  | 5, _ => intro j hj r hr; cases hr; revert j; decide +kernel
  | 6, _ => intro j hj r hr; cases hr; revert j; decide +kernel
  | 7, _ => intro j hj r hr; cases hr; revert j; decide +kernel
  | 8, _ => intro j hj r hr; cases hr; revert j; decide +kernel
  | 9, _ => intro j hj r hr; cases hr; revert j; decide +kernel
  | 10, _ => intro j hj r hr; cases hr; revert j; decide +kernel
  | 11, _ => intro j hj r hr; cases hr; revert j; decide +kernel
  | n + 12, h => omega
/-- not final -/
def flW (q : Fld) : Bool := match cls[q.2.1]? with
  | none => false
  | some r => !(r.2.1 q.2.2.1).2.2.2
theorem set_map {α : Type} {f f' : Nat → α} {N j : Nat} {v : α} (hv : f' j = v) (ho : ∀ i, i ≠ j → f' i = f i) : ((List.range N).map f).set j v = (List.range N).map f' := by
  apply List.ext_getElem?
  intro i
  rw [List.getElem?_set]
  by_cases h : j = i
  · subst h
    by_cases hj : j < N
    · simp [hj, hv]
    · simp [hj]
  · rw [if_neg h]
    simp only [List.getElem?_map]
    by_cases hi : i < N
    · simp [hi, ho i (fun q => h q.symm)]
    · simp [hi]
section AM5
variable {g : Gl} {mi : MI} {R : Room} {Q : QT} {nc ns pc : Nat} {ls : List (Nat × Value)} {st : List Value} {μ : Mem}
theorem am_put {idx ci j kd p1 p2 k : Nat} {v : Value} {μ' : Mem} (hq : flB (miY mi).cls (idx, ci, j, kd, p1, p2) = true) (hw : flW (idx, ci, j, kd, p1, p2) = true) (hk : k < NC) (hc : (sh k).1 = ci)
    (hv : (∃ x, v = .int x ∧ μ' = sI μ k j x ∧ (ftc ci j = 0 ∨ ftc ci j = 3 ∧ (x = 0 ∨ x = 1))) ∨ ∃ x, v = .long x ∧ μ' = sL μ k j x ∧ ftc ci j = 1) (hd : decode (miC mi) pc = .ok (.putfield idx, 3))
    (kk : Wm g mi R Q nc ns (pc + 3) ls st μ') : Wm g mi R Q nc ns pc ls (v :: .ref k :: st) μ := by
  intro p e s m args below meth c C H locs L hR hS hl
  have k9 := kk p e s m args below meth c C
  obtain ⟨hx, hb, hml, hr, hlk, hown, hts, hex, hE⟩ := C
  unfold flB at hq
  unfold flW at hw
  cases hr0 : cls[ci]? with
  | none => simp only [hr0] at hq; cases hq
  | some r =>
    obtain ⟨Cn, T, N⟩ := r
    simp only [hr0, Bool.and_eq_true, Bool.not_eq_true'] at hq hw
    obtain ⟨hj, hq⟩ := hq
    have hj : j < N := Nat.le_of_ble_eq_true hj
    have hci12 : ci < 12 := (List.getElem?_eq_some_iff.mp hr0).1
    have hci : ci < 100 := Nat.lt_of_lt_of_le hci12 (by decide)
    have hn : (sh k).2 = N := by
      have := sh_n k hk (by rw [hc]; exact hci)
      rw [hc, hr0] at this
      exact (Option.some.inj this).symm
    have hj32 : j < 32 := Nat.lt_of_lt_of_le hj (by rw [← hn]; exact sh_small k hk (by rw [hc]; exact hci))
    have he : (wd g μ)[k]? = some (gr g k, .inr (ci, (List.range N).map fun j => fv g μ k j (ftc ci j))) := by
      rw [wd_at hk, gr_lt hk, cE_obj hc hci, hn]
    have hok := cls_ok hr0
    have hty := ftc_ty ci hci12 j hj32 _ hr0 hj
    have hD := D_wd (μ := μ) hE
    have hset : (wd g μ).set k (gr g k, .inr (ci, ((List.range N).map fun j => fv g μ k j (ftc ci j)).set j (tv g v))) = wd g μ' := by
      refine wd_set hk ?_ ?_
      · rw [cE_obj hc hci, hn]
        congr 2
        refine (set_map ?_ ?_).symm
        · rcases hv with ⟨x, rfl, rfl, h | ⟨h, -⟩⟩ | ⟨x, rfl, rfl, h⟩ <;> simp [fv, h, mI, mL, sI, sL, u2, tv]
        · intro i hi
          rcases hv with ⟨x, rfl, rfl, h⟩ | ⟨x, rfl, rfl, h⟩ <;> simp [fv, mI, mL, sI, sL, u2, hi]
      · intro i hi
        rcases hv with ⟨x, rfl, rfl, h⟩ | ⟨x, rfl, rfl, h⟩
        · exact cE_I hi
        · exact cE_L hi
    have hd9 : parseFieldDescriptor (T j).2.2.1 = some (cTy T j) := hok.2.1 j hj
    have hnf : narrow (cTy T j) (tv g v) = tv g v ∧ fits (cTy T j) (tv g v) = true := by
      rcases hv with ⟨x, rfl, -, h | ⟨h, h0⟩⟩ | ⟨x, rfl, -, h⟩
      · rcases hty with ⟨-, h2⟩ | ⟨h1, -⟩ | ⟨h1, -⟩ | h1
        · dsimp only at h2; rw [h2]; exact ⟨rfl, rfl⟩
        · rw [h] at h1; cases h1
        · rw [h] at h1; cases h1
        · rw [h] at h1; cases h1
      · rcases hty with ⟨h1, -⟩ | ⟨h1, -⟩ | ⟨-, h2⟩ | h1
        · rw [h] at h1; cases h1
        · rw [h] at h1; cases h1
        · dsimp only at h2; rw [h2]
          rcases h0 with rfl | rfl
          · exact (by decide +kernel : narrow .boolean (.int 0) = .int 0 ∧ fits .boolean (.int 0) = true)
          · exact (by decide +kernel : narrow .boolean (.int 1) = .int 1 ∧ fits .boolean (.int 1) = true)
        · rw [h] at h1; cases h1
      · rcases hty with ⟨h1, -⟩ | ⟨-, h2⟩ | ⟨h1, -⟩ | h1
        · rw [h] at h1; cases h1
        · dsimp only at h2; rw [h2]; exact ⟨rfl, rfl⟩
        · rw [h] at h1; cases h1
        · rw [h] at h1; cases h1
    have hlen : j < ((List.range N).map fun j => fv g μ k j (ftc ci j)).length := by simpa using hj
    have fin : ∀ (H1 : Heap) (locs1 : List Loc), va_P (gD g) cls ((wd g μ).set k (gr g k, .inr (ci, ((List.range N).map fun j => fv g μ k j (ftc ci j)).set j (tv g v)))) H1 → va_D (gP g) ((wd g μ).set k (gr g k, .inr (ci, ((List.range N).map fun j => fv g μ k j (ftc ci j)).set j (tv g v)))) → va_S (gP g) s.heap H1 locs1 → W p (gl g) e R s m args below meth c H1 locs1 nc ns (Q below args s) (F0 m (pc + 3) L (st.map (tv g))) := by
      intro H1 locs1 hP1 hD1 hS1
      rw [hset] at hP1
      exact k9 H1 locs1 L hP1 hS1 hl
    split at hq
    · exact va_put (ref := (T j).1) hx hb hts hok.1 (cTy T) hok.2.1 hok.2.2 hown hE.1 hR hD hS k he hr0 j hj (hts _ (tb_of hq)) (fun _ h => h) hw hd9 hnf.1 hnf.2 hlen hd fin
    · exact va_putN (ref := (T j).1) hx hb hts hok.1 (cTy T) hok.2.1 hok.2.2 hown hE.1 hR hD hS k he hr0 j hj ((hE.2.1 _ (nw_of hq)).use rfl) (fun _ h => h) hw hd9 hnf.1 hnf.2 hlen hd fin
    · simp only [Bool.and_eq_true] at hq
      exact va_put (ref := (miY mi).cls) hx hb hts hok.1 (cTy T) hok.2.1 hok.2.2 hown hE.1 hR hD hS k he hr0 j hj (hts _ (tb_of hq.1)) (fun x h => u_same (hts _ (tb_of hq.2)) x h) hw hd9 hnf.1 hnf.2 hlen hd fin
end AM5
end
section
/-! arrays -/
def nx (i : Int32) : Nat := i.toNatClampNeg
theorem cE_i {g : Gl} {μ : Mem} {k t : Nat} (h : (sh k).1 = 100 + t) (h1 : t ≠ 1) (h4 : t ≠ 4) : cE g μ k = .inl (gA g t, (sh k).2, .inl (mI μ k)) := by
  unfold cE; rw [h, if_neg (by omega), if_neg (by omega), if_neg (by omega), Nat.add_sub_cancel_left]
theorem cE_l {g : Gl} {μ : Mem} {k : Nat} (h : (sh k).1 = 101) : cE g μ k = .inl (gA g 1, (sh k).2, .inr (.inl (mL μ k))) := by
  unfold cE; rw [h, if_neg (by omega), if_pos rfl]
theorem cE_a {g : Gl} {μ : Mem} {k : Nat} (h : (sh k).1 = 104) : cE g μ k = .inl (gA g 4, (sh k).2, .inr (.inr (.inr (.inr fun i => some (ga g (mP μ i)))))) := by
  unfold cE; rw [h, if_neg (by omega), if_neg (by omega), if_pos rfl]
theorem past_only : ∀ k, k < NC → (sh k).1 = 104 → k = 91 := by decide +kernel
section AM6
variable {g : Gl} {mi : MI} {R : Room} {Q : QT} {nc ns pc : Nat} {ls : List (Nat × Value)} {st : List Value} {μ : Mem}
theorem am_iald {k : Nat} {i : Int32} (hk : k < NC) (hc : (sh k).1 = 100) (hi : vp_in i (sh k).2) (hd : decode (miC mi) pc = .ok (.iaload, 1)) (kk : Wm g mi R Q nc ns (pc + 1) ls (.int (mI μ k (nx i)) :: st) μ) : Wm g mi R Q nc ns pc ls (.int i :: .ref k :: st) μ := by
  intro p e s m args below meth c C H locs L hR hS hl
  exact va_iald C.1 C.2.1 C.2.2.2.2.2.2.2.2.1 hR k 0 (by rw [wd_at hk, cE_i (t := 0) hc (by decide) (by decide)]; rw [gr_lt hk]) rfl hi hd (kk p e s m args below meth c C H locs L hR hS hl)
theorem am_bald {k : Nat} {i : Int32} (hk : k < NC) (hc : (sh k).1 = 102) (hi : vp_in i (sh k).2) (hd : decode (miC mi) pc = .ok (.baload, 1)) (kk : Wm g mi R Q nc ns (pc + 1) ls (.int (mI μ k (nx i)) :: st) μ) : Wm g mi R Q nc ns pc ls (.int i :: .ref k :: st) μ := by
  intro p e s m args below meth c C H locs L hR hS hl
  exact va_bald C.1 C.2.1 C.2.2.2.2.2.2.2.2.1 hR k 2 (by rw [wd_at hk, cE_i (t := 2) hc (by decide) (by decide)]; rw [gr_lt hk]) rfl hi hd (kk p e s m args below meth c C H locs L hR hS hl)
theorem am_zald {k : Nat} {i : Int32} (hk : k < NC) (hc : (sh k).1 = 103) (hi : vp_in i (sh k).2) (hd : decode (miC mi) pc = .ok (.baload, 1)) (kk : Wm g mi R Q nc ns (pc + 1) ls (.int (mI μ k (nx i)) :: st) μ) : Wm g mi R Q nc ns pc ls (.int i :: .ref k :: st) μ := by
  intro p e s m args below meth c C H locs L hR hS hl
  exact va_zald C.1 C.2.1 C.2.2.2.2.2.2.2.2.1 hR k 3 (by rw [wd_at hk, cE_i (t := 3) hc (by decide) (by decide)]; rw [gr_lt hk]) rfl hi hd (kk p e s m args below meth c C H locs L hR hS hl)
theorem am_lald {k : Nat} {i : Int32} (hk : k < NC) (hc : (sh k).1 = 101) (hi : vp_in i (sh k).2) (hd : decode (miC mi) pc = .ok (.laload, 1)) (kk : Wm g mi R Q nc ns (pc + 1) ls (.long (mL μ k (nx i)) :: st) μ) : Wm g mi R Q nc ns pc ls (.int i :: .ref k :: st) μ := by
  intro p e s m args below meth c C H locs L hR hS hl
  exact va_lald C.1 C.2.1 C.2.2.2.2.2.2.2.2.1 hR k 1 (by rw [wd_at hk, cE_l hc]; rw [gr_lt hk]) rfl hi hd (kk p e s m args below meth c C H locs L hR hS hl)
theorem am_aald {k : Nat} {i : Int32} (hk : k < NC) (hc : (sh k).1 = 104) (hi : vp_in i (sh k).2) (hv : mP μ (nx i) < NC) (hd : decode (miC mi) pc = .ok (.aaload, 1)) (kk : Wm g mi R Q nc ns (pc + 1) ls (.ref (mP μ (nx i)) :: st) μ) : Wm g mi R Q nc ns pc ls (.int i :: .ref k :: st) μ := by
  intro p e s m args below meth c C H locs L hR hS hl
  have k9 := kk p e s m args below meth c C H locs L hR hS hl
  rw [List.map_cons, show tv g (.ref (mP μ (nx i))) = .ref (ga g (mP μ (nx i))) by rw [← gr_lt hv]; rfl] at k9
  have ha : (wd g μ)[k]? = some (gr g k, .inl (gA g 4, (sh k).2, .inr (.inr (.inr (.inr fun i => some (ga g (mP μ i))))))) := by rw [wd_at hk, cE_a hc, gr_lt hk]
  exact va_aldq C.1 C.2.1 C.2.2.2.2.2.2.2.2.1 hR k 4 ha rfl hi hd k9
theorem am_sald {i : Int32} (hi : vp_in i (gN g)) (hd : decode (miC mi) pc = .ok (.iaload, 1)) (kk : Wm g mi R Q nc ns (pc + 1) ls (.int (gX g (nx i)) :: st) μ) : Wm g mi R Q nc ns pc ls (.int i :: .ref 2000 :: st) μ := by
  intro p e s m args below meth c C H locs L hR hS hl
  obtain ⟨-, -, -, -, -, -, h7, -, h9, h10, -⟩ := C.2.2.2.2.2.2.2.2
  exact va_sld C.1 C.2.1 h9 (Nat.lt_of_lt_of_le h10 h7) (Nat.not_le.mpr h10) hS hi hd (kk p e s m args below meth c C H locs L hR hS hl)
theorem am_slen (hd : decode (miC mi) pc = .ok (.arraylength, 1)) (kk : Wm g mi R Q nc ns (pc + 1) ls (.int (nI (gN g)) :: st) μ) : Wm g mi R Q nc ns pc ls (.ref 2000 :: st) μ := by
  intro p e s m args below meth c C H locs L hR hS hl
  obtain ⟨-, -, -, -, -, -, h7, -, h9, h10, -⟩ := C.2.2.2.2.2.2.2.2
  exact va_slen C.1 C.2.1 h9 (Nat.lt_of_lt_of_le h10 h7) (Nat.not_le.mpr h10) hS hd (kk p e s m args below meth c C H locs L hR hS hl)
theorem am_len {k : Nat} (hk : k < NC) (hc : 100 ≤ (sh k).1) (hc5 : (sh k).1 < 105) (hd : decode (miC mi) pc = .ok (.arraylength, 1)) (kk : Wm g mi R Q nc ns (pc + 1) ls (.int (nI (sh k).2) :: st) μ) : Wm g mi R Q nc ns pc ls (.ref k :: st) μ := by
  intro p e s m args below meth c C H locs L hR hS hl
  have k9 := kk p e s m args below meth c C H locs L hR hS hl
  have hE := C.2.2.2.2.2.2.2.2
  obtain ⟨t, ht⟩ : ∃ t, (sh k).1 = 100 + t := ⟨(sh k).1 - 100, by omega⟩
  have ht5 : t < 5 := by omega
  match t, ht5, ht with
  | 0, _, ht => exact va_alen (x := ((sh k).2, .inl (mI μ k))) C.1 C.2.1 hE.1 hR k 0 (by rw [wd_at hk, cE_i (t := 0) ht (by decide) (by decide)]; rw [gr_lt hk]) rfl rfl hd k9
  | 1, _, ht => exact va_alen (x := ((sh k).2, .inr (.inl (mL μ k)))) C.1 C.2.1 hE.1 hR k 1 (by rw [wd_at hk, cE_l ht]; rw [gr_lt hk]) rfl rfl hd k9
  | 2, _, ht => exact va_alen (x := ((sh k).2, .inl (mI μ k))) C.1 C.2.1 hE.1 hR k 2 (by rw [wd_at hk, cE_i (t := 2) ht (by decide) (by decide)]; rw [gr_lt hk]) rfl rfl hd k9
  | 3, _, ht => exact va_alen (x := ((sh k).2, .inl (mI μ k))) C.1 C.2.1 hE.1 hR k 3 (by rw [wd_at hk, cE_i (t := 3) ht (by decide) (by decide)]; rw [gr_lt hk]) rfl rfl hd k9
  | 4, _, ht => exact va_alen (x := ((sh k).2, .inr (.inr (.inr (.inr fun i => some (ga g (mP μ i))))))) C.1 C.2.1 hE.1 hR k 4 (by rw [wd_at hk, cE_a ht]; rw [gr_lt hk]) rfl rfl hd k9
theorem cE_setI {μ : Mem} {k i t : Nat} {x : Int32} (hc : (sh k).1 = 100 + t) (h1 : t ≠ 1) (h4 : t ≠ 4) : cE g (sI μ k i x) k = .inl (gA g t, (sh k).2, .inl (upd (mI μ k) i x)) := by
  rw [cE_i hc h1 h4]
  have : mI (sI μ k i x) k = upd (mI μ k) i x := by funext b; exact u2_self
  rw [this]
theorem am_iast {k : Nat} {i x : Int32} (hk : k < NC) (hc : (sh k).1 = 100) (hi : vp_in i (sh k).2) (hd : decode (miC mi) pc = .ok (.iastore, 1)) (kk : Wm g mi R Q nc ns (pc + 1) ls st (sI μ k (nx i) x)) : Wm g mi R Q nc ns pc ls (.int x :: .int i :: .ref k :: st) μ := by
  intro p e s m args below meth c C H locs L hR hS hl
  have hE := C.2.2.2.2.2.2.2.2
  refine va_iast C.1 C.2.1 hE.1 hR (D_wd hE) hS k 0 (by rw [wd_at hk, cE_i (t := 0) hc (by decide) (by decide)]; rw [gr_lt hk]) rfl hi hd fun H1 locs1 hP1 hD1 hS1 => ?_
  rw [wd_set hk (cE_setI (t := 0) hc (by decide) (by decide)) (fun a ha => cE_I ha)] at hP1
  exact kk p e s m args below meth c C H1 locs1 L hP1 hS1 hl
theorem am_bast {k : Nat} {i x : Int32} (hk : k < NC) (hc : (sh k).1 = 102) (hi : vp_in i (sh k).2) (hd : decode (miC mi) pc = .ok (.bastore, 1)) (kk : Wm g mi R Q nc ns (pc + 1) ls st (sI μ k (nx i) x.toInt8.toInt32)) : Wm g mi R Q nc ns pc ls (.int x :: .int i :: .ref k :: st) μ := by
  intro p e s m args below meth c C H locs L hR hS hl
  have hE := C.2.2.2.2.2.2.2.2
  refine va_bast C.1 C.2.1 hE.1 hR (D_wd hE) hS k 2 (by rw [wd_at hk, cE_i (t := 2) hc (by decide) (by decide)]; rw [gr_lt hk]) rfl hi hd fun H1 locs1 hP1 hD1 hS1 => ?_
  rw [vp_nar_byte, wd_set hk (cE_setI (t := 2) hc (by decide) (by decide)) (fun a ha => cE_I ha)] at hP1
  exact kk p e s m args below meth c C H1 locs1 L hP1 hS1 hl
theorem am_zast {k : Nat} {i x : Int32} (hk : k < NC) (hc : (sh k).1 = 103) (hi : vp_in i (sh k).2) (hx : x = 0 ∨ x = 1) (hd : decode (miC mi) pc = .ok (.bastore, 1)) (kk : Wm g mi R Q nc ns (pc + 1) ls st (sI μ k (nx i) x)) : Wm g mi R Q nc ns pc ls (.int x :: .int i :: .ref k :: st) μ := by
  intro p e s m args below meth c C H locs L hR hS hl
  have hE := C.2.2.2.2.2.2.2.2
  have hz : vp_nar .boolean x = x := by rcases hx with rfl | rfl <;> decide +kernel
  refine va_zast C.1 C.2.1 hE.1 hR (D_wd hE) hS k 3 (by rw [wd_at hk, cE_i (t := 3) hc (by decide) (by decide)]; rw [gr_lt hk]) rfl hi hd fun H1 locs1 hP1 hD1 hS1 => ?_
  rw [hz, wd_set hk (cE_setI (t := 3) hc (by decide) (by decide)) (fun a ha => cE_I ha)] at hP1
  exact kk p e s m args below meth c C H1 locs1 L hP1 hS1 hl
theorem am_last {k : Nat} {i : Int32} {x : Int64} (hk : k < NC) (hc : (sh k).1 = 101) (hi : vp_in i (sh k).2) (hd : decode (miC mi) pc = .ok (.lastore, 1)) (kk : Wm g mi R Q nc ns (pc + 1) ls st (sL μ k (nx i) x)) : Wm g mi R Q nc ns pc ls (.long x :: .int i :: .ref k :: st) μ := by
  intro p e s m args below meth c C H locs L hR hS hl
  have hE := C.2.2.2.2.2.2.2.2
  refine va_last C.1 C.2.1 hE.1 hR (D_wd hE) hS k 1 (by rw [wd_at hk, cE_l hc]; rw [gr_lt hk]) rfl hi hd fun H1 locs1 hP1 hD1 hS1 => ?_
  rw [wd_set (μ' := sL μ k (nx i) x) hk ?_ (fun a ha => cE_L ha)] at hP1
  · exact kk p e s m args below meth c C H1 locs1 L hP1 hS1 hl
  · rw [cE_l hc]
    have : mL (sL μ k (nx i) x) k = vp_updL (mL μ k) (nx i) x := by funext b; exact u2_self
    rw [this]; rfl
theorem am_aast {k v : Nat} {i : Int32} (hk : k < NC) (hc : (sh k).1 = 104) (hi : vp_in i (sh k).2) (hv : v < NC) (hs : (sh v).1 = 8) (hd : decode (miC mi) pc = .ok (.aastore, 1)) (kk : Wm g mi R Q nc ns (pc + 1) ls st (sP μ (nx i) v)) : Wm g mi R Q nc ns pc ls (.ref v :: .int i :: .ref k :: st) μ := by
  intro p e s m args below meth c C H locs L hR hS hl
  have hE := C.2.2.2.2.2.2.2.2
  have hv1 : (wd g μ)[v]? = some (gr g v, .inr (8, (List.range (sh v).2).map fun j => fv g μ v j (ftc 8 j))) := by rw [wd_at hv, cE_obj hs (by decide), gr_lt hv]
  refine va_astq C.1 C.2.1 hE.1 hR (D_wd hE) hS k 4 v 8 (r := ("SaidOnce$State", cT8, 8)) (by rw [wd_at hk, cE_a hc]; rw [gr_lt hk]) rfl hv1 rfl hi hd fun H1 locs1 hP1 hD1 hS1 => ?_
  rw [wd_set (μ' := sP μ (nx i) v) hk ?_ ?_] at hP1
  · exact kk p e s m args below meth c C H1 locs1 L hP1 hS1 hl
  · rw [cE_a hc]
    have : (fun j => some (ga g (mP (sP μ (nx i) v) j))) = va_up (fun j => some (ga g (mP μ j))) (nx i) (some (gr g v)) := by
      funext b
      show some (ga g (va_up (mP μ) (nx i) v b)) = _
      unfold va_up
      by_cases h : b = nx i
      · rw [if_pos h, if_pos h, gr_lt hv]
      · rw [if_neg h, if_neg h]
    rw [this]; rfl
  · intro a ha
    have e1 : mI (sP μ (nx i) v) = mI μ := rfl
    have e2 : mL (sP μ (nx i) v) = mL μ := rfl
    by_cases h4 : (sh a).1 = 104
    · by_cases han : a < NC
      · exact absurd ((past_only a han h4).trans (past_only k hk hc).symm) ha
      · exfalso
        have h5 : sh a = (999, 0) ∨ a < 160 := by
          by_cases h : a < 160
          · exact Or.inr h
          · left
            have h10 : SH.length = 10 := by decide +kernel
            have : SH.getD (a / 16) [] = [] := by rw [List.getD_eq_getElem?_getD, List.getElem?_eq_none (by omega)]; rfl
            unfold sh; rw [this]; rfl
        rcases h5 with h5 | h5
        · rw [h5] at h4; cases h4
        · have : ∀ a, a < 160 → ¬ a < NC → (sh a).1 ≠ 104 := by decide +kernel
          exact this a h5 han h4
    · unfold cE fv; rw [e1, e2, if_neg h4, if_neg h4]
end AM6
end
section
/-! constants, switches, copies -/
theorem iv_toInt {n : Int} (h1 : -2147483648 ≤ n) (h2 : n < 2147483648) : (iv n).toInt = n := by
  rw [← iv_ofInt]; exact Int32.toInt_ofInt_of_le h1 h2
/-- a switch as a chain of questions -/
def tsw (x : Int32) (K : Int → Prop) (d : Int) : Int → List Int → Prop
  | _, [] => K d
  | lo, o :: os => (x = iv lo → K o) ∧ (¬ x = iv lo → tsw x K d (lo + 1) os)
theorem tsw_out {x : Int32} {K : Int → Prop} {d : Int} : ∀ (os : List Int) (lo : Int), -2147483648 ≤ lo → lo + os.length ≤ 2147483648 → tsw x K d lo os → (x.toInt < lo ∨ lo + os.length ≤ x.toInt) → K d := by
  intro os
  induction os with
  | nil => intro lo _ _ h _; exact h
  | cons o os ih =>
    intro lo h1 h2 h hx
    rw [List.length_cons] at h2 hx
    have hne : ¬ x = iv lo := fun e => by rw [e, iv_toInt h1 (by omega)] at hx; omega
    exact ih (lo + 1) (by omega) (by omega) (h.2 hne) (by omega)
theorem tsw_in {x : Int32} {K : Int → Prop} {d : Int} : ∀ (os : List Int) (lo : Int) (j : Nat) (o : Int), -2147483648 ≤ lo → lo + os.length ≤ 2147483648 → tsw x K d lo os → x.toInt = lo + j → os[j]? = some o → K o := by
  intro os
  induction os with
  | nil => intro lo j o _ _ _ _ ho; simp at ho
  | cons o' os ih =>
    intro lo j o h1 h2 h hx ho
    rw [List.length_cons] at h2
    cases j with
    | zero =>
      have e : x = iv lo := Int32.toInt_inj.mp (by rw [iv_toInt h1 (by omega)]; omega)
      simp only [List.getElem?_cons_zero, Option.some.injEq] at ho
      rw [← ho]; exact h.1 e
    | succ j =>
      have hne : ¬ x = iv lo := fun e => by rw [e, iv_toInt h1 (by omega)] at hx; omega
      exact ih (lo + 1) j o (by omega) (by omega) (h.2 hne) (by omega) (by simpa using ho)
theorem cE_cpI {g : Gl} {μ : Mem} {k t : Nat} {f : Nat → Int32} (hc : (sh k).1 = 100 + t) (h1 : t ≠ 1) (h4 : t ≠ 4) : cE g (sRI μ k f) k = .inl (gA g t, (sh k).2, .inl f) := by
  rw [cE_i hc h1 h4]
  have : mI (sRI μ k f) k = f := by funext b; exact if_pos rfl
  rw [this]
theorem cE_cpL {g : Gl} {μ : Mem} {k : Nat} {f : Nat → Int64} (hc : (sh k).1 = 101) : cE g (sRL μ k f) k = .inl (gA g 1, (sh k).2, .inr (.inl f)) := by
  rw [cE_l hc]
  have : mL (sRL μ k f) k = f := by funext b; exact if_pos rfl
  rw [this]
theorem acpW : nativeFrameWords "java/lang/System" "arraycopy" 5 + 11 ≤ 90 := by decide +kernel
def acpB (own : String) (q : Nat × Nat × Nat × Nat × Nat) : Bool := tbAt (q.2.1, .methodLink own q.1 arraycopyName) && tbAt (q.2.2.1, .native arraycopyName) && tbAt (q.2.2.2.1, .static arraycopyName) && tbAt (q.2.2.2.2, .initialized "java/lang/System")
def acpOK (sp dp n : Int32) (k0 k1 : Nat) : Prop := ¬ sp < 0 ∧ ¬ dp < 0 ∧ ¬ n < 0 ∧ nx sp + nx n ≤ (sh k0).2 ∧ nx dp + nx n ≤ (sh k1).2
section AM7
variable {g : Gl} {mi : MI} {R : Room} {Q : QT} {nc ns pc : Nat} {ls : List (Nat × Value)} {st : List Value} {μ : Mem}
theorem am_ldc {idx pl : Nat} {v : Int32} (hq : tbAt (pl, .constant (miY mi).cls idx v) = true) (hd : decode (miC mi) pc = .ok (.ldc idx, 2)) (k : Wm g mi R Q nc ns (pc + 2) ls (.int v :: st) μ) : Wm g mi R Q nc ns pc ls st μ := fun p e s m args below meth c C H locs L hR hS hl =>
  lv_ldc C.1 C.2.1 C.2.2.2.2.2.1 (C.2.2.2.2.2.2.1 _ (tb_of hq)) hd (k p e s m args below meth c C H locs L hR hS hl)
theorem am_ldcw {idx pl : Nat} {v : Int32} (hq : tbAt (pl, .constant (miY mi).cls idx v) = true) (hd : decode (miC mi) pc = .ok (.ldc_w idx, 3)) (k : Wm g mi R Q nc ns (pc + 3) ls (.int v :: st) μ) : Wm g mi R Q nc ns pc ls st μ := fun p e s m args below meth c C H locs L hR hS hl =>
  lv_ldcw C.1 C.2.1 C.2.2.2.2.2.1 (C.2.2.2.2.2.2.1 _ (tb_of hq)) hd (k p e s m args below meth c C H locs L hR hS hl)
theorem am_ldc2 {idx pl : Nat} {v : Int64} (hq : tbAt (pl, .constantLong (miY mi).cls idx v) = true) (hd : decode (miC mi) pc = .ok (.ldc2_w idx, 3)) (k : Wm g mi R Q nc ns (pc + 3) ls (.long v :: st) μ) : Wm g mi R Q nc ns pc ls st μ := fun p e s m args below meth c C H locs L hR hS hl =>
  lv_ldc2 C.1 C.2.1 C.2.2.2.2.2.1 (C.2.2.2.2.2.2.1 _ (tb_of hq)) hd (k p e s m args below meth c C H locs L hR hS hl)
def strB (own : String) (q : Nat × Nat) : Bool := Nat.blt q.2 61 && decide ((STR.getD q.2 ("", 0, "")).1 = own) && decide ((STR.getD q.2 ("", 0, "")).2.1 = q.1)
theorem am_ldcS {idx j : Nat} (hq : strB (miY mi).cls (idx, j) = true) (hd : decode (miC mi) pc = .ok (.ldc idx, 2)) (k : Wm g mi R Q nc ns (pc + 2) ls (.ref (1000 + j) :: st) μ) : Wm g mi R Q nc ns pc ls st μ := by
  intro p e s m args below meth c C H locs L hR hS hl
  have k9 := k p e s m args below meth c C H locs L hR hS hl
  simp only [strB, Bool.and_eq_true, decide_eq_true_eq] at hq
  obtain ⟨⟨h1, h2⟩, h3⟩ := hq
  have h1 : j < 61 := Nat.le_of_ble_eq_true h1
  have hs := (C.2.2.2.2.2.2.2.2.2.2.1 j h1).1
  rw [h2, h3] at hs
  have e1 : tv g (.ref (1000 + j)) = .ref (gs g j) := by
    show Value.ref (gr g (1000 + j)) = _
    unfold gr
    rw [if_neg (by omega), if_pos (by omega), Nat.add_sub_cancel_left]
  rw [List.map_cons, e1] at k9
  exact va_ldcS C.1 C.2.1 C.2.2.2.2.2.1 hs hd k9
theorem am_tsw {x : Int32} {d lo hi : Int} {offs : Array Int} {len : Nat} (h1 : -2147483648 ≤ lo) (h2 : hi < 2147483648) (h3 : lo + offs.toList.length = hi + 1) (h4 : 0 ≤ (pc : Int) + d) (h5 : ∀ o ∈ offs.toList, 0 ≤ (pc : Int) + o) (hd : decode (miC mi) pc = .ok (.tableswitch d lo hi offs, len))
    (k : tsw x (fun o => Wm g mi R Q nc ns (jt pc o) ls st μ) d lo offs.toList) : Wm g mi R Q nc ns pc ls (.int x :: st) μ := by
  intro p e s m args below meth c C H locs L hR hS hl
  by_cases hx : x.toInt < lo ∨ hi < x.toInt
  · exact lv_tableOut C.1 C.2.1 hd hx (jt_ok h4) (tsw_out _ _ h1 (by omega) k (by omega) p e s m args below meth c C H locs L hR hS hl)
  · have hx1 : ¬ x.toInt < lo := fun z => hx (Or.inl z)
    have hx2 : ¬ hi < x.toInt := fun z => hx (Or.inr z)
    obtain ⟨j, hj⟩ : ∃ j : Nat, x.toInt = lo + j := ⟨(x.toInt - lo).toNat, by omega⟩
    have hjl : j < offs.toList.length := by omega
    have ho : offs.toList[j]? = some offs.toList[j] := List.getElem?_eq_getElem hjl
    refine lv_tableIn C.1 C.2.1 hd hx1 hx2 (off := offs.toList[j]) ?_ (jt_ok (h5 _ (List.getElem_mem hjl))) (tsw_in _ _ j _ h1 (by omega) k hj ho p e s m args below meth c C H locs L hR hS hl)
    have : (x.toInt - lo).toNat = j := by omega
    rw [this, ← Array.getElem?_toList]; exact ho
theorem am_acpI {idx a1 a2 a3 a4 k0 k1 : Nat} {sp dp n : Int32} (hq : acpB (miY mi).cls (idx, a1, a2, a3, a4) = true) (hR1 : 1 ≤ R.frames) (hR2 : 90 ≤ R.locals) (hk0 : k0 < NC) (hk1 : k1 < NC) (hc0 : (sh k0).1 = 100) (hc1 : (sh k1).1 = 100) (hn : acpOK sp dp n k0 k1) (hd : decode (miC mi) pc = .ok (.invokestatic idx, 3))
    (kk : Wm g mi R Q nc ns (pc + 3) ls [] (sRI μ k1 (va_cpy (mI μ k0) (mI μ k1) (nx sp) (nx dp) (nx n)))) : Wm g mi R Q nc ns pc ls [.int n, .int dp, .ref k1, .int sp, .ref k0] μ := by
  intro p e s m args below meth c C H locs L hR hS hl
  have C' := C
  obtain ⟨hx, hb, hml, hr, hlk, hown, hts, hex, hE⟩ := C'
  simp only [acpB, Bool.and_eq_true] at hq
  obtain ⟨⟨⟨q1, q2⟩, q3⟩, q4⟩ := hq
  obtain ⟨n1, n2, n3, n4, n5⟩ := hn
  refine va_copyi hx hb (hml.trans hl.1.symm) hown (hts _ (tb_of q1)) (hts _ (tb_of q2)) (hts _ (tb_of q3)) (hts _ (tb_of q4)) hE.1 hR (D_wd hE) hS k0 k1 0 0 (ty := .int) (by rw [wd_at hk0, cE_i (t := 0) hc0 (by decide) (by decide)]; rw [gr_lt hk0]) (by rw [wd_at hk1, cE_i (t := 0) hc1 (by decide) (by decide)]; rw [gr_lt hk1]) rfl rfl rfl n1 n2 n3 n4 n5 (fun i _ => rfl) hR1 (Nat.le_trans (by simpa using acpW) hR2) hd fun H1 locs1 hP1 hD1 hS1 => ?_
  rw [wd_set hk1 (cE_cpI (t := 0) hc1 (by decide) (by decide)) (fun a ha => cE_RI ha)] at hP1
  exact kk p e s m args below meth c C H1 locs1 L hP1 hS1 hl
theorem am_acpZ {idx a1 a2 a3 a4 k0 k1 : Nat} {sp dp n : Int32} (hq : acpB (miY mi).cls (idx, a1, a2, a3, a4) = true) (hR1 : 1 ≤ R.frames) (hR2 : 90 ≤ R.locals) (hk0 : k0 < NC) (hk1 : k1 < NC) (hc0 : (sh k0).1 = 103) (hc1 : (sh k1).1 = 103) (hn : acpOK sp dp n k0 k1) (hz : ∀ i, i < nx n → mI μ k0 (nx sp + i) = 0 ∨ mI μ k0 (nx sp + i) = 1) (hd : decode (miC mi) pc = .ok (.invokestatic idx, 3))
    (kk : Wm g mi R Q nc ns (pc + 3) ls [] (sRI μ k1 (va_cpy (mI μ k0) (mI μ k1) (nx sp) (nx dp) (nx n)))) : Wm g mi R Q nc ns pc ls [.int n, .int dp, .ref k1, .int sp, .ref k0] μ := by
  intro p e s m args below meth c C H locs L hR hS hl
  have C' := C
  obtain ⟨hx, hb, hml, hr, hlk, hown, hts, hex, hE⟩ := C'
  simp only [acpB, Bool.and_eq_true] at hq
  obtain ⟨⟨⟨q1, q2⟩, q3⟩, q4⟩ := hq
  obtain ⟨n1, n2, n3, n4, n5⟩ := hn
  refine va_copyi hx hb (hml.trans hl.1.symm) hown (hts _ (tb_of q1)) (hts _ (tb_of q2)) (hts _ (tb_of q3)) (hts _ (tb_of q4)) hE.1 hR (D_wd hE) hS k0 k1 3 3 (ty := .boolean) (by rw [wd_at hk0, cE_i (t := 3) hc0 (by decide) (by decide)]; rw [gr_lt hk0]) (by rw [wd_at hk1, cE_i (t := 3) hc1 (by decide) (by decide)]; rw [gr_lt hk1]) rfl rfl rfl n1 n2 n3 n4 n5 (fun i hi => by rcases hz i hi with h | h <;> (unfold nx at h; rw [h]; decide +kernel)) hR1 (Nat.le_trans (by simpa using acpW) hR2) hd fun H1 locs1 hP1 hD1 hS1 => ?_
  rw [wd_set hk1 (cE_cpI (t := 3) hc1 (by decide) (by decide)) (fun a ha => cE_RI ha)] at hP1
  exact kk p e s m args below meth c C H1 locs1 L hP1 hS1 hl
theorem am_acpL {idx a1 a2 a3 a4 k0 k1 : Nat} {sp dp n : Int32} (hq : acpB (miY mi).cls (idx, a1, a2, a3, a4) = true) (hR1 : 1 ≤ R.frames) (hR2 : 90 ≤ R.locals) (hk0 : k0 < NC) (hk1 : k1 < NC) (hc0 : (sh k0).1 = 101) (hc1 : (sh k1).1 = 101) (hn : acpOK sp dp n k0 k1) (hd : decode (miC mi) pc = .ok (.invokestatic idx, 3))
    (kk : Wm g mi R Q nc ns (pc + 3) ls [] (sRL μ k1 (va_cpy (mL μ k0) (mL μ k1) (nx sp) (nx dp) (nx n)))) : Wm g mi R Q nc ns pc ls [.int n, .int dp, .ref k1, .int sp, .ref k0] μ := by
  intro p e s m args below meth c C H locs L hR hS hl
  have C' := C
  obtain ⟨hx, hb, hml, hr, hlk, hown, hts, hex, hE⟩ := C'
  simp only [acpB, Bool.and_eq_true] at hq
  obtain ⟨⟨⟨q1, q2⟩, q3⟩, q4⟩ := hq
  obtain ⟨n1, n2, n3, n4, n5⟩ := hn
  refine va_copyl hx hb (hml.trans hl.1.symm) hown (hts _ (tb_of q1)) (hts _ (tb_of q2)) (hts _ (tb_of q3)) (hts _ (tb_of q4)) hE.1 hR (D_wd hE) hS k0 k1 1 1 (ty := .long) (by rw [wd_at hk0, cE_l hc0]; rw [gr_lt hk0]) (by rw [wd_at hk1, cE_l hc1]; rw [gr_lt hk1]) rfl rfl rfl n1 n2 n3 n4 n5 (fun i _ => rfl) hR1 (Nat.le_trans (by simpa using acpW) hR2) hd fun H1 locs1 hP1 hD1 hS1 => ?_
  rw [wd_set hk1 (cE_cpL hc1) (fun a ha => cE_RL ha)] at hP1
  exact kk p e s m args below meth c C H1 locs1 L hP1 hS1 hl
/-- the bytes of a text -/
def sby (k : Nat) : List Int32 := SBY.getD (k - 1000) []
theorem gr_str {k : Nat} (h1 : 1000 ≤ k) (h2 : k < 1061) : gr g k = gs g (k - 1000) := by unfold gr; rw [if_neg (by omega), if_pos (by omega)]
theorem gr_byt {k : Nat} (h1 : 1000 ≤ k) (h2 : k < 1061) : gr g (k + 2000) = gv g (k - 1000) := by unfold gr; rw [if_neg (by omega), if_neg (by omega), if_neg (by omega), if_pos (by omega), show k + 2000 - 3000 = k - 1000 by omega]
theorem am_sval {idx pl k : Nat} (hq : tbAt (pl, .fieldLink (miY mi).cls idx "java/lang/String" "value" "[B") = true) (h1 : 1000 ≤ k) (h2 : k < 1061) (hd : decode (miC mi) pc = .ok (.getfield idx, 3)) (kk : Wm g mi R Q nc ns (pc + 3) ls (.ref (k + 2000) :: st) μ) : Wm g mi R Q nc ns pc ls (.ref k :: st) μ := by
  intro p e s m args below meth c C H locs L hR hS hl
  have k9 := kk p e s m args below meth c C H locs L hR hS hl
  obtain ⟨hx, hb, hml, hr, hlk, hown, hts, hex, hE⟩ := C
  obtain ⟨-, -, -, z, -⟩ := hE.2.2.1 (k - 1000) (by omega)
  rw [List.map_cons, show tv g (.ref (k + 2000)) = .ref (gv g (k - 1000)) by rw [← gr_byt h1 h2]; rfl] at k9
  rw [List.map_cons, show tv g (.ref k) = .ref (gs g (k - 1000)) by rw [← gr_str h1 h2]; rfl]
  exact vk_getf hx hb z hS hown (hts _ (tb_of hq)) (fun _ h => h) hd k9
theorem am_scod {idx pl k : Nat} (hq : tbAt (pl, .fieldLink (miY mi).cls idx "java/lang/String" "coder" "B") = true) (h1 : 1000 ≤ k) (h2 : k < 1061) (hd : decode (miC mi) pc = .ok (.getfield idx, 3)) (kk : Wm g mi R Q nc ns (pc + 3) ls (.int 0 :: st) μ) : Wm g mi R Q nc ns pc ls (.ref k :: st) μ := by
  intro p e s m args below meth c C H locs L hR hS hl
  have k9 := kk p e s m args below meth c C H locs L hR hS hl
  obtain ⟨hx, hb, hml, hr, hlk, hown, hts, hex, hE⟩ := C
  obtain ⟨-, -, z, -, -⟩ := hE.2.2.1 (k - 1000) (by omega)
  rw [List.map_cons, show tv g (.ref k) = .ref (gs g (k - 1000)) by rw [← gr_str h1 h2]; rfl]
  exact vk_getf hx hb z hS hown (hts _ (tb_of hq)) (fun _ h => h) hd k9
theorem am_slenB {k : Nat} (h1 : 1000 ≤ k) (h2 : k < 1061) (hd : decode (miC mi) pc = .ok (.arraylength, 1)) (kk : Wm g mi R Q nc ns (pc + 1) ls (.int (nI (sby k).length) :: st) μ) : Wm g mi R Q nc ns pc ls (.ref (k + 2000) :: st) μ := by
  intro p e s m args below meth c C H locs L hR hS hl
  have k9 := kk p e s m args below meth c C H locs L hR hS hl
  obtain ⟨hx, hb, hml, hr, hlk, hown, hts, hex, hE⟩ := C
  obtain ⟨-, -, -, -, z⟩ := hE.2.2.1 (k - 1000) (by omega)
  rw [List.map_cons, show tv g (.ref (k + 2000)) = .ref (gv g (k - 1000)) by rw [← gr_byt h1 h2]; rfl]
  exact va_tlen hx hb z hS rfl hd k9
theorem am_sbald {k : Nat} {i : Int32} (h1 : 1000 ≤ k) (h2 : k < 1061) (hi : vp_in i (sby k).length) (hd : decode (miC mi) pc = .ok (.baload, 1)) (kk : Wm g mi R Q nc ns (pc + 1) ls (.int ((sby k).getD (nx i) 0) :: st) μ) : Wm g mi R Q nc ns pc ls (.int i :: .ref (k + 2000) :: st) μ := by
  intro p e s m args below meth c C H locs L hR hS hl
  have k9 := kk p e s m args below meth c C H locs L hR hS hl
  obtain ⟨hx, hb, hml, hr, hlk, hown, hts, hex, hE⟩ := C
  obtain ⟨-, -, -, -, z⟩ := hE.2.2.1 (k - 1000) (by omega)
  rw [List.map_cons, List.map_cons, show tv g (.ref (k + 2000)) = .ref (gv g (k - 1000)) by rw [← gr_byt h1 h2]; rfl]
  exact va_tb hx hb z hS hi rfl hd k9
theorem am_gcs {idx pl : Nat} (hq : tbAt (pl, .fieldLink (miY mi).cls idx "java/lang/String" "COMPACT_STRINGS" "Z") = true) (hd : decode (miC mi) pc = .ok (.getstatic idx, 3)) (kk : Wm g mi R Q nc ns (pc + 3) ls (.int 1 :: st) μ) : Wm g mi R Q nc ns pc ls st μ := by
  intro p e s m args below meth c C H locs L hR hS hl
  have k9 := kk p e s m args below meth c C H locs L hR hS hl
  obtain ⟨hx, hb, hml, hr, hlk, hown, hts, hex, hE⟩ := C
  exact va_gets hx hb hE.2.2.2.2.2.1 hS hown (hts _ (tb_of hq)) (fun _ h => h) hd k9
theorem am_gsz {idx pl : Nat} (hq : tbAt (pl, .fieldLink (miY mi).cls idx "jdk/internal/util/Preconditions" "SIOOBE_FORMATTER" "Ljava/util/function/BiFunction;") = true) (hd : decode (miC mi) pc = .ok (.getstatic idx, 3)) (kk : Wm g mi R Q nc ns (pc + 3) ls (szv g :: st) μ) : Wm g mi R Q nc ns pc ls st μ := by
  intro p e s m args below meth c C H locs L hR hS hl
  have k9 := kk p e s m args below meth c C H locs L hR hS hl
  obtain ⟨hx, hb, hml, hr, hlk, hown, hts, hex, hE⟩ := C
  rw [List.map_cons, tv_szv] at k9
  exact va_gets hx hb hE.2.2.2.2.2.2.2.2.2.2.2.2.2 hS hown (hts _ (tb_of hq)) (fun _ h => h) hd k9
theorem am_i2c {x : Int32} (hd : decode (miC mi) pc = .ok (.i2c, 1)) (kk : Wm g mi R Q nc ns (pc + 1) ls (.int (x.toUInt32 % 65536).toInt32 :: st) μ) : Wm g mi R Q nc ns pc ls (.int x :: st) μ := fun p e s m args below meth c C H locs L hR hS hl =>
  lv_i2c C.1 C.2.1 hd rfl (kk p e s m args below meth c C H locs L hR hS hl)
end AM7
end
section
/-! contracts and calls -/
def codeW (mi : MI) : Cond := match miH mi with
  | [] => .code (miY mi) (miC mi) (miN mi) (miT mi)
  | h :: t => .codeWith (miY mi) (miC mi) (miN mi) (miT mi) (h :: t)
def wsOf (mi : MI) : List Cond := codeW mi :: TB
def miB (mi : MI) (pl n : Nat) : Bool := tbAt (pl, codeW mi) && plainName (miY mi).cls && decide ((miY mi).cls ≠ "java/lang/invoke/MethodHandle") && decide ((miY mi).cls ≠ "java/lang/invoke/VarHandle") && decide ((parseMethodDescriptor (miY mi).desc).map (fun d => d.parameters.length) = some n) && Nat.ble (miN mi) 40
def MOK (mi : MI) (n : Nat) : Prop := codeW mi ∈ TB ∧ plainName (miY mi).cls = true ∧ ((miY mi).cls ≠ "java/lang/invoke/MethodHandle" ∧ (miY mi).cls ≠ "java/lang/invoke/VarHandle" ∧ (parseMethodDescriptor (miY mi).desc).map (fun d => d.parameters.length) = some n) ∧ miN mi ≤ 40
theorem miB_ok {mi : MI} {pl n : Nat} (h : miB mi pl n = true) : MOK mi n := by
  simp only [miB, Bool.and_eq_true, decide_eq_true_eq] at h
  obtain ⟨⟨⟨⟨⟨h1, h2⟩, h3⟩, h4⟩, h5⟩, h6⟩ := h
  exact ⟨tb_of h1, h2, ⟨h3, h4, h5⟩, Nat.le_of_ble_eq_true h6⟩
theorem good_ws {mi : MI} (h : codeW mi ∈ TB) : GoodIn TB (wsOf mi) := by
  have key : ∀ w ∈ TB, w ∈ TB ∧ ((w.onTables && w.keeps) = true ∨ ∃ ty, w = .arrayClass ty) := fun w hw => ⟨hw, good_of_word (List.mem_filter.mp hw).2⟩
  intro w hw
  rcases List.mem_cons.mp hw with rfl | hw
  · exact key _ h
  · exact key _ hw
def Qr (g : Gl) (Φ : Out → Mem → Prop) : Array Value → State → Outcome → State → Prop := fun _ st o t => (∃ (v : Option Value) (μ' : Mem), o = .returned v ∧ Φ (.inl v) μ' ∧ Rep g μ' t.heap) ∧ va_F (gP g) st t
def Qx (g : Gl) (Φ : Out → Mem → Prop) : String → State → State → Prop := fun E st t => (∃ (e : Nat) (μ' : Mem), e < 5 ∧ E = EN e ∧ Φ (.inr e) μ' ∧ Rep g μ' t.heap) ∧ va_F (gP g) st t
def QM (g : Gl) (mi : MI) (Φ : Out → Mem → Prop) : QT := fun below args s => vx_MQ below (Qr g Φ) (Qx g Φ) args s (miK mi) (miS mi) (gP g)
def PcM (g : Gl) (args : List Value) (μ : Mem) : Array Value → State → Prop := va_Pc (args.map (tv g)) fun U => Rep g μ U.heap ∧ EnvS g U
/-- a call of the method with these arguments at this memory ends, with Φ -/
def Spec (g : Gl) (mi : MI) (dx : Nat) (args : List Value) (μ : Mem) (Φ : Out → Mem → Prop) : Prop :=
  vx_Met (gl g) (miY mi) (wsOf mi) (rm mi dx) (PcM g args μ) (Qr g Φ) (Qx g Φ) (miK mi) (miS mi) (gP g)
theorem tl_args (g : Gl) (vs : List Value) : ∀ i, tl g (lv_args i vs) = lv_args i (vs.map (tv g)) := by
  induction vs with
  | nil => intro i; rfl
  | cons v vs ih =>
    intro i
    show (i, tv g v) :: tl g (lv_args _ vs) = (i, tv g v) :: lv_args _ _
    rw [ih, tv_cat]
theorem sl_len (g : Gl) (vs : List Value) : (lg_sl (vs.map (tv g))).length = (lg_sl vs).length := by
  induction vs with
  | nil => rfl
  | cons v vs ih =>
    have e : ∀ (w : Value) (ws : List Value), (lg_sl (w :: ws)).length = w.category + (lg_sl ws).length := by
      intro w ws
      show ((if w.category = 2 then [Slot.val w, Slot.second] else [Slot.val w]) ++ lg_sl ws).length = _
      rw [List.length_append]
      rcases lv_cat w with h | h <;> simp [h]
    rw [List.map_cons, e, e, tv_cat, ih]
theorem Spec.intro {g : Gl} {mi : MI} {dx n : Nat} {args : List Value} {μ : Mem} {Φ : Out → Mem → Prop} (hM : MOK mi n) (hw : (lg_sl args).length ≤ miN mi)
    (k : Wm g mi (rm mi dx) (QM g mi Φ) 0 0 0 (lv_args 0 args) [] μ) : Spec g mi dx args μ Φ := by
  have fin : ∀ (p : Program) (e : Env) (s : State) (m : MethodId) (av : Array Value) (below : List Frame) (meth : Method) (c : Code) (s₁ : State), BodyLoose p (gl g) (miY mi) (headSpec (wsOf mi) (rm mi dx)) (miC mi) (miN mi) (miT mi) e s m av below meth c s₁ → c.maxLocals = miN mi → c.exceptionTable.toList = tableOf (miH mi) → PcM g args μ av s →
      W p (gl g) e (headSpec (wsOf mi) (rm mi dx)).room s m av below meth c s.heap [] 0 0 (vx_MQ below (Qr g Φ) (Qx g Φ) av s (miK mi) (miS mi) (gP g)) (entryFrame m av (miN mi)) := by
    intro p e s m av below meth c s₁ B hml hex hv
    obtain ⟨rfl, hR, hE⟩ := hv
    have hts : ∀ w ∈ wsOf mi, w.before (args.map (tv g)).toArray s = true := atoms_spec (ws := wsOf mi) B.pre
    have hl := lv_entry (args.map (tv g)) (n := miN mi) (by rw [sl_len]; exact hw)
    rw [lg_entry_eq]
    refine k p e s m _ below meth c ⟨B.exec, B.bytes, hml, B.returns, B.notSynchronized, findClass_of_methodNamed B.named, fun w h => hts w (List.mem_cons_of_mem _ h), hex, hE⟩ s.heap [] _ hR va_S.rf (by rw [tl_args]; exact hl)
  unfold Spec
  cases hH : miH mi with
  | nil =>
    refine vx_ofW (cc := miC mi) (maxL := miN mi) (ret := miT mi) hM.2.1 (ws' := TB) (by unfold wsOf codeW; rw [hH]) ?_
    intro p e s m av below meth c s₁ B hml hex hv
    refine fin p e s m av below meth c s₁ B hml ?_ hv
    rw [hH]
    cases hz : c.exceptionTable.toList with
    | nil => rfl
    | cons a t => exact absurd (by rw [hz]; exact List.mem_cons_self) (hex a)
  | cons h t =>
    refine vx_ofWH (cc := miC mi) (maxL := miN mi) (ret := miT mi) (hh := h :: t) hM.2.1 (ws' := TB) (by unfold wsOf codeW; rw [hH]) ?_
    intro p e s m av below meth c s₁ B hml hv
    have hts : ∀ w ∈ wsOf mi, w.before av s = true := atoms_spec (ws := wsOf mi) B.pre
    have hcw : (Cond.codeWith (miY mi) (miC mi) (miN mi) (miT mi) (h :: t)).before av s = true := hts _ (by unfold wsOf codeW; rw [hH]; exact List.mem_cons_self)
    exact fin p e s m av below meth c s₁ B hml (by rw [hH]; exact vx_table (x := miY mi) B hcw) hv
theorem PcM_blind (g : Gl) (args : List Value) (μ : Mem) : FrameBlind (PcM g args μ) := by
  intro a U gf mk q
  obtain ⟨q0, q1, q2⟩ := q
  refine ⟨q0, q1, ?_⟩
  obtain ⟨h1, h2, h3, h4, h5, h6, h7, h8, h9, h10, h11, h12, h13, h14⟩ := q2
  have hvm : U.vm = (U.calling gf mk a).vm := rfl
  have ha : U.vm.Alike (U.calling gf mk a).vm := Vm.Alike.refl U.vm
  refine ⟨h1.moved ha, fun w hw => (h2 w hw).same ?_ hvm, fun j hj => ?_, h4.moved ha, h5.moved ha, h6.moved ha, h7, h8, h9.moved ha, h10, h11, h12, fun a b x y z => (h13 a b x y z).moved ha, h14.moved ha⟩
  · have := (List.mem_filter.mp hw).2
    cases w <;> first | rfl | exact absurd this (by simp [isNw])
  · obtain ⟨k1, k2, k3, k4, k5⟩ := h3 j hj
    exact ⟨k1.same hvm.symm, k2.moved ha, k3.moved ha, k4.moved ha, k5.moved ha⟩
end
section
/-! calls, ends -/
/-- the frame at pc with an exception of kind e thrown over it -/
def WX (g : Gl) (mi : MI) (R : Room) (Q : QT) (nc ns pc : Nat) (ls : List (Nat × Value)) (ex : Nat) (μ : Mem) : Prop :=
  ∀ (p : Program) (e : Env) (s : State) (m : MethodId) (args : Array Value) (below : List Frame) (meth : Method) (c : Code), Ctx g mi p s m args meth c →
    ∀ (H : Heap) (locs : List Loc) (L : Array Slot) (rest : List Value) (q : Addr) (ce : Cell), Rep g μ H → va_S (gP g) s.heap H locs → lv_has L (miN mi) (tl g ls) → H[q]? = some ce → ce.vm = .none → s.vm.findClass (EN ex) = some ce.cls →
      vx_W p (gl g) e R s m args below meth c H locs nc ns (Q below args s) (F0 m pc L rest) q
theorem met_of {g : Gl} {mi : MI} {dx : Nat} {args : List Value} {μ : Mem} {Φ : Out → Mem → Prop} (h : Spec g mi dx args μ Φ) (hno : ∀ e μ', ¬ Φ (.inr e) μ') : Met (gl g) (miY mi) (wsOf mi) (rm mi dx) (PcM g args μ) (Qr g Φ) (miK mi) (miS mi) (gP g) := by
  intro p e ha hc hk s m av below hf happ hP hK
  obtain ⟨k, o, h1, h2, h3, hQ⟩ := h p e ha hc hk s m av below hf happ hP hK
  refine ⟨k, o, h1, h2, h3, ?_⟩
  rcases hQ with hQ | ⟨q, ho, E, ce, L, ⟨⟨e9, μ', -, -, h9, -⟩, -⟩, -⟩
  · exact hQ
  · exact absurd h9 (hno e9 μ')
section AM9
variable {g : Gl} {mi : MI} {R : Room} {Q : QT} {nc ns pc : Nat} {ls : List (Nat × Value)} {st : List Value} {μ : Mem} {Φ : Out → Mem → Prop} {mj : MI} {dx n idx : Nat} {As : List Value}
theorem am_after {p : Program} {e : Env} {s : State} {m : MethodId} {args : Array Value} {below : List Frame} {meth : Method} {c : Code} {H : Heap} {locs : List Loc} {L : Array Slot} {st0 : List Value} {a : Array Value} {mc ms : Nat}
    (C : Ctx g mi p s m args meth c) (hr : vx_Run p (gl g) e R s m args below meth c H locs nc ns mc ms (F0 m pc L st0) (st.map (tv g)) (Qr g Φ a) (Qx g Φ) (gP g)) (hS : va_S (gP g) s.heap H locs) (hl : lv_has L (miN mi) (tl g ls))
    (kr : ∀ (v : Option Value) (μ' : Mem), Φ (.inl v) μ' → v.toList.map (tv g) = v.toList ∧ Wm g mi R Q (nc + mc) (ns + ms) (pc + 3) ls (v.toList ++ st) μ')
    (kx : ∀ (ex : Nat) (μ' : Mem), ex < 5 → Φ (.inr ex) μ' → WX g mi R Q (nc + mc) (ns + ms) pc ls ex μ') : W p (gl g) e R s m args below meth c H locs nc ns (Q below args s) (F0 m pc L st0) := by
  intro T hT X
  rcases hr T hT X with ⟨v, st₀, t, T', L9, h0, X', hL, e1, e2, ⟨⟨v', μ', hv, hp, hb⟩, hF⟩, stp⟩ | ⟨q, st₀, t, T', L9, E, ce, h0, X', hL, e1, e2, ⟨⟨ex, μ', h5, hE, hp, hb⟩, hF⟩, hce, hcv, hcl, stp⟩
  · cases hv
    obtain ⟨k1, k2, k3⟩ := vx_keep h0 e1 hS (fun q _ h => h) (fun q h => h) hL hF
    obtain ⟨hvt, kW⟩ := kr v μ' hp
    have k9 := kW p e s m args below meth c C T'.heap (locs ++ L9) L (by rw [e1]; exact hb) k3 hl
    rw [List.map_append, hvt] at k9
    obtain ⟨t2, a1, b1⟩ := k9 T' rfl X'
    exact ⟨t2, stp t2 a1, b1⟩
  · obtain ⟨k1, k2, k3⟩ := vx_keep h0 e1 hS (fun q _ h => h) (fun q h => h) hL hF
    subst hE
    obtain ⟨t2, a1, b1⟩ := kx ex μ' h5 hp p e s m args below meth c C T'.heap (locs ++ L9) L (st.map (tv g)) q ce (by rw [e1]; exact hb) k3 hl (by rw [e1]; exact hce) hcv hcl T' rfl X'
    exact ⟨t2, stp.trans a1, b1⟩
theorem am_afterN {p : Program} {e : Env} {s : State} {m : MethodId} {args : Array Value} {below : List Frame} {meth : Method} {c : Code} {H : Heap} {locs : List Loc} {L : Array Slot} {st0 : List Value} {a : Array Value} {mc ms : Nat}
    (C : Ctx g mi p s m args meth c) (hr : va_Run p (gl g) e R s m args below meth c H locs nc ns mc ms (F0 m pc L st0) (st.map (tv g)) (Qr g Φ a) (gP g)) (hS : va_S (gP g) s.heap H locs) (hl : lv_has L (miN mi) (tl g ls))
    (kr : ∀ (v : Option Value) (μ' : Mem), Φ (.inl v) μ' → v.toList.map (tv g) = v.toList ∧ Wm g mi R Q (nc + mc) (ns + ms) (pc + 3) ls (v.toList ++ st) μ') : W p (gl g) e R s m args below meth c H locs nc ns (Q below args s) (F0 m pc L st0) := by
  refine am_after (a := a) C (fun T hT X => Or.inl ?_) hS hl kr (fun ex μ' _ h => ?_) (Φ := fun o μ' => match o with | .inl v => Φ (.inl v) μ' | .inr _ => False)
  · obtain ⟨v, st₀, t, T', L9, h0, X', hL, e1, e2, hq, stp⟩ := hr T hT X
    exact ⟨v, st₀, t, T', L9, h0, X', hL, e1, e2, hq, stp⟩
  · exact h.elim
/-- what a caller's room must be -/
def CallR (R : Room) (mj : MI) (dx nc ns : Nat) : Prop := miD mj + dx + 1 ≤ R.frames ∧ 59 + 100 * (miD mj + dx) ≤ R.locals ∧ nc + miK mj ≤ R.cells ∧ ns + miS mj ≤ R.slots
theorem codeW_nil (hH : miH mj = []) : wsOf mj = Cond.code (miY mj) (miC mj) (miN mj) (miT mj) :: TB := by unfold wsOf codeW; rw [hH]
theorem callB_ok {s : State} {args : Array Value} {own : String} (hts : ∀ w ∈ TB, w.before args s = true) (hM : MOK mj n) (hH : miH mj = []) (hR : CallR R mj dx nc ns) (hini : Cond.initialized (miY mj).cls ∈ TB) (hl : Cond.methodLink own idx (miY mj) ∈ TB) :
    CallB R s args own idx (miY mj) (miC mj) (miN mj) (miT mj) (wsOf mj) (rm mj dx) (miK mj) (miS mj) n :=
  callB_of n hts (good_ws hM.1) (codeW_nil hH) rfl rfl (hts _ hini) (hts _ hl) hM.2.2.1 ⟨hR.1, by have := hM.2.2.2; have := hR.2.1; show 8 + (miN mj + 11) + 100 * (miD mj + dx) ≤ R.locals; omega⟩
theorem stk_map {k : Nat} : (As.reverse ++ .ref k :: st).map (tv g) = (As.map (tv g)).reverse ++ .ref (gr g k) :: st.map (tv g) := by
  rw [List.map_append, List.map_reverse]; rfl
theorem cat_map {st : List Value} : ((st.map (tv g)).map fun v => v.category) = st.map fun v => v.category := by
  rw [List.map_map]; exact List.map_congr_left fun v _ => tv_cat g v
theorem am_callV {k : Nat} {r : vw_C} (hM : MOK mj n) (hH : miH mj = []) (hlk : Cond.methodLink (miY mi).cls idx (miY mj) ∈ TB) (hin : Cond.instanceMethod (miY mj) ∈ TB) (hse : Cond.selects (miY mj).cls (miY mj) (miY mj) ∈ TB) (hini : Cond.initialized (miY mj).cls ∈ TB)
    (hk : k < NC) (hc : cls[(sh k).1]? = some r) (hr : r.1 = (miY mj).cls) (hn : As.length = n) (hst : (st.map fun v => v.category).sum ≤ 8) (hR : CallR R mj dx nc ns) (hd : decode (miC mi) pc = .ok (.invokevirtual idx, 3)) (hS : Spec g mj dx (.ref k :: As) μ Φ)
    (kr : ∀ (v : Option Value) (μ' : Mem), Φ (.inl v) μ' → v.toList.map (tv g) = v.toList ∧ Wm g mi R Q (nc + miK mj) (ns + miS mj) (pc + 3) ls (v.toList ++ st) μ')
    (kx : ∀ (ex : Nat) (μ' : Mem), ex < 5 → Φ (.inr ex) μ' → WX g mi R Q (nc + miK mj) (ns + miS mj) pc ls ex μ') : Wm g mi R Q nc ns pc ls (As.reverse ++ .ref k :: st) μ := by
  intro p e s m args below meth c C H locs L hRp hSs hl
  have C' := C
  obtain ⟨hx, hb, hml, hr9, hlkk, hown, hts, hex, hE⟩ := C'
  have hci : (sh k).1 < 100 := Nat.lt_of_lt_of_le (List.getElem?_eq_some_iff.mp hc).1 (by decide)
  have hrec := va_recv hE.1 hRp hc (by rw [wd_at hk, cE_obj rfl hci])
  rw [hr] at hrec
  rw [stk_map]
  have hrun := vx_runV (As := As.map (tv g)) (rest := st.map (tv g)) (g := F0 m pc L ((As.map (tv g)).reverse ++ .ref (gr g k) :: st.map (tv g))) (below := below) (e := e) (meth := meth) (locs := locs) (cells := nc) (slots := ns) (H := H)
    ⟨hx, hb, hml, hown, hts⟩ hS ⟨callB_ok hts hM hH hR hini hlk, hts _ hin, hts _ hse⟩ ⟨PcM_blind g _ _, by rw [gr_lt hk]; exact hrec, fun U hU hW => ⟨rfl, by rw [hU]; exact hRp, hE.move hW (by rw [hU]; exact hSs)⟩⟩ rfl (by rw [List.length_map]; exact hn) hl.1 rfl (by show 2 * 0 + _ ≤ 8; rw [cat_map]; omega) hd ⟨hR.2.2.1, hR.2.2.2⟩
  exact am_after C hrun hSs hl kr kx
/-- a call on a text -/
theorem am_callW {k : Nat} (hM : MOK mj n) (hH : miH mj = []) (hc : (miY mj).cls = "java/lang/String") (hlk : Cond.methodLink (miY mi).cls idx (miY mj) ∈ TB) (hin : Cond.instanceMethod (miY mj) ∈ TB) (hse : Cond.selects (miY mj).cls (miY mj) (miY mj) ∈ TB) (hini : Cond.initialized (miY mj).cls ∈ TB)
    (hk1 : 1000 ≤ k) (hk2 : k < 1061) (hn : As.length = n) (hst : (st.map fun v => v.category).sum ≤ 8) (hR : CallR R mj dx nc ns) (hd : decode (miC mi) pc = .ok (.invokevirtual idx, 3)) (hS : Spec g mj dx (.ref k :: As) μ Φ)
    (kr : ∀ (v : Option Value) (μ' : Mem), Φ (.inl v) μ' → v.toList.map (tv g) = v.toList ∧ Wm g mi R Q (nc + miK mj) (ns + miS mj) (pc + 3) ls (v.toList ++ st) μ')
    (kx : ∀ (ex : Nat) (μ' : Mem), ex < 5 → Φ (.inr ex) μ' → WX g mi R Q (nc + miK mj) (ns + miS mj) pc ls ex μ') : Wm g mi R Q nc ns pc ls (As.reverse ++ .ref k :: st) μ := by
  intro p e s m args below meth c C H locs L hRp hSs hl
  have C' := C
  obtain ⟨hx, hb, hml, hr9, hlkk, hown, hts, hex, hE⟩ := C'
  obtain ⟨-, z, -⟩ := hE.2.2.1 (k - 1000) (by omega)
  obtain ⟨cell, z1, z2, z3, -⟩ := z.kept hSs.2.1
  rw [stk_map]
  have hrun := vx_runV (As := As.map (tv g)) (rest := st.map (tv g)) (g := F0 m pc L ((As.map (tv g)).reverse ++ .ref (gr g k) :: st.map (tv g))) (below := below) (e := e) (meth := meth) (locs := locs) (cells := nc) (slots := ns) (H := H)
    ⟨hx, hb, hml, hown, hts⟩ hS ⟨callB_ok hts hM hH hR hini hlk, hts _ hin, hts _ hse⟩ ⟨PcM_blind g _ _, ⟨cell, by rw [gr_str hk1 hk2]; exact z1, z2, by rw [hc]; exact z3⟩, fun U hU hW => ⟨rfl, by rw [hU]; exact hRp, hE.move hW (by rw [hU]; exact hSs)⟩⟩ rfl (by rw [List.length_map]; exact hn) hl.1 rfl (by show 2 * 0 + _ ≤ 8; rw [cat_map]; omega) hd ⟨hR.2.2.1, hR.2.2.2⟩
  exact am_after C hrun hSs hl kr kx
theorem am_callS (hM : MOK mj n) (hH : miH mj = []) (hlk : Cond.methodLink (miY mi).cls idx (miY mj) ∈ TB) (hst9 : Cond.static (miY mj) ∈ TB) (hini : Cond.initialized (miY mj).cls ∈ TB)
    (hn : As.length = n) (hst : (st.map fun v => v.category).sum ≤ 8) (hR : CallR R mj dx nc ns) (hd : decode (miC mi) pc = .ok (.invokestatic idx, 3)) (hS : Spec g mj dx As μ Φ)
    (kr : ∀ (v : Option Value) (μ' : Mem), Φ (.inl v) μ' → v.toList.map (tv g) = v.toList ∧ Wm g mi R Q (nc + miK mj) (ns + miS mj) (pc + 3) ls (v.toList ++ st) μ')
    (kx : ∀ (ex : Nat) (μ' : Mem), ex < 5 → Φ (.inr ex) μ' → WX g mi R Q (nc + miK mj) (ns + miS mj) pc ls ex μ') : Wm g mi R Q nc ns pc ls (As.reverse ++ st) μ := by
  intro p e s m args below meth c C H locs L hRp hSs hl
  have C' := C
  obtain ⟨hx, hb, hml, hr9, hlkk, hown, hts, hex, hE⟩ := C'
  rw [List.map_append, List.map_reverse]
  have hrun := vx_runS (As := As.map (tv g)) (rest := st.map (tv g)) (g := F0 m pc L ((As.map (tv g)).reverse ++ st.map (tv g))) (below := below) (e := e) (meth := meth) (locs := locs) (cells := nc) (slots := ns) (H := H)
    ⟨hx, hb, hml, hown, hts⟩ hS ⟨callB_ok hts hM hH hR hini hlk, hts _ hst9⟩ ⟨PcM_blind g _ _, fun U hU hW => ⟨rfl, by rw [hU]; exact hRp, hE.move hW (by rw [hU]; exact hSs)⟩⟩ rfl (by rw [List.length_map]; exact hn) hl.1 rfl (by show 2 * 0 + _ ≤ 8; rw [cat_map]; omega) hd ⟨hR.2.2.1, hR.2.2.2⟩
  exact am_after C hrun hSs hl kr kx
/-- a static method with handlers -/
theorem am_callSH {h9 : Nat × Nat × Nat × Nat} {t9 : List (Nat × Nat × Nat × Nat)} (hM : MOK mj n) (hH : miH mj = h9 :: t9) (hlk : Cond.methodLink (miY mi).cls idx (miY mj) ∈ TB) (hst9 : Cond.static (miY mj) ∈ TB) (hini : Cond.initialized (miY mj).cls ∈ TB)
    (hn : As.length = n) (hst : (st.map fun v => v.category).sum ≤ 8) (hR : CallR R mj dx nc ns) (hd : decode (miC mi) pc = .ok (.invokestatic idx, 3)) (hS : Spec g mj dx As μ Φ)
    (kr : ∀ (v : Option Value) (μ' : Mem), Φ (.inl v) μ' → v.toList.map (tv g) = v.toList ∧ Wm g mi R Q (nc + miK mj) (ns + miS mj) (pc + 3) ls (v.toList ++ st) μ')
    (kx : ∀ (ex : Nat) (μ' : Mem), ex < 5 → Φ (.inr ex) μ' → WX g mi R Q (nc + miK mj) (ns + miS mj) pc ls ex μ') : Wm g mi R Q nc ns pc ls (As.reverse ++ st) μ := by
  intro p e s m args below meth c C H locs L hRp hSs hl
  have C' := C
  obtain ⟨hx, hb, hml, hr9, hlkk, hown, hts, hex, hE⟩ := C'
  rw [List.map_append, List.map_reverse]
  have hw : wsOf mj = Cond.codeWith (miY mj) (miC mj) (miN mj) (miT mj) (h9 :: t9) :: TB := by unfold wsOf codeW; rw [hH]
  have hcw : Cond.codeWith (miY mj) (miC mj) (miN mj) (miT mj) (h9 :: t9) ∈ TB := by have := hM.1; unfold codeW at this; rw [hH] at this; exact this
  have hlo : 8 + (miN mj + 11) + (rm mj dx).locals ≤ R.locals := by have := hM.2.2.2; have := hR.2.1; show 8 + (miN mj + 11) + 100 * (miD mj + dx) ≤ R.locals; omega
  have cw : vx_CSW R s args (miY mi).cls idx (miY mj) (miC mj) (miN mj) (miT mj) (h9 :: t9) (wsOf mj) (rm mj dx) (miK mj) (miS mj) n :=
    ⟨⟨rfl, rfl, hR.1, hlo, pay_in hts (good_ws hM.1), by rw [hw]; exact List.mem_cons_self⟩, hts _ hcw, hts _ hini, ⟨hM.2.2.1.1, hM.2.2.1.2.1⟩, fun sig h => by
      have h2 := hM.2.2.1.2.2
      rw [h] at h2
      exact (Option.some.inj h2).symm, hts _ hlk, hts _ hst9⟩
  have hrun := vx_runSX (As := As.map (tv g)) (rest := st.map (tv g)) (g := F0 m pc L ((As.map (tv g)).reverse ++ st.map (tv g))) (below := below) (e := e) (meth := meth) (locs := locs) (cells := nc) (slots := ns) (H := H)
    ⟨hx, hb, hml, hown, hts⟩ hS cw ⟨PcM_blind g _ _, fun U hU hW => ⟨rfl, by rw [hU]; exact hRp, hE.move hW (by rw [hU]; exact hSs)⟩⟩ rfl (by rw [List.length_map]; exact hn) hl.1 rfl (by show 2 * 0 + _ ≤ 8; rw [cat_map]; omega) hd ⟨hR.2.2.1, hR.2.2.2⟩
  exact am_after C hrun hSs hl kr kx
/-- a static method of the nest's host -/
theorem am_callSN (hM : MOK mj n) (hH : miH mj = []) (hlk : Cond.methodLinkNest (miY mi).cls idx (miY mj) "SaidOnce" ∈ NW) (hst9 : Cond.static (miY mj) ∈ TB) (hini : Cond.initialized (miY mj).cls ∈ TB)
    (hn : As.length = n) (hst : (st.map fun v => v.category).sum ≤ 8) (hR : CallR R mj dx nc ns) (hd : decode (miC mi) pc = .ok (.invokestatic idx, 3)) (hS : Spec g mj dx As μ Φ) (hno : ∀ e μ', ¬ Φ (.inr e) μ')
    (kr : ∀ (v : Option Value) (μ' : Mem), Φ (.inl v) μ' → v.toList.map (tv g) = v.toList ∧ Wm g mi R Q (nc + miK mj) (ns + miS mj) (pc + 3) ls (v.toList ++ st) μ') : Wm g mi R Q nc ns pc ls (As.reverse ++ st) μ := by
  intro p e s m args below meth c C H locs L hRp hSs hl
  have C' := C
  obtain ⟨hx, hb, hml, hr9, hlkk, hown, hts, hex, hE⟩ := C'
  rw [List.map_append, List.map_reverse]
  have cw := va_cnB (R := R) (rm := rm mj dx) (mc := miK mj) (ms := miS mj) n hts (good_ws hM.1) (codeW_nil hH) rfl rfl (hE.2.1 _ hlk) (hts _ hini) hM.2.2.1 ⟨hR.1, by have := hM.2.2.2; have := hR.2.1; show 8 + (miN mj + 11) + 100 * (miD mj + dx) ≤ R.locals; omega⟩
  have hrun := va_runSN (As := As.map (tv g)) (rest := st.map (tv g)) (g := F0 m pc L ((As.map (tv g)).reverse ++ st.map (tv g))) (below := below) (e := e) (meth := meth) (locs := locs) (cells := nc) (slots := ns) (H := H)
    ⟨hx, hb, hml, hown, hts⟩ (met_of hS hno) ⟨cw, hts _ hst9, trivial⟩ ⟨PcM_blind g _ _, fun U hU hW => ⟨rfl, by rw [hU]; exact hRp, hE.move hW (by rw [hU]; exact hSs)⟩⟩ rfl (by rw [List.length_map]; exact hn) hl.1 rfl (by show 2 * 0 + _ ≤ 8; rw [cat_map]; omega) hd ⟨hR.2.2.1, hR.2.2.2⟩
  exact am_afterN C hrun hSs hl kr
/-- a method that the receiver's class inherits or overrides: named x, found y -/
theorem am_callU {k : Nat} {r : vw_C} {x : MethodName} {owner : String} (hM : MOK mj n) (hH : miH mj = []) (hlk : Cond.methodLink (miY mi).cls idx x ∈ TB) (hsm : Cond.sameMethod x.cls owner x.name x.desc ∈ TB) (hse : Cond.selects r.1 x (miY mj) ∈ TB) (hin : Cond.instanceMethod (miY mj) ∈ TB) (hini : Cond.initialized (miY mj).cls ∈ TB) (hdc : Cond.declares ⟨owner, x.name, x.desc⟩ ∈ NW)
    (how : owner ≠ "java/lang/invoke/MethodHandle" ∧ owner ≠ "java/lang/invoke/VarHandle" ∧ (parseMethodDescriptor x.desc).map (fun d => d.parameters.length) = some n)
    (hk : k < NC) (hc : cls[(sh k).1]? = some r) (hn : As.length = n) (hst : (st.map fun v => v.category).sum ≤ 8) (hR : CallR R mj dx nc ns) (hd : decode (miC mi) pc = .ok (.invokevirtual idx, 3)) (hS : Spec g mj dx (.ref k :: As) μ Φ) (hno : ∀ e μ', ¬ Φ (.inr e) μ')
    (kr : ∀ (v : Option Value) (μ' : Mem), Φ (.inl v) μ' → v.toList.map (tv g) = v.toList ∧ Wm g mi R Q (nc + miK mj) (ns + miS mj) (pc + 3) ls (v.toList ++ st) μ') : Wm g mi R Q nc ns pc ls (As.reverse ++ .ref k :: st) μ := by
  intro p e s m args below meth c C H locs L hRp hSs hl
  have C' := C
  obtain ⟨hx, hb, hml, hr9, hlkk, hown, hts, hex, hE⟩ := C'
  have hci : (sh k).1 < 100 := Nat.lt_of_lt_of_le (List.getElem?_eq_some_iff.mp hc).1 (by decide)
  have hrec := va_recv hE.1 hRp hc (by rw [wd_at hk, cE_obj rfl hci])
  rw [stk_map]
  have hG : GoodIn TB (va_wsU (miY mi).cls idx r.1 owner x (miY mj) (wsOf mj)) := by
    have key : ∀ w ∈ TB, w ∈ TB ∧ ((w.onTables && w.keeps) = true ∨ ∃ ty, w = .arrayClass ty) := fun w hw => ⟨hw, good_of_word (List.mem_filter.mp hw).2⟩
    intro w hw
    unfold va_wsU at hw
    rcases List.mem_append.mp hw with h | h
    · simp only [List.mem_cons, List.not_mem_nil, or_false] at h
      rcases h with rfl | rfl | rfl | rfl | rfl
      · exact key _ hlk
      · exact key _ hsm
      · exact key _ hse
      · exact key _ hin
      · exact key _ hini
    · exact good_ws hM.1 w h
  have cw := va_cwA (R := R) (rm := rm mj dx) (mc := miK mj) (ms := miS mj) n hts hG (codeW_nil hH) rfl rfl (hE.2.1 _ hdc) how ⟨hR.1, by have := hM.2.2.2; have := hR.2.1; show 8 + (miN mj + 11) + 100 * (miD mj + dx) ≤ R.locals; omega⟩
  have hrun := va_runU (As := As.map (tv g)) (rest := st.map (tv g)) (g := F0 m pc L ((As.map (tv g)).reverse ++ .ref (gr g k) :: st.map (tv g))) (below := below) (e := e) (meth := meth) (locs := locs) (cells := nc) (slots := ns) (H := H)
    ⟨hx, hb, hml, hown, hts⟩ (met_of hS hno) cw ⟨PcM_blind g _ _, by rw [gr_lt hk]; exact hrec, fun U hU hW => ⟨rfl, by rw [hU]; exact hRp, hE.move hW (by rw [hU]; exact hSs)⟩⟩ rfl (by rw [List.length_map]; exact hn) hl.1 rfl (by show 2 * 0 + _ ≤ 8; rw [cat_map]; omega) hd ⟨hR.2.2.1, hR.2.2.2⟩
  exact am_afterN C hrun hSs hl kr
end AM9
end
section
/-! ends: returns, throws, handlers -/
abbrev XN : List String := ["java/lang/RuntimeException", "java/lang/Exception"]
def thrW (own : String) (ik ic e : Nat) : Bool := (Cond.classLink own ik (EN e) :: Cond.initialized (EN e) :: vx_atS own ic (EN e) XN).all (fun w => decide (w ∈ lw_tbl) && (goodWord w || isNw w) && vx_ot w) && Bundle.fit (EN e) && XN.all Bundle.fit && Nat.blt e 5
theorem Rep.kept {g : Gl} {μ : Mem} {H H1 : Heap} (h : Rep g μ H) (hq : ∀ q : Nat, q < H.size → H1[q]? = H[q]?) : Rep g μ H1 := fun k q hk => (h k q hk).kept (hq _ (vx_lt h hk))
section AM10
variable {g : Gl} {mi : MI} {R : Room} {Q : QT} {nc ns pc : Nat} {ls : List (Nat × Value)} {st : List Value} {μ : Mem} {Φ : Out → Mem → Prop}
theorem am_ret {v : Int32} {ty : FieldType} (hT : miT mi = some ty) (hn : narrow ty (.int v) = .int v) (hc : nc ≤ miK mi) (hs : ns ≤ miS mi) (hd : decode (miC mi) pc = .ok (.ireturn, 1)) (hΦ : Φ (.inl (some (.int v))) μ) : Wm g mi R (QM g mi Φ) nc ns pc ls [.int v] μ := by
  intro p e s m args below meth c C H locs L hR hS hl
  obtain ⟨hx, hb, hml, hr, hlk, hown, hts, hex, hE⟩ := C
  exact vx_ret (W.widen hc hs (W.zret (ty := ty) hx hb (hr.trans hT) hn (fun t ht _ => ⟨⟨_, μ, rfl, hΦ, by rw [ht]; exact hR⟩, hS.F ht⟩) hS.2.2 hd hlk))
theorem am_lret {v : Int64} (hT : miT mi = some .long) (hc : nc ≤ miK mi) (hs : ns ≤ miS mi) (hd : decode (miC mi) pc = .ok (.lreturn, 1)) (hΦ : Φ (.inl (some (.long v))) μ) : Wm g mi R (QM g mi Φ) nc ns pc ls [.long v] μ := by
  intro p e s m args below meth c C H locs L hR hS hl
  obtain ⟨hx, hb, hml, hr, hlk, hown, hts, hex, hE⟩ := C
  exact vx_ret (W.widen hc hs (W.lret hx hb (hr.trans hT) (fun t ht _ => ⟨⟨_, μ, rfl, hΦ, by rw [ht]; exact hR⟩, hS.F ht⟩) hS.2.2 hd hlk))
theorem am_vret (hT : miT mi = none) (hc : nc ≤ miK mi) (hs : ns ≤ miS mi) (hd : decode (miC mi) pc = .ok (.return_, 1)) (hΦ : Φ (.inl none) μ) : Wm g mi R (QM g mi Φ) nc ns pc ls [] μ := by
  intro p e s m args below meth c C H locs L hR hS hl
  obtain ⟨hx, hb, hml, hr, hlk, hown, hts, hex, hE⟩ := C
  exact vx_ret (W.widen hc hs (W.vret hx hb (hr.trans hT) (fun t ht _ => ⟨⟨_, μ, rfl, hΦ, by rw [ht]; exact hR⟩, hS.F ht⟩) hS.2.2 hd hlk))
theorem WX.out {ex : Nat} (hH : miH mi = []) (h5 : ex < 5) (hc : nc ≤ miK mi) (hs : ns ≤ miS mi) (hΦ : Φ (.inr ex) μ) : WX g mi R (QM g mi Φ) nc ns pc ls ex μ := by
  intro p e s m args below meth c C H locs L rest q ce hR hS hl hq hv hcl
  obtain ⟨hx, hb, hml, hr, hlk, hown, hts, hex, hE⟩ := C
  rw [hH] at hex
  exact vx_out (fun x hx => by rw [hex] at hx; cases hx) hlk hq hv hcl (fun t ht _ => ⟨⟨ex, μ, h5, rfl, hΦ, by rw [ht]; exact hR⟩, hS.F ht⟩) hS.2.2 hc hs
theorem thr_words {own : String} {ik ic e : Nat} (h : thrW own ik ic e = true) {s : State} {args : Array Value} (hts : ∀ w ∈ TB, w.before args s = true) (hN : ∀ w ∈ NW, va_Nw w s) : (∀ w ∈ Cond.classLink own ik (EN e) :: Cond.initialized (EN e) :: vx_atS own ic (EN e) XN, w.before args s = true ∧ vx_ot w = true) ∧ Bundle.fit (EN e) = true ∧ (∀ n ∈ XN, Bundle.fit n = true) ∧ e < 5 := by
  simp only [thrW, Bool.and_eq_true] at h
  obtain ⟨⟨⟨h1, h2⟩, h3⟩, h4⟩ := h
  refine ⟨fun w hw => ?_, h2, fun n hn => List.all_eq_true.mp h3 n hn, Nat.le_of_ble_eq_true h4⟩
  have hb := List.all_eq_true.mp h1 w hw
  simp only [Bool.and_eq_true, decide_eq_true_eq, Bool.or_eq_true] at hb
  obtain ⟨⟨hm, hg⟩, ho⟩ := hb
  refine ⟨?_, ho⟩
  rcases hg with hg | hg
  · exact hts w (List.mem_filter.mpr ⟨hm, hg⟩)
  · refine (hN w (List.mem_filter.mpr ⟨hm, hg⟩)).use ?_
    cases w <;> first | rfl | exact absurd hg (by simp [isNw])
theorem am_throw {ik is ic ex j : Nat} (hH : miH mi = []) (hw : thrW (miY mi).cls ik ic ex = true) (hs9 : strB (miY mi).cls (is, j) = true) (hR1 : 5 < R.frames) (hR2 : 100 ≤ R.locals) (hR3 : nc + 1 ≤ R.cells) (hR4 : ns + 6 ≤ R.slots)
    (hd : decode (miC mi) pc = .ok (.new ik, 3)) (d3 : decode (miC mi) (pc + 3) = .ok (.dup, 1))
    (d4 : (decode (miC mi) (pc + 4) = .ok (.ldc is, 2) ∧ decode (miC mi) (pc + 6) = .ok (.invokespecial ic, 3) ∧ decode (miC mi) (pc + 9) = .ok (.athrow, 1)) ∨ (decode (miC mi) (pc + 4) = .ok (.ldc_w is, 3) ∧ decode (miC mi) (pc + 7) = .ok (.invokespecial ic, 3) ∧ decode (miC mi) (pc + 10) = .ok (.athrow, 1)))
    (hc : nc + 1 ≤ miK mi) (hs : ns + 6 ≤ miS mi) (hΦ : Φ (.inr ex) μ) : Wm g mi R (QM g mi Φ) nc ns pc ls [] μ := by
  intro p e s m args below meth c C H locs L hR hS hl
  obtain ⟨hx, hb, hml, hr, hlk, hown, hts, hex, hE⟩ := C
  obtain ⟨t1, t2, t3, t4⟩ := thr_words hw hts hE.2.1
  simp only [strB, Bool.and_eq_true, decide_eq_true_eq] at hs9
  obtain ⟨⟨h1, h2⟩, h3⟩ := hs9
  have hst := (hE.2.2.1 j (Nat.le_of_ble_eq_true h1)).1
  rw [h2, h3] at hst
  rw [hH] at hex
  have hfin : ∀ t : State, s.vm.Alike t.vm → H.size ≤ t.heap.size → (∀ q : Nat, q < H.size → t.heap[q]? = H[q]?) → Qx g Φ (EN ex) s t := fun t _ hz hq =>
    ⟨⟨ex, μ, t4, rfl, hΦ, hR.kept hq⟩, Nat.le_trans hS.1 hz, fun q hq1 hq2 => by rw [hq q (Nat.lt_of_lt_of_le hq1 hS.1)]; exact hS.2.1 q hq1 hq2⟩
  rcases d4 with ⟨d4, d6, d9⟩ | ⟨d4, d6, d9⟩
  · exact vx_throwS (names := XN) hx hb hE.2.2.2.2.2.2.2.1 hown t2 t3 (t1 _ List.mem_cons_self).1 (t1 _ (List.mem_cons_of_mem _ List.mem_cons_self)).1 hst (fun w h => (t1 w (List.mem_cons_of_mem _ (List.mem_cons_of_mem _ h))).1) (fun w h => (t1 w h).2) hE.2.2.2.1 hE.2.2.2.2.1 hS (hl.1.trans hml.symm) hd d3 d4 d6 d9 (fun x hx => by rw [hex] at hx; cases hx) hR1 (by show 0 + (13 * (2 + 1) + 43) ≤ _; omega) hR3 hR4 hlk hfin hS.2.2 hc hs
  · exact vx_throwSW (names := XN) hx hb hE.2.2.2.2.2.2.2.1 hown t2 t3 (t1 _ List.mem_cons_self).1 (t1 _ (List.mem_cons_of_mem _ List.mem_cons_self)).1 hst (fun w h => (t1 w (List.mem_cons_of_mem _ (List.mem_cons_of_mem _ h))).1) (fun w h => (t1 w h).2) hE.2.2.2.1 hE.2.2.2.2.1 hS (hl.1.trans hml.symm) hd d3 d4 d6 d9 (fun x hx => by rw [hex] at hx; cases hx) hR1 (by show 0 + (13 * (2 + 1) + 43) ≤ _; omega) hR3 hR4 hlk hfin hS.2.2 hc hs
/-- caught: the handler stores the exception away -/
theorem WX.catch {ex hp n ln : Nat} {pre suf : List (Nat × Nat × Nat × Nat)} {a b ct : Nat} (hH : miH mi = pre ++ (a, b, hp, ct) :: suf) (hpass : ∀ z ∈ pre, z.2.2.2 ≠ 0 ∧ ∃ e2, e2 < 5 ∧ e2 ≠ ex ∧ Cond.classLink (miY mi).cls z.2.2.2 (EN e2) ∈ TB) (h5 : ex < 5) (hcov : a ≤ pc ∧ pc < b) (h0 : ct ≠ 0)
    (hlink : Cond.classLink (miY mi).cls ct (EN ex) ∈ TB) (hcast : Cond.castable (EN ex) (EN ex) ∈ NW) (hn : n < miN mi) (hd : (∃ k : Fin 4, (k : Nat) = n ∧ ln = 1 ∧ decode (miC mi) hp = .ok (.astore_n k, 1)) ∨ (ln = 2 ∧ decode (miC mi) hp = .ok (.astore n, 2)))
    (k : Wm g mi R Q nc ns (hp + ln) (ls.filter fun q => Nat.ble (q.1 + q.2.category) n) [] μ) : WX g mi R Q nc ns pc ls ex μ := by
  intro p e s m args below meth c C H locs L rest q ce hR hS hl hq hv hcl
  have C' := C
  obtain ⟨hx, hb, hml, hr, hlk, hown, hts, hex, hE⟩ := C'
  refine vx_catch hown (tableOf pre) ⟨a, b, hp, ct⟩ (tableOf suf) (by rw [hex, hH]; simp [tableOf]) ?_ ?_ h0 (hts _ hlink) ((hE.2.1 _ hcast).use rfl) hq hv hcl ?_
  · intro z hz
    obtain ⟨y, hy, rfl⟩ := List.mem_map.mp hz
    obtain ⟨z0, e2, h2, hne, hl2⟩ := hpass y hy
    exact Or.inr ⟨z0, EN e2, hts _ hl2, hE.2.2.2.2.2.2.2.2.2.2.2.2.1 ex e2 h5 h2 (fun q => hne q.symm)⟩
  · simp [covers, hcov]
  · have key : ∀ q9 ∈ tl g (ls.filter fun q => Nat.ble (q.1 + q.2.category) n), q9 ∈ (n, Value.ref q) :: (tl g ls).filter (fun q => !(q.1 == n) && !(q.1 + 1 == n && q.2.category == 2)) := by
      intro q9 h9
      obtain ⟨r, hr9, rfl⟩ := List.mem_map.mp h9
      obtain ⟨h1, h2⟩ := List.mem_filter.mp hr9
      have h3 := Nat.le_of_ble_eq_true h2
      have := cat_pos r.2
      refine List.mem_cons_of_mem _ (List.mem_filter.mpr ⟨List.mem_map.mpr ⟨r, h1, rfl⟩, ?_⟩)
      simp only [tv_cat, Bool.and_eq_true, Bool.not_eq_true', beq_eq_false_iff_ne, Bool.and_eq_false_iff]
      refine ⟨by omega, ?_⟩
      by_cases hz : r.2.category = 2
      · left; omega
      · right; exact hz
    rcases hd with ⟨k4, hk4, rfl, hd⟩ | ⟨rfl, hd⟩
    · exact lv_astore_n hx hb hd hk4 hl hn rfl fun L' hl' => k p e s m args below meth c C H locs L' hR hS (lv_weak hl' key)
    · exact lv_astore hx hb hd hl hn rfl fun L' hl' => k p e s m args below meth c C H locs L' hR hS (lv_weak hl' key)
end AM10
end
section
/-! the computation of verification conditions -/
def fnd {α : Type} : List (Nat × α) → Nat → Option α
  | [], _ => none
  | q :: t, i => match Nat.beq q.1 i with
    | true => some q.2
    | false => fnd t i
theorem fnd_mem {α : Type} {l : List (Nat × α)} {i : Nat} {a : α} (h : fnd l i = some a) : (i, a) ∈ l := by
  induction l with
  | nil => cases h
  | cons q t ih =>
    unfold fnd at h
    cases hb : Nat.beq q.1 i with
    | true =>
      rw [hb] at h
      rw [← Nat.eq_of_beq_eq_true hb, ← Option.some.inj h]
      exact List.mem_cons_self
    | false =>
      rw [hb] at h
      exact List.mem_cons_of_mem _ (ih h)
abbrev Lo : Type := List (Nat × Value)
abbrev Kt : Type := Nat → Nat → Nat → Lo → List Value → Mem → Prop
/-- callees: the method, whether it is of a recursive group, its number of arguments, the words' places; of an inherited one its name, its owner -/
abbrev Mth : Type := MI × Bool × Nat × List Nat
abbrev MthU : Type := MI × Bool × Nat × List Nat × MethodName × String × Nat
abbrev Pool : Type := List (Nat × Nat × Nat × Nat × Nat × Nat) × List (Nat × Mth) × List (Nat × Mth) × List (Nat × Mth) × List (Nat × MthU) × List (Nat × Int32 × Nat) × List (Nat × Int64 × Nat) × List (Nat × Nat) × List (Nat × Nat × Nat × Nat × Nat) × List (Nat × Nat × List Nat) × List (Nat × Nat × Nat) × List (Nat × Nat × Nat) × List (Nat × Mth)
def pF (P : Pool) := P.1
def pV (P : Pool) := P.2.1
def pS (P : Pool) := P.2.2.1
def pN (P : Pool) := P.2.2.2.1
def pU (P : Pool) := P.2.2.2.2.1
def pC (P : Pool) := P.2.2.2.2.2.1
def pJ (P : Pool) := P.2.2.2.2.2.2.1
def pT (P : Pool) := P.2.2.2.2.2.2.2.1
def pA (P : Pool) := P.2.2.2.2.2.2.2.2.1
def pM (P : Pool) := P.2.2.2.2.2.2.2.2.2.1
/-- statics (0 COMPACT_STRINGS, 1 the formatter), a text's fields (0 value, 1 coder), calls on a text -/
def pG (P : Pool) := P.2.2.2.2.2.2.2.2.2.2.1
def pQ (P : Pool) := P.2.2.2.2.2.2.2.2.2.2.2.1
def pW (P : Pool) := P.2.2.2.2.2.2.2.2.2.2.2.2
def isS (k : Nat) : Bool := Nat.ble 1000 k && Nat.blt k 1061
theorem isS_ok {k : Nat} (h : isS k = true) : 1000 ≤ k ∧ k < 1061 := by
  simp only [isS, Bool.and_eq_true] at h; exact ⟨Nat.le_of_ble_eq_true h.1, Nat.le_of_ble_eq_true h.2⟩
theorem isS_of {k : Nat} (h1 : 1000 ≤ k) (h2 : k < 1061) : isS k = true := by
  simp only [isS, Bool.and_eq_true]; exact ⟨Nat.ble_eq_true_of_le h1, Nat.ble_eq_true_of_le h2⟩
def mabs (x : Int32) : Int32 := if 0 ≤ x then x else 0 - x
def mmax (x y : Int32) : Int32 := if x < y then y else x
def mmin (x y : Int32) : Int32 := if y < x then y else x
def mathB (own : String) (q : Nat × Nat × List Nat) : Bool := tbAt (q.2.2.getD 3 0, .initialized "java/lang/Math") && (match q.2.1 with
  | 0 => tbAt (q.2.2.getD 0 0, .methodLink own q.1 Lib.Math.abs.name) && tbAt (q.2.2.getD 1 0, .static Lib.Math.abs.name) && tbAt (q.2.2.getD 2 0, .code Lib.Math.abs.name Lib.Math.abs.code 1 (some .int))
  | 1 => tbAt (q.2.2.getD 0 0, .methodLink own q.1 Lib.Math.max.name) && tbAt (q.2.2.getD 1 0, .static Lib.Math.max.name) && tbAt (q.2.2.getD 2 0, .code Lib.Math.max.name Lib.Math.max.code 2 (some .int))
  | _ => tbAt (q.2.2.getD 0 0, .methodLink own q.1 Lib.Math.min.name) && tbAt (q.2.2.getD 1 0, .static Lib.Math.min.name) && tbAt (q.2.2.getD 2 0, .code Lib.Math.min.name Lib.Math.min.code 2 (some .int)))
/-- throws: at a pc, the class's index, the text's index, its place, the constructor's index, the kind, whether wide; handlers: from, to, handler, its class's index, kind, local, length -/
abbrev Thr : Type := Nat × Nat × Nat × Nat × Nat × Bool
abbrev Hdl : Type := Nat × Nat × Nat × Nat × Nat × Nat × Nat
abbrev MT : Type := List (Nat × Instr × Nat) × Pool × List (Nat × Thr) × List Hdl
def onI (f : Int32 → Mem → Prop) (x : Nat → Mem → Prop) : Out → Mem → Prop
  | .inl (some (.int r)), μ => f r μ
  | .inr e, μ => x e μ
  | _, _ => False
def onL (f : Int64 → Mem → Prop) (x : Nat → Mem → Prop) : Out → Mem → Prop
  | .inl (some (.long r)), μ => f r μ
  | .inr e, μ => x e μ
  | _, _ => False
def onV (f : Mem → Prop) (x : Nat → Mem → Prop) : Out → Mem → Prop
  | .inl none, μ => f μ
  | .inr e, μ => x e μ
  | _, _ => False
def onR (t : Option FieldType) (f : List Value → Mem → Prop) (x : Nat → Mem → Prop) : Out → Mem → Prop := match t with
  | none => onV (f []) x
  | some .long => onL (fun r => f [.long r]) x
  | some _ => onI (fun r => f [.int r]) x
def hx (K : Nat → Nat → Nat → Prop) (pc e : Nat) : List Hdl → Prop
  | [] => False
  | (a, b, hp, _, e', n, ln) :: t => match Nat.beq e' e with
    | true => match Nat.ble a pc && Nat.blt pc b with
      | true => K hp n ln
      | false => False
    | false => hx K pc e t
def spl : Nat → List Value → List Value → (List Value → List Value → Prop) → Prop
  | 0, st, acc, f => f acc st
  | n + 1, v :: st, acc, f => spl n st (v :: acc) f
  | _ + 1, [], _, _ => False
theorem spl_ok : ∀ {n : Nat} {st acc : List Value} {f : List Value → List Value → Prop}, spl n st acc f → ∃ As t, f As t ∧ As.reverse ++ t = acc.reverse ++ st ∧ As.length = n + acc.length := by
  intro n
  induction n with
  | zero => intro st acc f h; exact ⟨acc, st, h, rfl, by omega⟩
  | succ n ih =>
    intro st acc f h
    cases st with
    | nil => exact h.elim
    | cons v st =>
      obtain ⟨As, t, h1, h2, h3⟩ := ih h
      exact ⟨As, t, h1, by rw [h2]; simp, by rw [h3]; simp; omega⟩
def isK (k c : Nat) (X : Prop) : Prop := match Nat.blt k NC && Nat.beq (sh k).1 c with
  | true => X
  | false => False
theorem isK_ok {k c : Nat} {X : Prop} (h : isK k c X) : k < NC ∧ (sh k).1 = c ∧ X := by
  unfold isK at h
  cases hb : Nat.blt k NC && Nat.beq (sh k).1 c with
  | false => rw [hb] at h; exact h.elim
  | true =>
    rw [hb] at h
    simp only [Bool.and_eq_true] at hb
    exact ⟨Nat.le_of_ble_eq_true hb.1, Nat.eq_of_beq_eq_true hb.2, h⟩
theorem isK_of {k c : Nat} {X : Prop} (h1 : k < NC) (h2 : (sh k).1 = c) (h : X) : isK k c X := by
  unfold isK
  have : (Nat.blt k NC && Nat.beq (sh k).1 c) = true := by
    rw [Bool.and_eq_true]; exact ⟨Nat.ble_eq_true_of_le h1, by rw [h2]; exact Nat.beq_refl c⟩
  rw [this]; exact h
def isT (b : Bool) (X : Prop) : Prop := match b with
  | true => X
  | false => False
theorem isT_ok {b : Bool} {X : Prop} (h : isT b X) : b = true ∧ X := by cases b with
  | true => exact ⟨rfl, h⟩
  | false => exact h.elim
def kb (k : Nat) : Nat := k - 2000
theorem kb_add {k : Nat} (h : Nat.ble 3000 k = true) : k = kb k + 2000 := (Nat.sub_add_cancel (Nat.le_trans (Nat.le_of_ble_eq_true rfl) (Nat.le_of_ble_eq_true h))).symm
def if2 (b : Bool) (X Y : Prop) : Prop := match b with
  | true => X
  | false => Y
theorem if2_ok {b : Bool} {X Y : Prop} (h : if2 b X Y) : (b = true ∧ X) ∨ (b = false ∧ Y) := by
  cases b with
  | true => exact Or.inl ⟨rfl, h⟩
  | false => exact Or.inr ⟨rfl, h⟩
def rmB (R : Room) (mj : MI) (nc ns : Nat) : Bool := Nat.ble (miD mj + 1) R.frames && Nat.ble (59 + 100 * miD mj) R.locals && Nat.ble (nc + miK mj) R.cells && Nat.ble (ns + miS mj) R.slots
def callK (R : Room) (mj : MI) (rc : Bool) (nc ns : Nat) (S : Nat → Prop) : Prop := match rc with
  | false => isT (rmB R mj nc ns) (S 0)
  | true => ∃ dx, CallR R mj dx nc ns ∧ S dx
theorem callK_ok {R : Room} {mj : MI} {rc : Bool} {nc ns : Nat} {S : Nat → Prop} (h : callK R mj rc nc ns S) : ∃ dx, CallR R mj dx nc ns ∧ S dx := by
  cases rc with
  | true => exact h
  | false =>
    obtain ⟨h1, h2⟩ := isT_ok h
    simp only [rmB, Bool.and_eq_true] at h1
    obtain ⟨⟨⟨a1, a2⟩, a3⟩, a4⟩ := h1
    exact ⟨0, ⟨Nat.le_of_ble_eq_true a1, Nat.le_of_ble_eq_true a2, Nat.le_of_ble_eq_true a3, Nat.le_of_ble_eq_true a4⟩, h2⟩
def catS : List Value → Nat
  | [] => 0
  | v :: t => v.category + catS t
theorem catS_eq (st : List Value) : (st.map fun v => v.category).sum = catS st := by
  induction st with
  | nil => rfl
  | cons v t ih => rw [List.map_cons, List.sum_cons, ih]; rfl
/-- an int's return, as its type wants it -/
def rtI (t : Option FieldType) (v : Int32) (X : Prop) : Prop := match t with
  | some .int => X
  | some .boolean => (v = 0 ∨ v = 1) ∧ X
  | some ty => narrow ty (.int v) = .int v ∧ X
  | none => False
theorem rtI_ok {t : Option FieldType} {v : Int32} {X : Prop} (h : rtI t v X) : ∃ ty, t = some ty ∧ narrow ty (.int v) = .int v ∧ X := by
  unfold rtI at h
  split at h
  · exact ⟨_, rfl, rfl, h⟩
  · refine ⟨_, rfl, ?_, h.2⟩
    rcases h.1 with rfl | rfl <;> decide +kernel
  · exact ⟨_, rfl, h.1, h.2⟩
  · exact h.elim
def vI : Option Value → (Int32 → Prop) → Prop
  | some (.int x), f => f x
  | _, _ => False
def vL : Option Value → (Int64 → Prop) → Prop
  | some (.long x), f => f x
  | _, _ => False
def vA : Option Value → (Nat → Prop) → Prop
  | some (.ref x), f => f x
  | _, _ => False
def s1 : List Value → (Int32 → List Value → Prop) → Prop
  | .int x :: r, f => f x r
  | _, _ => False
def s2 : List Value → (Int32 → Int32 → List Value → Prop) → Prop
  | .int y :: .int x :: r, f => f x y r
  | _, _ => False
def j1 : List Value → (Int64 → List Value → Prop) → Prop
  | .long x :: r, f => f x r
  | _, _ => False
def j2 : List Value → (Int64 → Int64 → List Value → Prop) → Prop
  | .long y :: .long x :: r, f => f x y r
  | _, _ => False
def ji : List Value → (Int64 → Int32 → List Value → Prop) → Prop
  | .int y :: .long x :: r, f => f x y r
  | _, _ => False
def a1 : List Value → (Nat → List Value → Prop) → Prop
  | .ref k :: r, f => f k r
  | _, _ => False
def ai : List Value → (Nat → Int32 → List Value → Prop) → Prop
  | .int i :: .ref k :: r, f => f k i r
  | _, _ => False
def aii : List Value → (Nat → Int32 → Int32 → List Value → Prop) → Prop
  | .int x :: .int i :: .ref k :: r, f => f k i x r
  | _, _ => False
def aij : List Value → (Nat → Int32 → Int64 → List Value → Prop) → Prop
  | .long x :: .int i :: .ref k :: r, f => f k i x r
  | _, _ => False
def aia : List Value → (Nat → Int32 → Nat → List Value → Prop) → Prop
  | .ref v :: .int i :: .ref k :: r, f => f k i v r
  | _, _ => False
def c1 : List Value → (Value → List Value → Prop) → Prop
  | v :: r, f => isT (Nat.beq v.category 1) (f v r)
  | _, _ => False
def cp5 : List Value → (Nat → Int32 → Nat → Int32 → Int32 → Prop) → Prop
  | [.int n, .int dp, .ref k1, .int sp, .ref k0], f => f k0 sp k1 dp n
  | _, _ => False
/-- a field written -/
def putF (μ : Mem) (k j t : Nat) (v : Value) (X : Mem → Prop) : Prop := match t, v with
  | 0, .int x => X (sI μ k j x)
  | 3, .int x => (x = 0 ∨ x = 1) ∧ X (sI μ k j x)
  | 1, .long x => X (sL μ k j x)
  | _, _ => False
end
section
/-! one step, and its soundness -/
def mF {α : Type} : Option α → (α → Prop) → Prop
  | some a, f => f a
  | none, _ => False
theorem mF_ok {α : Type} {o : Option α} {f : α → Prop} (h : mF o f) : ∃ a, o = some a ∧ f a := by
  cases o with
  | some a => exact ⟨a, rfl, h⟩
  | none => exact h.elim
def c12 : List Value → (Value → List Value → Prop) → Prop
  | v :: r, f => f v r
  | _, _ => False
theorem c12_ok {st : List Value} {f : Value → List Value → Prop} (h : c12 st f) : ∃ v r, st = v :: r ∧ f v r := by
  cases st with
  | nil => exact h.elim
  | cons v r => exact ⟨v, r, rfl, h⟩
theorem c1_ok {st : List Value} {f : Value → List Value → Prop} (h : c1 st f) : ∃ v r, st = v :: r ∧ v.category = 1 ∧ f v r := by
  cases st with
  | nil => exact h.elim
  | cons v r => obtain ⟨h1, h2⟩ := isT_ok h; exact ⟨v, r, rfl, Nat.eq_of_beq_eq_true h1, h2⟩
theorem s1_ok {st : List Value} {f : Int32 → List Value → Prop} (h : s1 st f) : ∃ x r, st = .int x :: r ∧ f x r := by
  unfold s1 at h
  split at h
  · exact ⟨_, _, rfl, h⟩
  · exact h.elim
theorem s2_ok {st : List Value} {f : Int32 → Int32 → List Value → Prop} (h : s2 st f) : ∃ x y r, st = .int y :: .int x :: r ∧ f x y r := by
  unfold s2 at h
  split at h
  · exact ⟨_, _, _, rfl, h⟩
  · exact h.elim
theorem j1_ok {st : List Value} {f : Int64 → List Value → Prop} (h : j1 st f) : ∃ x r, st = .long x :: r ∧ f x r := by
  unfold j1 at h
  split at h
  · exact ⟨_, _, rfl, h⟩
  · exact h.elim
theorem j2_ok {st : List Value} {f : Int64 → Int64 → List Value → Prop} (h : j2 st f) : ∃ x y r, st = .long y :: .long x :: r ∧ f x y r := by
  unfold j2 at h
  split at h
  · exact ⟨_, _, _, rfl, h⟩
  · exact h.elim
theorem ji_ok {st : List Value} {f : Int64 → Int32 → List Value → Prop} (h : ji st f) : ∃ x y r, st = .int y :: .long x :: r ∧ f x y r := by
  unfold ji at h
  split at h
  · exact ⟨_, _, _, rfl, h⟩
  · exact h.elim
theorem a1_ok {st : List Value} {f : Nat → List Value → Prop} (h : a1 st f) : ∃ x r, st = .ref x :: r ∧ f x r := by
  unfold a1 at h
  split at h
  · exact ⟨_, _, rfl, h⟩
  · exact h.elim
theorem ai_ok {st : List Value} {f : Nat → Int32 → List Value → Prop} (h : ai st f) : ∃ k i r, st = .int i :: .ref k :: r ∧ f k i r := by
  unfold ai at h
  split at h
  · exact ⟨_, _, _, rfl, h⟩
  · exact h.elim
theorem aii_ok {st : List Value} {f : Nat → Int32 → Int32 → List Value → Prop} (h : aii st f) : ∃ k i x r, st = .int x :: .int i :: .ref k :: r ∧ f k i x r := by
  unfold aii at h
  split at h
  · exact ⟨_, _, _, _, rfl, h⟩
  · exact h.elim
theorem aij_ok {st : List Value} {f : Nat → Int32 → Int64 → List Value → Prop} (h : aij st f) : ∃ k i x r, st = .long x :: .int i :: .ref k :: r ∧ f k i x r := by
  unfold aij at h
  split at h
  · exact ⟨_, _, _, _, rfl, h⟩
  · exact h.elim
theorem aia_ok {st : List Value} {f : Nat → Int32 → Nat → List Value → Prop} (h : aia st f) : ∃ k i x r, st = .ref x :: .int i :: .ref k :: r ∧ f k i x r := by
  unfold aia at h
  split at h
  · exact ⟨_, _, _, _, rfl, h⟩
  · exact h.elim
theorem cp5_ok {st : List Value} {f : Nat → Int32 → Nat → Int32 → Int32 → Prop} (h : cp5 st f) : ∃ k0 sp k1 dp n, st = [.int n, .int dp, .ref k1, .int sp, .ref k0] ∧ f k0 sp k1 dp n := by
  unfold cp5 at h
  split at h
  · exact ⟨_, _, _, _, _, rfl, h⟩
  · exact h.elim
theorem vI_ok {o : Option Value} {f : Int32 → Prop} (h : vI o f) : ∃ x, o = some (.int x) ∧ f x := by
  unfold vI at h
  split at h
  · exact ⟨_, rfl, h⟩
  · exact h.elim
theorem vL_ok {o : Option Value} {f : Int64 → Prop} (h : vL o f) : ∃ x, o = some (.long x) ∧ f x := by
  unfold vL at h
  split at h
  · exact ⟨_, rfl, h⟩
  · exact h.elim
theorem vA_ok {o : Option Value} {f : Nat → Prop} (h : vA o f) : ∃ x, o = some (.ref x) ∧ f x := by
  unfold vA at h
  split at h
  · exact ⟨_, rfl, h⟩
  · exact h.elim
theorem putF_ok {μ : Mem} {k j t : Nat} {v : Value} {X : Mem → Prop} (h : putF μ k j t v X) : ∃ μ', ((∃ x, v = .int x ∧ μ' = sI μ k j x ∧ (t = 0 ∨ t = 3 ∧ (x = 0 ∨ x = 1))) ∨ ∃ x, v = .long x ∧ μ' = sL μ k j x ∧ t = 1) ∧ X μ' := by
  unfold putF at h
  split at h
  · exact ⟨_, Or.inl ⟨_, rfl, rfl, Or.inl rfl⟩, h⟩
  · exact ⟨_, Or.inl ⟨_, rfl, rfl, Or.inr ⟨rfl, h.1⟩⟩, h.2⟩
  · exact ⟨_, Or.inr ⟨_, rfl, rfl, rfl⟩, h⟩
  · exact h.elim
def lcv (v : Fin 2) : Int64 := match v with | 0 => 0 | 1 => 1
theorem am_lconst {g : Gl} {mi : MI} {R : Room} {Q : QT} {nc ns pc : Nat} {ls : List (Nat × Value)} {st : List Value} {μ : Mem} {v : Fin 2} (hd : decode (miC mi) pc = .ok (.lconst v, 1)) (k : Wm g mi R Q nc ns (pc + 1) ls (.long (lcv v) :: st) μ) : Wm g mi R Q nc ns pc ls st μ := fun p e s m args below meth c C H locs L hR hS hl =>
  lv_lconst C.1 C.2.1 hd (by match v with | 0 => rfl | 1 => rfl) (k p e s m args below meth c C H locs L hR hS hl)
def step (R : Room) (RET : Out → Nat → Nat → Mem → Prop) (g : Gl) (mi : MI) (M : MT) (i : Instr) (nc ns pc : Nat) (ls : Lo) (st : List Value) (μ : Mem) (K : Kt) : Prop := match i with
  | .iadd => s2 st fun x y r => K nc ns (pc + 1) ls (.int (x + y) :: r) μ
  | .isub => s2 st fun x y r => K nc ns (pc + 1) ls (.int (x - y) :: r) μ
  | .imul => s2 st fun x y r => K nc ns (pc + 1) ls (.int (x * y) :: r) μ
  | .iand => s2 st fun x y r => K nc ns (pc + 1) ls (.int (x &&& y) :: r) μ
  | .ior => s2 st fun x y r => K nc ns (pc + 1) ls (.int (x ||| y) :: r) μ
  | .ixor => s2 st fun x y r => K nc ns (pc + 1) ls (.int (x ^^^ y) :: r) μ
  | .ishl => s2 st fun x y r => K nc ns (pc + 1) ls (.int (x <<< (y &&& 31)) :: r) μ
  | .ishr => s2 st fun x y r => K nc ns (pc + 1) ls (.int (x >>> (y &&& 31)) :: r) μ
  | .iushr => s2 st fun x y r => K nc ns (pc + 1) ls (.int (ush x y) :: r) μ
  | .idiv => s2 st fun x y r => (¬ y = 0) ∧ K nc ns (pc + 1) ls (.int (x / y) :: r) μ
  | .irem => s2 st fun x y r => (¬ y = 0) ∧ K nc ns (pc + 1) ls (.int (x - x / y * y) :: r) μ
  | .ineg => s1 st fun x r => K nc ns (pc + 1) ls (.int (-x) :: r) μ
  | .ladd => j2 st fun x y r => K nc ns (pc + 1) ls (.long (x + y) :: r) μ
  | .lsub => j2 st fun x y r => K nc ns (pc + 1) ls (.long (x - y) :: r) μ
  | .land => j2 st fun x y r => K nc ns (pc + 1) ls (.long (x &&& y) :: r) μ
  | .lor => j2 st fun x y r => K nc ns (pc + 1) ls (.long (x ||| y) :: r) μ
  | .lxor => j2 st fun x y r => K nc ns (pc + 1) ls (.long (x ^^^ y) :: r) μ
  | .lushr => ji st fun x y r => K nc ns (pc + 1) ls (.long (lush x y) :: r) μ
  | .lshl => ji st fun x y r => K nc ns (pc + 1) ls (.long (x <<< (y.toInt64 &&& 63)) :: r) μ
  | .lshr => ji st fun x y r => K nc ns (pc + 1) ls (.long (x >>> (y.toInt64 &&& 63)) :: r) μ
  | .lcmp => j2 st fun x y r => K nc ns (pc + 1) ls (.int (lg_cmp x y) :: r) μ
  | .i2l => s1 st fun x r => K nc ns (pc + 1) ls (.long x.toInt64 :: r) μ
  | .l2i => j1 st fun x r => K nc ns (pc + 1) ls (.int x.toInt32 :: r) μ
  | .i2b => s1 st fun x r => K nc ns (pc + 1) ls (.int x.toInt8.toInt32 :: r) μ
  | .iconst v => K nc ns (pc + 1) ls (.int (iv v) :: st) μ
  | .bipush v => K nc ns (pc + 2) ls (.int (iv v) :: st) μ
  | .sipush v => K nc ns (pc + 3) ls (.int (iv v) :: st) μ
  | .lconst v => K nc ns (pc + 1) ls (.long (lcv v) :: st) μ
  | .iload_n v => vI (lk ls v) fun x => K nc ns (pc + 1) ls (.int x :: st) μ
  | .iload v => vI (lk ls v) fun x => K nc ns (pc + 2) ls (.int x :: st) μ
  | .lload_n v => vL (lk ls v) fun x => K nc ns (pc + 1) ls (.long x :: st) μ
  | .lload v => vL (lk ls v) fun x => K nc ns (pc + 2) ls (.long x :: st) μ
  | .aload_n v => vA (lk ls v) fun x => K nc ns (pc + 1) ls (.ref x :: st) μ
  | .aload v => vA (lk ls v) fun x => K nc ns (pc + 2) ls (.ref x :: st) μ
  | .istore_n v => s1 st fun x r => K nc ns (pc + 1) (lput ls v (.int x)) r μ
  | .istore v => s1 st fun x r => K nc ns (pc + 2) (lput ls v (.int x)) r μ
  | .lstore_n v => j1 st fun x r => K nc ns (pc + 1) (lput ls v (.long x)) r μ
  | .lstore v => j1 st fun x r => K nc ns (pc + 2) (lput ls v (.long x)) r μ
  | .astore_n v => a1 st fun x r => K nc ns (pc + 1) (lput ls v (.ref x)) r μ
  | .astore v => a1 st fun x r => K nc ns (pc + 2) (lput ls v (.ref x)) r μ
  | .iinc v w => vI (lk ls v) fun x => K nc ns (pc + 3) (lput ls v (.int (x + iv w))) st μ
  | .dup => c1 st fun v r => K nc ns (pc + 1) ls (v :: v :: r) μ
  | .pop => c1 st fun v r => K nc ns (pc + 1) ls r μ
  | .dup2 => c1 st fun v r => c1 r fun w r => K nc ns (pc + 1) ls (v :: w :: v :: w :: r) μ
  | .goto o => K nc ns (jt pc o) ls st μ
  | .ifCond .eq o => s1 st fun x r => (x = 0 → K nc ns (jt pc o) ls r μ) ∧ (¬ x = 0 → K nc ns (pc + 3) ls r μ)
  | .if_icmp .eq o => s2 st fun x y r => (x = y → K nc ns (jt pc o) ls r μ) ∧ (¬ x = y → K nc ns (pc + 3) ls r μ)
  | .ifCond .ne o => s1 st fun x r => (¬ x = 0 → K nc ns (jt pc o) ls r μ) ∧ (x = 0 → K nc ns (pc + 3) ls r μ)
  | .if_icmp .ne o => s2 st fun x y r => (¬ x = y → K nc ns (jt pc o) ls r μ) ∧ (x = y → K nc ns (pc + 3) ls r μ)
  | .ifCond .lt o => s1 st fun x r => (x < 0 → K nc ns (jt pc o) ls r μ) ∧ (¬ x < 0 → K nc ns (pc + 3) ls r μ)
  | .if_icmp .lt o => s2 st fun x y r => (x < y → K nc ns (jt pc o) ls r μ) ∧ (¬ x < y → K nc ns (pc + 3) ls r μ)
  | .ifCond .ge o => s1 st fun x r => (0 ≤ x → K nc ns (jt pc o) ls r μ) ∧ (¬ 0 ≤ x → K nc ns (pc + 3) ls r μ)
  | .if_icmp .ge o => s2 st fun x y r => (y ≤ x → K nc ns (jt pc o) ls r μ) ∧ (¬ y ≤ x → K nc ns (pc + 3) ls r μ)
  | .ifCond .gt o => s1 st fun x r => (0 < x → K nc ns (jt pc o) ls r μ) ∧ (¬ 0 < x → K nc ns (pc + 3) ls r μ)
  | .if_icmp .gt o => s2 st fun x y r => (y < x → K nc ns (jt pc o) ls r μ) ∧ (¬ y < x → K nc ns (pc + 3) ls r μ)
  | .ifCond .le o => s1 st fun x r => (x ≤ 0 → K nc ns (jt pc o) ls r μ) ∧ (¬ x ≤ 0 → K nc ns (pc + 3) ls r μ)
  | .if_icmp .le o => s2 st fun x y r => (x ≤ y → K nc ns (jt pc o) ls r μ) ∧ (¬ x ≤ y → K nc ns (pc + 3) ls r μ)
  | .tableswitch d lo hi os => s1 st fun x r => tsw x (fun o => K nc ns (jt pc o) ls r μ) d lo os.toList
  | .getfield v => match fnd (pQ M.2.1) v with | some q => a1 st fun k r => isT (isS k) (match q.1 with | 0 => K nc ns (pc + 3) ls (.ref (k + 2000) :: r) μ | _ => K nc ns (pc + 3) ls (.int 0 :: r) μ) | none => mF (fnd (pF M.2.1) v) fun q => a1 st fun k r => isK k q.1 (K nc ns (pc + 3) ls (gF μ k q.2.1 (ftc q.1 q.2.1) :: r) μ)
  | .putfield v => mF (fnd (pF M.2.1) v) fun q => c12 st fun x r => a1 r fun k r => isK k q.1 (isT (flW (v, q)) (putF μ k q.2.1 (ftc q.1 q.2.1) x fun μ => K nc ns (pc + 3) ls r μ))
  | .iaload => ai st fun k i r => match Nat.beq k 2000 with | true => vp_in i (gN g) ∧ K nc ns (pc + 1) ls (.int (gX g (nx i)) :: r) μ | false => isK k 100 (vp_in i (sh k).2 ∧ K nc ns (pc + 1) ls (.int (mI μ k (nx i)) :: r) μ)
  | .laload => ai st fun k i r => isK k 101 (vp_in i (sh k).2 ∧ K nc ns (pc + 1) ls (.long (mL μ k (nx i)) :: r) μ)
  | .baload => ai st fun k i r => if2 (Nat.ble 3000 k) (isT (isS (kb k)) (vp_in i (sby (kb k)).length ∧ K nc ns (pc + 1) ls (.int ((sby (kb k)).getD (nx i) 0) :: r) μ)) (match Nat.beq (sh k).1 102 with | true => isK k 102 (vp_in i (sh k).2 ∧ K nc ns (pc + 1) ls (.int (mI μ k (nx i)) :: r) μ) | false => isK k 103 (vp_in i (sh k).2 ∧ K nc ns (pc + 1) ls (.int (mI μ k (nx i)) :: r) μ))
  | .aaload => ai st fun k i r => isK k 104 (vp_in i (sh k).2 ∧ mP μ (nx i) < NC ∧ K nc ns (pc + 1) ls (.ref (mP μ (nx i)) :: r) μ)
  | .arraylength => a1 st fun k r => if2 (Nat.ble 3000 k) (isT (isS (kb k)) (K nc ns (pc + 1) ls (.int (nI (sby (kb k)).length) :: r) μ)) (match Nat.beq k 2000 with | true => K nc ns (pc + 1) ls (.int (nI (gN g)) :: r) μ | false => isT (Nat.blt k NC && Nat.ble 100 (sh k).1 && Nat.blt (sh k).1 105) (K nc ns (pc + 1) ls (.int (nI (sh k).2) :: r) μ))
  | .getstatic v => mF (fnd (pG M.2.1) v) fun q => match q.1 with | 0 => K nc ns (pc + 3) ls (.int 1 :: st) μ | _ => K nc ns (pc + 3) ls (szv g :: st) μ
  | .i2c => s1 st fun x r => K nc ns (pc + 1) ls (.int (x.toUInt32 % 65536).toInt32 :: r) μ
  | .iastore => aii st fun k i x r => isK k 100 (vp_in i (sh k).2 ∧ K nc ns (pc + 1) ls r (sI μ k (nx i) x))
  | .lastore => aij st fun k i x r => isK k 101 (vp_in i (sh k).2 ∧ K nc ns (pc + 1) ls r (sL μ k (nx i) x))
  | .bastore => aii st fun k i x r => match Nat.beq (sh k).1 102 with | true => isK k 102 (vp_in i (sh k).2 ∧ K nc ns (pc + 1) ls r (sI μ k (nx i) x.toInt8.toInt32)) | false => isK k 103 (vp_in i (sh k).2 ∧ (x = 0 ∨ x = 1) ∧ K nc ns (pc + 1) ls r (sI μ k (nx i) x))
  | .aastore => aia st fun k i v r => isK k 104 (vp_in i (sh k).2 ∧ isK v 8 (K nc ns (pc + 1) ls r (sP μ (nx i) v)))
  | .ldc v => match fnd (pC M.2.1) v with | some q => K nc ns (pc + 2) ls (.int q.1 :: st) μ | none => mF (fnd (pT M.2.1) v) fun j => K nc ns (pc + 2) ls (.ref (1000 + j) :: st) μ
  | .ldc_w v => mF (fnd (pC M.2.1) v) fun q => K nc ns (pc + 3) ls (.int q.1 :: st) μ
  | .ldc2_w v => mF (fnd (pJ M.2.1) v) fun q => K nc ns (pc + 3) ls (.long q.1 :: st) μ
  | .ireturn => s1 st fun v r => match r with | [] => rtI (miT mi) v (RET (.inl (some (.int v))) nc ns μ) | _ => False
  | .lreturn => j1 st fun v r => match r with | [] => RET (.inl (some (.long v))) nc ns μ | _ => False
  | .return_ => match st with | [] => RET (.inl none) nc ns μ | _ => False
  | .new v => match st with | [] => mF (fnd M.2.2.1 pc) fun q => isT (Nat.beq q.1 v && Nat.ble 6 R.frames && Nat.ble 100 R.locals && Nat.ble (nc + 1) R.cells && Nat.ble (ns + 6) R.slots && M.2.2.2.isEmpty) (RET (.inr q.2.2.2.2.1) (nc + 1) (ns + 6) μ) | _ => False
  | .invokevirtual v => match fnd (pW M.2.1) v with | some q => spl q.2.2.1 st [] fun As t => a1 t fun k r => isT (isS k) (isT (Nat.ble (catS r) 8) (callK R q.1 q.2.1 nc ns fun dx => Spec g q.1 dx (.ref k :: As) μ (onR (miT q.1) (fun vs μ => K (nc + miK q.1) (ns + miS q.1) (pc + 3) ls (vs ++ r) μ) fun _ _ => False))) | none => match fnd (pV M.2.1) v with | some q => spl q.2.2.1 st [] fun As t => a1 t fun k r => isK k (q.2.2.2.getD 4 0) (isT (Nat.ble (catS r) 8) (callK R q.1 q.2.1 nc ns fun dx => Spec g q.1 dx (.ref k :: As) μ (onR (miT q.1) (fun vs μ => K (nc + miK q.1) (ns + miS q.1) (pc + 3) ls (vs ++ r) μ) (fun e μ => match M.2.2.2 with | [] => RET (.inr e) (nc + miK q.1) (ns + miS q.1) μ | h :: t => hx (fun hp n ln => K (nc + miK q.1) (ns + miS q.1) (hp + ln) (ls.filter fun q => Nat.ble (q.1 + q.2.category) n) [] μ) pc e (h :: t))))) | none => mF (fnd (pU M.2.1) v) fun q => spl q.2.2.1 st [] fun As t => a1 t fun k r => isK k q.2.2.2.2.2.2 (isT (Nat.ble (catS r) 8) (callK R q.1 q.2.1 nc ns fun dx => Spec g q.1 dx (.ref k :: As) μ (onR (miT q.1) (fun vs μ => K (nc + miK q.1) (ns + miS q.1) (pc + 3) ls (vs ++ r) μ) fun _ _ => False)))
  | .invokestatic v => match fnd (pM M.2.1) v with | some q => isT (Nat.ble 1 R.frames && Nat.ble (catS st + 13) R.locals && Nat.ble nc R.cells && Nat.ble ns R.slots) (match q.1 with | 0 => s1 st fun x r => K nc ns (pc + 3) ls (.int (mabs x) :: r) μ | 1 => s2 st fun x y r => K nc ns (pc + 3) ls (.int (mmax x y) :: r) μ | _ => s2 st fun x y r => K nc ns (pc + 3) ls (.int (mmin x y) :: r) μ) | none => match fnd (pA M.2.1) v with | some q => cp5 st fun k0 sp k1 dp n => isT (Nat.blt k0 NC && Nat.blt k1 NC && Nat.ble 1 R.frames && Nat.ble 90 R.locals && Nat.beq (sh k0).1 (sh k1).1) (acpOK sp dp n k0 k1 ∧ (match (sh k0).1 with | 100 => K nc ns (pc + 3) ls [] (sRI μ k1 (va_cpy (mI μ k0) (mI μ k1) (nx sp) (nx dp) (nx n))) | 101 => K nc ns (pc + 3) ls [] (sRL μ k1 (va_cpy (mL μ k0) (mL μ k1) (nx sp) (nx dp) (nx n))) | 103 => (∀ i, i < nx n → mI μ k0 (nx sp + i) = 0 ∨ mI μ k0 (nx sp + i) = 1) ∧ K nc ns (pc + 3) ls [] (sRI μ k1 (va_cpy (mI μ k0) (mI μ k1) (nx sp) (nx dp) (nx n))) | _ => False)) | none => match fnd (pS M.2.1) v with | some q => spl q.2.2.1 st [] fun As r => isT (Nat.ble (catS r) 8) (callK R q.1 q.2.1 nc ns fun dx => Spec g q.1 dx As μ (onR (miT q.1) (fun vs μ => K (nc + miK q.1) (ns + miS q.1) (pc + 3) ls (vs ++ r) μ) (fun e μ => match M.2.2.2 with | [] => RET (.inr e) (nc + miK q.1) (ns + miS q.1) μ | h :: t => hx (fun hp n ln => K (nc + miK q.1) (ns + miS q.1) (hp + ln) (ls.filter fun q => Nat.ble (q.1 + q.2.category) n) [] μ) pc e (h :: t)))) | none => mF (fnd (pN M.2.1) v) fun q => spl q.2.2.1 st [] fun As r => isT (Nat.ble (catS r) 8) (callK R q.1 q.2.1 nc ns fun dx => Spec g q.1 dx As μ (onR (miT q.1) (fun vs μ => K (nc + miK q.1) (ns + miS q.1) (pc + 3) ls (vs ++ r) μ) fun _ _ => False))
  | _ => False
def okI (mi : MI) (pc : Nat) (i : Instr) (n : Nat) : Bool := match i with
  | .iadd => Nat.beq n 1
  | .isub => Nat.beq n 1
  | .imul => Nat.beq n 1
  | .iand => Nat.beq n 1
  | .ior => Nat.beq n 1
  | .ixor => Nat.beq n 1
  | .ishl => Nat.beq n 1
  | .ishr => Nat.beq n 1
  | .iushr => Nat.beq n 1
  | .idiv => Nat.beq n 1
  | .irem => Nat.beq n 1
  | .ineg => Nat.beq n 1
  | .ladd => Nat.beq n 1
  | .lsub => Nat.beq n 1
  | .land => Nat.beq n 1
  | .lor => Nat.beq n 1
  | .lxor => Nat.beq n 1
  | .lushr => Nat.beq n 1
  | .lshl => Nat.beq n 1
  | .lshr => Nat.beq n 1
  | .lcmp => Nat.beq n 1
  | .i2l => Nat.beq n 1
  | .l2i => Nat.beq n 1
  | .i2b => Nat.beq n 1
  | .iconst v => Nat.beq n 1
  | .bipush v => Nat.beq n 2 && decide ((Int8.ofInt v).toInt32 = iv v)
  | .sipush v => Nat.beq n 3 && decide ((Int16.ofInt v).toInt32 = iv v)
  | .lconst v => Nat.beq n 1
  | .iload_n v => Nat.beq n 1
  | .iload v => Nat.beq n 2
  | .lload_n v => Nat.beq n 1
  | .lload v => Nat.beq n 2
  | .aload_n v => Nat.beq n 1
  | .aload v => Nat.beq n 2
  | .istore_n v => Nat.beq n 1 && Nat.blt (v : Nat) (miN mi)
  | .istore v => Nat.beq n 2 && Nat.blt (v : Nat) (miN mi)
  | .lstore_n v => Nat.beq n 1 && Nat.blt ((v : Nat) + 1) (miN mi)
  | .lstore v => Nat.beq n 2 && Nat.blt ((v : Nat) + 1) (miN mi)
  | .astore_n v => Nat.beq n 1 && Nat.blt (v : Nat) (miN mi)
  | .astore v => Nat.beq n 2 && Nat.blt (v : Nat) (miN mi)
  | .iinc v w => Nat.beq n 3 && Nat.blt v (miN mi)
  | .dup => Nat.beq n 1
  | .pop => Nat.beq n 1
  | .dup2 => Nat.beq n 1
  | .goto o => Nat.beq n 3 && decide (0 ≤ (pc : Int) + o)
  | .ifCond .eq o => Nat.beq n 3 && decide (0 ≤ (pc : Int) + o)
  | .if_icmp .eq o => Nat.beq n 3 && decide (0 ≤ (pc : Int) + o)
  | .ifCond .ne o => Nat.beq n 3 && decide (0 ≤ (pc : Int) + o)
  | .if_icmp .ne o => Nat.beq n 3 && decide (0 ≤ (pc : Int) + o)
  | .ifCond .lt o => Nat.beq n 3 && decide (0 ≤ (pc : Int) + o)
  | .if_icmp .lt o => Nat.beq n 3 && decide (0 ≤ (pc : Int) + o)
  | .ifCond .ge o => Nat.beq n 3 && decide (0 ≤ (pc : Int) + o)
  | .if_icmp .ge o => Nat.beq n 3 && decide (0 ≤ (pc : Int) + o)
  | .ifCond .gt o => Nat.beq n 3 && decide (0 ≤ (pc : Int) + o)
  | .if_icmp .gt o => Nat.beq n 3 && decide (0 ≤ (pc : Int) + o)
  | .ifCond .le o => Nat.beq n 3 && decide (0 ≤ (pc : Int) + o)
  | .if_icmp .le o => Nat.beq n 3 && decide (0 ≤ (pc : Int) + o)
  | .tableswitch d lo hi os => decide (-2147483648 ≤ lo) && decide (hi < 2147483648) && decide (lo + os.toList.length = hi + 1) && decide (0 ≤ (pc : Int) + d) && decide (∀ o ∈ os.toList, 0 ≤ (pc : Int) + o)
  | .getfield v => Nat.beq n 3
  | .putfield v => Nat.beq n 3
  | .iaload => Nat.beq n 1
  | .laload => Nat.beq n 1
  | .baload => Nat.beq n 1
  | .aaload => Nat.beq n 1
  | .arraylength => Nat.beq n 1
  | .getstatic v => Nat.beq n 3
  | .i2c => Nat.beq n 1
  | .iastore => Nat.beq n 1
  | .lastore => Nat.beq n 1
  | .bastore => Nat.beq n 1
  | .aastore => Nat.beq n 1
  | .ldc v => Nat.beq n 2
  | .ldc_w v => Nat.beq n 3
  | .ldc2_w v => Nat.beq n 3
  | .ireturn => Nat.beq n 1
  | .lreturn => Nat.beq n 1 && decide (miT mi = some .long)
  | .return_ => Nat.beq n 1 && decide (miT mi = none)
  | .new v => Nat.beq n 3
  | .invokevirtual v => Nat.beq n 3
  | .invokestatic v => Nat.beq n 3
  | _ => true
end
section
/-! soundness of a step -/
def pvOK (own : String) (q : Nat × Mth) : Prop := MOK q.2.1 q.2.2.2.1 ∧ miH q.2.1 = [] ∧ Cond.methodLink own q.1 (miY q.2.1) ∈ TB ∧ Cond.instanceMethod (miY q.2.1) ∈ TB ∧ Cond.selects (miY q.2.1).cls (miY q.2.1) (miY q.2.1) ∈ TB ∧ Cond.initialized (miY q.2.1).cls ∈ TB ∧ ∃ r, cls[q.2.2.2.2.getD 4 0]? = some r ∧ r.1 = (miY q.2.1).cls
def psOK (own : String) (q : Nat × Mth) : Prop := MOK q.2.1 q.2.2.2.1 ∧ Cond.methodLink own q.1 (miY q.2.1) ∈ TB ∧ Cond.static (miY q.2.1) ∈ TB ∧ Cond.initialized (miY q.2.1).cls ∈ TB
def pnOK (own : String) (q : Nat × Mth) : Prop := MOK q.2.1 q.2.2.2.1 ∧ miH q.2.1 = [] ∧ Cond.methodLinkNest own q.1 (miY q.2.1) "SaidOnce" ∈ NW ∧ Cond.static (miY q.2.1) ∈ TB ∧ Cond.initialized (miY q.2.1).cls ∈ TB
def puOK (own : String) (q : Nat × MthU) : Prop := MOK q.2.1 q.2.2.2.1 ∧ miH q.2.1 = [] ∧ Cond.methodLink own q.1 q.2.2.2.2.2.1 ∈ TB ∧ Cond.sameMethod q.2.2.2.2.2.1.cls q.2.2.2.2.2.2.1 q.2.2.2.2.2.1.name q.2.2.2.2.2.1.desc ∈ TB ∧ (∃ r, cls[q.2.2.2.2.2.2.2]? = some r ∧ Cond.selects r.1 q.2.2.2.2.2.1 (miY q.2.1) ∈ TB) ∧ Cond.instanceMethod (miY q.2.1) ∈ TB ∧ Cond.initialized (miY q.2.1).cls ∈ TB ∧ Cond.declares ⟨q.2.2.2.2.2.2.1, q.2.2.2.2.2.1.name, q.2.2.2.2.2.1.desc⟩ ∈ NW ∧
  (q.2.2.2.2.2.2.1 ≠ "java/lang/invoke/MethodHandle" ∧ q.2.2.2.2.2.2.1 ≠ "java/lang/invoke/VarHandle" ∧ (parseMethodDescriptor q.2.2.2.2.2.1.desc).map (fun d => d.parameters.length) = some q.2.2.2.1)
def gsB (own : String) (q : Nat × Nat × Nat) : Bool := match q.2.1 with
  | 0 => tbAt (q.2.2, .fieldLink own q.1 "java/lang/String" "COMPACT_STRINGS" "Z")
  | _ => tbAt (q.2.2, .fieldLink own q.1 "jdk/internal/util/Preconditions" "SIOOBE_FORMATTER" "Ljava/util/function/BiFunction;")
def qsB (own : String) (q : Nat × Nat × Nat) : Bool := match q.2.1 with
  | 0 => tbAt (q.2.2, .fieldLink own q.1 "java/lang/String" "value" "[B")
  | _ => tbAt (q.2.2, .fieldLink own q.1 "java/lang/String" "coder" "B")
def pwOK (own : String) (q : Nat × Mth) : Prop := MOK q.2.1 q.2.2.2.1 ∧ miH q.2.1 = [] ∧ (miY q.2.1).cls = "java/lang/String" ∧ Cond.methodLink own q.1 (miY q.2.1) ∈ TB ∧ Cond.instanceMethod (miY q.2.1) ∈ TB ∧ Cond.selects (miY q.2.1).cls (miY q.2.1) (miY q.2.1) ∈ TB ∧ Cond.initialized (miY q.2.1).cls ∈ TB
def PoolOK (own : String) (P : Pool) : Prop := (∀ q ∈ pF P, flB own q = true) ∧ (∀ q ∈ pC P, tbAt (q.2.2, .constant own q.1 q.2.1) = true) ∧ (∀ q ∈ pJ P, tbAt (q.2.2, .constantLong own q.1 q.2.1) = true) ∧ (∀ q ∈ pT P, strB own q = true) ∧ (∀ q ∈ pV P, pvOK own q) ∧ (∀ q ∈ pS P, psOK own q) ∧ (∀ q ∈ pN P, pnOK own q) ∧ (∀ q ∈ pU P, puOK own q) ∧ (∀ q ∈ pA P, acpB own q = true) ∧ (∀ q ∈ pM P, mathB own q = true) ∧ (∀ q ∈ pG P, gsB own q = true) ∧ (∀ q ∈ pQ P, qsB own q = true) ∧ ∀ q ∈ pW P, pwOK own q
def RetOK (g : Gl) (mi : MI) (M : MT) (R : Room) (Q : QT) (RET : Out → Nat → Nat → Mem → Prop) : Prop :=
  (∀ {v : Int32} {nc ns pc : Nat} {ls : Lo} {μ : Mem} {ty : FieldType}, decode (miC mi) pc = .ok (.ireturn, 1) → miT mi = some ty → narrow ty (.int v) = .int v → RET (.inl (some (.int v))) nc ns μ → Wm g mi R Q nc ns pc ls [.int v] μ) ∧
  (∀ {v : Int64} {nc ns pc : Nat} {ls : Lo} {μ : Mem}, decode (miC mi) pc = .ok (.lreturn, 1) → miT mi = some .long → RET (.inl (some (.long v))) nc ns μ → Wm g mi R Q nc ns pc ls [.long v] μ) ∧
  (∀ {nc ns pc : Nat} {ls : Lo} {μ : Mem}, decode (miC mi) pc = .ok (.return_, 1) → miT mi = none → RET (.inl none) nc ns μ → Wm g mi R Q nc ns pc ls [] μ) ∧
  (∀ {v nc ns pc : Nat} {q : Thr} {ls : Lo} {μ : Mem}, decode (miC mi) pc = .ok (.new v, 3) → (pc, q) ∈ M.2.2.1 → (Nat.beq q.1 v && Nat.ble 6 R.frames && Nat.ble 100 R.locals && Nat.ble (nc + 1) R.cells && Nat.ble (ns + 6) R.slots && M.2.2.2.isEmpty) = true → RET (.inr q.2.2.2.2.1) (nc + 1) (ns + 6) μ → Wm g mi R Q nc ns pc ls [] μ) ∧
  (∀ {e nc ns pc : Nat} {ls : Lo} {μ : Mem}, M.2.2.2 = [] → e < 5 → RET (.inr e) nc ns μ → WX g mi R Q nc ns pc ls e μ) ∧
  (∀ {e nc ns pc : Nat} {ls : Lo} {μ : Mem}, e < 5 → hx (fun hp n ln => Wm g mi R Q nc ns (hp + ln) (ls.filter fun q => Nat.ble (q.1 + q.2.category) n) [] μ) pc e M.2.2.2 → WX g mi R Q nc ns pc ls e μ)
theorem onR_l {g : Gl} {t : Option FieldType} {f : List Value → Mem → Prop} {x : Nat → Mem → Prop} {v : Option Value} {μ : Mem} (h : onR t f x (.inl v) μ) : v.toList.map (tv g) = v.toList ∧ f v.toList μ := by
  unfold onR at h
  split at h
  · unfold onV at h
    split at h
    · rename_i q; cases q; exact ⟨rfl, h⟩
    · rename_i q; cases q
    · exact h.elim
  · unfold onL at h
    split at h
    · rename_i q; cases q; exact ⟨rfl, h⟩
    · rename_i q; cases q
    · exact h.elim
  · unfold onI at h
    split at h
    · rename_i q; cases q; exact ⟨rfl, h⟩
    · rename_i q; cases q
    · exact h.elim
theorem onR_r {t : Option FieldType} {f : List Value → Mem → Prop} {x : Nat → Mem → Prop} {e : Nat} {μ : Mem} (h : onR t f x (.inr e) μ) : x e μ := by
  unfold onR at h
  split at h <;> exact h
section AM13
variable {g : Gl} {mi : MI} {R : Room} {Q : QT} {nc ns pc : Nat} {ls : Lo} {st : List Value} {μ : Mem} {M : MT} {RET : Out → Nat → Nat → Mem → Prop} {K : Kt}
theorem tsw_mono {x : Int32} {K1 K2 : Int → Prop} {d : Int} (hK : ∀ o, K1 o → K2 o) : ∀ {os : List Int} {lo : Int}, tsw x K1 d lo os → tsw x K2 d lo os := by
  intro os
  induction os with
  | nil => intro lo h; exact hK _ h
  | cons o os ih => intro lo h; exact ⟨fun z => hK _ (h.1 z), fun z => ih (h.2 z)⟩
theorem hx_mono {K1 K2 : Nat → Nat → Nat → Prop} {pc e : Nat} (hK : ∀ a b c, K1 a b c → K2 a b c) : ∀ {l : List Hdl}, hx K1 pc e l → hx K2 pc e l := by
  intro l
  induction l with
  | nil => intro h; exact h
  | cons q t ih =>
    obtain ⟨a, b, hp, ct, e9, n, ln⟩ := q
    intro h
    unfold hx at h ⊢
    revert h
    cases Nat.beq e9 e with
    | false => exact fun h => ih h
    | true =>
      dsimp only
      cases (Nat.ble a pc && Nat.blt pc b) with
      | false => exact fun h => h
      | true => exact fun h => hK _ _ _ h
theorem thr_X (hRET : RetOK g mi M R Q RET) (hK : ∀ {nc ns pc : Nat} {ls : Lo} {st : List Value} {μ : Mem}, K nc ns pc ls st μ → Wm g mi R Q nc ns pc ls st μ) {e : Nat} {q : MI} (h5 : e < 5) (h : match M.2.2.2 with | [] => RET (.inr e) (nc + miK q) (ns + miS q) μ | h :: t => hx (fun hp n ln => K (nc + miK q) (ns + miS q) (hp + ln) (ls.filter fun q => Nat.ble (q.1 + q.2.category) n) [] μ) pc e (h :: t)) : WX g mi R Q (nc + miK q) (ns + miS q) pc ls e μ := by
  split at h
  · rename_i hn; exact hRET.2.2.2.2.1 hn h5 h
  · rename_i hn; exact hRET.2.2.2.2.2 h5 (by rw [hn]; exact hx_mono (fun _ _ _ z => hK z) h)
theorem step_V {v : Nat} (hP : PoolOK (miY mi).cls M.2.1) (hRET : RetOK g mi M R Q RET) (hK : ∀ {nc ns pc : Nat} {ls : Lo} {st : List Value} {μ : Mem}, K nc ns pc ls st μ → Wm g mi R Q nc ns pc ls st μ) (hd : decode (miC mi) pc = .ok (.invokevirtual v, 3)) (h : step R RET g mi M (.invokevirtual v) nc ns pc ls st μ K) : Wm g mi R Q nc ns pc ls st μ := by
  unfold step at h
  dsimp only at h
  split at h
  · rename_i q e
    obtain ⟨h1, h2, h0, h3, h4, h5, h6⟩ := hP.2.2.2.2.2.2.2.2.2.2.2.2 _ (fnd_mem e)
    obtain ⟨As, t, h, e1, e2⟩ := spl_ok h
    obtain ⟨k, r, rfl, h⟩ := a1_ok h
    obtain ⟨hk, h⟩ := isT_ok h
    obtain ⟨hr, h⟩ := isT_ok h
    obtain ⟨dx, hR, hS⟩ := callK_ok h
    rw [List.reverse_nil, List.nil_append] at e1
    rw [← e1]
    exact am_callW h1 h2 h0 h3 h4 h5 h6 (isS_ok hk).1 (isS_ok hk).2 (by simpa using e2) (by rw [catS_eq]; exact Nat.le_of_ble_eq_true hr) hR hd hS (fun v μ' hv => ⟨(onR_l hv).1, hK (onR_l (g := g) hv).2⟩) (fun e μ' _ hv => (onR_r hv : False).elim)
  · split at h
    · rename_i q e
      obtain ⟨h1, h2, h3, h4, h5, h6, r9, h7, h8⟩ := hP.2.2.2.2.1 _ (fnd_mem e)
      obtain ⟨As, t, h, e1, e2⟩ := spl_ok h
      obtain ⟨k, r, rfl, h⟩ := a1_ok h
      obtain ⟨hk, hc, h⟩ := isK_ok h
      obtain ⟨hr, h⟩ := isT_ok h
      obtain ⟨dx, hR, hS⟩ := callK_ok h
      rw [List.reverse_nil, List.nil_append] at e1
      rw [← e1]
      exact am_callV h1 h2 h3 h4 h5 h6 hk (by rw [hc]; exact h7) h8 (by simpa using e2) (by rw [catS_eq]; exact Nat.le_of_ble_eq_true hr) hR hd hS (fun v μ' hv => ⟨(onR_l hv).1, hK (onR_l (g := g) hv).2⟩) (fun ex μ' hx5 hv => thr_X hRET hK hx5 (onR_r hv))
    · obtain ⟨q, e, h⟩ := mF_ok h
      obtain ⟨h1, h2, h3, h4, ⟨r9, h7, h8⟩, h9, h10, h11, h12⟩ := hP.2.2.2.2.2.2.2.1 _ (fnd_mem e)
      obtain ⟨As, t, h, e1, e2⟩ := spl_ok h
      obtain ⟨k, r, rfl, h⟩ := a1_ok h
      obtain ⟨hk, hc, h⟩ := isK_ok h
      obtain ⟨hr, h⟩ := isT_ok h
      obtain ⟨dx, hR, hS⟩ := callK_ok h
      rw [List.reverse_nil, List.nil_append] at e1
      rw [← e1]
      exact am_callU h1 h2 h3 h4 h8 h9 h10 h11 h12 hk (by rw [hc]; exact h7) (by simpa using e2) (by rw [catS_eq]; exact Nat.le_of_ble_eq_true hr) hR hd hS (fun e μ' hv => onR_r hv) (fun v μ' hv => ⟨(onR_l hv).1, hK (onR_l (g := g) hv).2⟩)
theorem step_S {v : Nat} (hP : PoolOK (miY mi).cls M.2.1) (hRET : RetOK g mi M R Q RET) (hK : ∀ {nc ns pc : Nat} {ls : Lo} {st : List Value} {μ : Mem}, K nc ns pc ls st μ → Wm g mi R Q nc ns pc ls st μ) (hd : decode (miC mi) pc = .ok (.invokestatic v, 3)) (h : step R RET g mi M (.invokestatic v) nc ns pc ls st μ K) : Wm g mi R Q nc ns pc ls st μ := by
  unfold step at h
  dsimp only at h
  split at h
  · rename_i q e
    have hq := hP.2.2.2.2.2.2.2.2.2.1 _ (fnd_mem e)
    obtain ⟨hb, h⟩ := isT_ok h
    simp only [Bool.and_eq_true] at hb
    obtain ⟨⟨⟨b1, b2⟩, b3⟩, b4⟩ := hb
    have b2 := Nat.le_of_ble_eq_true b2
    simp only [mathB, Bool.and_eq_true] at hq
    obtain ⟨q0, hq⟩ := hq
    split at h
    · rename_i w; rw [w] at hq; simp only [Bool.and_eq_true] at hq
      obtain ⟨x, r, rfl, h⟩ := s1_ok h
      intro p e s m args below meth c C H locs L hR hS hl
      exact va_mabs C.1 C.2.1 (C.2.2.1.trans hl.1.symm) C.2.2.2.2.2.1 (C.2.2.2.2.2.2.1 _ (tb_of hq.1.1)) (C.2.2.2.2.2.2.1 _ (tb_of hq.1.2)) (C.2.2.2.2.2.2.1 _ (tb_of q0)) (C.2.2.2.2.2.2.1 _ (tb_of hq.2)) (Nat.le_of_ble_eq_true b1) (by rw [cat_map, catS_eq]; have : catS (Value.int x :: r) = 1 + catS r := rfl; omega) (Nat.le_of_ble_eq_true b3) (Nat.le_of_ble_eq_true b4) hd (hK h p e s m args below meth c C H locs L hR hS hl)
    · rename_i w; rw [w] at hq; simp only [Bool.and_eq_true] at hq
      obtain ⟨x, y, r, rfl, h⟩ := s2_ok h
      intro p e s m args below meth c C H locs L hR hS hl
      exact va_mmax C.1 C.2.1 (C.2.2.1.trans hl.1.symm) C.2.2.2.2.2.1 (C.2.2.2.2.2.2.1 _ (tb_of hq.1.1)) (C.2.2.2.2.2.2.1 _ (tb_of hq.1.2)) (C.2.2.2.2.2.2.1 _ (tb_of q0)) (C.2.2.2.2.2.2.1 _ (tb_of hq.2)) (Nat.le_of_ble_eq_true b1) (by rw [cat_map, catS_eq]; have : catS (Value.int y :: Value.int x :: r) = 1 + (1 + catS r) := rfl; omega) (Nat.le_of_ble_eq_true b3) (Nat.le_of_ble_eq_true b4) hd (hK h p e s m args below meth c C H locs L hR hS hl)
    · rename_i w1 w2
      split at hq
      · rename_i w; exact absurd w w1
      · rename_i w; exact absurd w w2
      · simp only [Bool.and_eq_true] at hq
        obtain ⟨x, y, r, rfl, h⟩ := s2_ok h
        intro p e s m args below meth c C H locs L hR hS hl
        exact va_mmin C.1 C.2.1 (C.2.2.1.trans hl.1.symm) C.2.2.2.2.2.1 (C.2.2.2.2.2.2.1 _ (tb_of hq.1.1)) (C.2.2.2.2.2.2.1 _ (tb_of hq.1.2)) (C.2.2.2.2.2.2.1 _ (tb_of q0)) (C.2.2.2.2.2.2.1 _ (tb_of hq.2)) (Nat.le_of_ble_eq_true b1) (by rw [cat_map, catS_eq]; have : catS (Value.int y :: Value.int x :: r) = 1 + (1 + catS r) := rfl; omega) (Nat.le_of_ble_eq_true b3) (Nat.le_of_ble_eq_true b4) hd (hK h p e s m args below meth c C H locs L hR hS hl)
  · split at h
    · rename_i q e
      have hq := hP.2.2.2.2.2.2.2.2.1 _ (fnd_mem e)
      obtain ⟨k0, sp, k1, dp, n, rfl, h⟩ := cp5_ok h
      obtain ⟨hb, hn, h⟩ := isT_ok h
      simp only [Bool.and_eq_true] at hb
      obtain ⟨⟨⟨⟨b1, b2⟩, b3⟩, b4⟩, b5⟩ := hb
      have b5 := Nat.eq_of_beq_eq_true b5
      split at h
      · rename_i hk; exact am_acpI hq (Nat.le_of_ble_eq_true b3) (Nat.le_of_ble_eq_true b4) (Nat.le_of_ble_eq_true b1) (Nat.le_of_ble_eq_true b2) hk (b5.symm.trans hk) hn hd (hK h)
      · rename_i hk; exact am_acpL hq (Nat.le_of_ble_eq_true b3) (Nat.le_of_ble_eq_true b4) (Nat.le_of_ble_eq_true b1) (Nat.le_of_ble_eq_true b2) hk (b5.symm.trans hk) hn hd (hK h)
      · rename_i hk; exact am_acpZ hq (Nat.le_of_ble_eq_true b3) (Nat.le_of_ble_eq_true b4) (Nat.le_of_ble_eq_true b1) (Nat.le_of_ble_eq_true b2) hk (b5.symm.trans hk) hn h.1 hd (hK h.2)
      · exact h.elim
    · split at h
      · rename_i q e
        obtain ⟨h1, h3, h4, h6⟩ := hP.2.2.2.2.2.1 _ (fnd_mem e)
        obtain ⟨As, r, h, e1, e2⟩ := spl_ok h
        obtain ⟨hr, h⟩ := isT_ok h
        obtain ⟨dx, hR, hS⟩ := callK_ok h
        rw [List.reverse_nil, List.nil_append] at e1
        rw [← e1]
        cases hH : miH q.1 with
        | nil => exact am_callS h1 hH h3 h4 h6 (by simpa using e2) (by rw [catS_eq]; exact Nat.le_of_ble_eq_true hr) hR hd hS (fun v μ' hv => ⟨(onR_l hv).1, hK (onR_l (g := g) hv).2⟩) (fun ex μ' hx5 hv => thr_X hRET hK hx5 (onR_r hv))
        | cons a b => exact am_callSH h1 hH h3 h4 h6 (by simpa using e2) (by rw [catS_eq]; exact Nat.le_of_ble_eq_true hr) hR hd hS (fun v μ' hv => ⟨(onR_l hv).1, hK (onR_l (g := g) hv).2⟩) (fun ex μ' hx5 hv => thr_X hRET hK hx5 (onR_r hv))
      · obtain ⟨q, e, h⟩ := mF_ok h
        obtain ⟨h1, h2, h3, h4, h6⟩ := hP.2.2.2.2.2.2.1 _ (fnd_mem e)
        obtain ⟨As, r, h, e1, e2⟩ := spl_ok h
        obtain ⟨hr, h⟩ := isT_ok h
        obtain ⟨dx, hR, hS⟩ := callK_ok h
        rw [List.reverse_nil, List.nil_append] at e1
        rw [← e1]
        exact am_callSN h1 h2 h3 h4 h6 (by simpa using e2) (by rw [catS_eq]; exact Nat.le_of_ble_eq_true hr) hR hd hS (fun e μ' hv => onR_r hv) (fun v μ' hv => ⟨(onR_l hv).1, hK (onR_l (g := g) hv).2⟩)
set_option maxRecDepth 100000 in
theorem step_sound {i : Instr} {n : Nat} (hP : PoolOK (miY mi).cls M.2.1) (hRET : RetOK g mi M R Q RET) (hK : ∀ {nc ns pc : Nat} {ls : Lo} {st : List Value} {μ : Mem}, K nc ns pc ls st μ → Wm g mi R Q nc ns pc ls st μ) (hd : decode (miC mi) pc = .ok (i, n)) (hi : okI mi pc i n = true) (h : step R RET g mi M i nc ns pc ls st μ K) : Wm g mi R Q nc ns pc ls st μ := by
  cases i with
  | iadd  =>
    cases (Nat.eq_of_beq_eq_true hi : n = 1)
    unfold step at h; dsimp only at h
    obtain ⟨x, y, r, rfl, h⟩ := s2_ok h; exact am_iadd hd (hK h)
  | isub  =>
    cases (Nat.eq_of_beq_eq_true hi : n = 1)
    unfold step at h; dsimp only at h
    obtain ⟨x, y, r, rfl, h⟩ := s2_ok h; exact am_isub hd (hK h)
  | imul  =>
    cases (Nat.eq_of_beq_eq_true hi : n = 1)
    unfold step at h; dsimp only at h
    obtain ⟨x, y, r, rfl, h⟩ := s2_ok h; exact am_imul hd (hK h)
  | iand  =>
    cases (Nat.eq_of_beq_eq_true hi : n = 1)
    unfold step at h; dsimp only at h
    obtain ⟨x, y, r, rfl, h⟩ := s2_ok h; exact am_iand hd (hK h)
  | ior  =>
    cases (Nat.eq_of_beq_eq_true hi : n = 1)
    unfold step at h; dsimp only at h
    obtain ⟨x, y, r, rfl, h⟩ := s2_ok h; exact am_ior hd (hK h)
  | ixor  =>
    cases (Nat.eq_of_beq_eq_true hi : n = 1)
    unfold step at h; dsimp only at h
    obtain ⟨x, y, r, rfl, h⟩ := s2_ok h; exact am_ixor hd (hK h)
  | ishl  =>
    cases (Nat.eq_of_beq_eq_true hi : n = 1)
    unfold step at h; dsimp only at h
    obtain ⟨x, y, r, rfl, h⟩ := s2_ok h; exact am_ishl hd (hK h)
  | ishr  =>
    cases (Nat.eq_of_beq_eq_true hi : n = 1)
    unfold step at h; dsimp only at h
    obtain ⟨x, y, r, rfl, h⟩ := s2_ok h; exact am_ishr hd (hK h)
  | iushr  =>
    cases (Nat.eq_of_beq_eq_true hi : n = 1)
    unfold step at h; dsimp only at h
    obtain ⟨x, y, r, rfl, h⟩ := s2_ok h; exact am_iushr hd (hK h)
  | idiv  =>
    cases (Nat.eq_of_beq_eq_true hi : n = 1)
    unfold step at h; dsimp only at h
    obtain ⟨x, y, r, rfl, h⟩ := s2_ok h; exact am_idiv h.1 hd (hK h.2)
  | irem  =>
    cases (Nat.eq_of_beq_eq_true hi : n = 1)
    unfold step at h; dsimp only at h
    obtain ⟨x, y, r, rfl, h⟩ := s2_ok h; exact am_irem h.1 hd (hK h.2)
  | ineg  =>
    cases (Nat.eq_of_beq_eq_true hi : n = 1)
    unfold step at h; dsimp only at h
    obtain ⟨x, r, rfl, h⟩ := s1_ok h; exact am_ineg hd (hK h)
  | ladd  =>
    cases (Nat.eq_of_beq_eq_true hi : n = 1)
    unfold step at h; dsimp only at h
    obtain ⟨x, y, r, rfl, h⟩ := j2_ok h; exact am_ladd hd (hK h)
  | lsub  =>
    cases (Nat.eq_of_beq_eq_true hi : n = 1)
    unfold step at h; dsimp only at h
    obtain ⟨x, y, r, rfl, h⟩ := j2_ok h; exact am_lsub hd (hK h)
  | land  =>
    cases (Nat.eq_of_beq_eq_true hi : n = 1)
    unfold step at h; dsimp only at h
    obtain ⟨x, y, r, rfl, h⟩ := j2_ok h; exact am_land hd (hK h)
  | lor  =>
    cases (Nat.eq_of_beq_eq_true hi : n = 1)
    unfold step at h; dsimp only at h
    obtain ⟨x, y, r, rfl, h⟩ := j2_ok h; exact am_lor hd (hK h)
  | lxor  =>
    cases (Nat.eq_of_beq_eq_true hi : n = 1)
    unfold step at h; dsimp only at h
    obtain ⟨x, y, r, rfl, h⟩ := j2_ok h; exact am_lxor hd (hK h)
  | lushr  =>
    cases (Nat.eq_of_beq_eq_true hi : n = 1)
    unfold step at h; dsimp only at h
    obtain ⟨x, y, r, rfl, h⟩ := ji_ok h; exact am_lushr hd (hK h)
  | lshl  =>
    cases (Nat.eq_of_beq_eq_true hi : n = 1)
    unfold step at h; dsimp only at h
    obtain ⟨x, y, r, rfl, h⟩ := ji_ok h; exact am_lshl hd (hK h)
  | lshr  =>
    cases (Nat.eq_of_beq_eq_true hi : n = 1)
    unfold step at h; dsimp only at h
    obtain ⟨x, y, r, rfl, h⟩ := ji_ok h; exact am_lshr hd (hK h)
  | lcmp  =>
    cases (Nat.eq_of_beq_eq_true hi : n = 1)
    unfold step at h; dsimp only at h
    obtain ⟨x, y, r, rfl, h⟩ := j2_ok h; exact am_lcmp hd (hK h)
  | i2l  =>
    cases (Nat.eq_of_beq_eq_true hi : n = 1)
    unfold step at h; dsimp only at h
    obtain ⟨x, r, rfl, h⟩ := s1_ok h; exact am_i2l hd (hK h)
  | l2i  =>
    cases (Nat.eq_of_beq_eq_true hi : n = 1)
    unfold step at h; dsimp only at h
    obtain ⟨x, r, rfl, h⟩ := j1_ok h; exact am_l2i hd (hK h)
  | i2b  =>
    cases (Nat.eq_of_beq_eq_true hi : n = 1)
    unfold step at h; dsimp only at h
    obtain ⟨x, r, rfl, h⟩ := s1_ok h; exact am_i2b hd (hK h)
  | iconst v =>
    cases (Nat.eq_of_beq_eq_true hi : n = 1)
    unfold step at h; dsimp only at h
    exact am_iconst hd (hK h)
  | bipush v =>
    simp only [okI, Bool.and_eq_true] at hi
    cases (Nat.eq_of_beq_eq_true hi.1 : n = 2)
    unfold step at h; dsimp only at h
    exact am_bipush (of_decide_eq_true hi.2) hd (hK h)
  | sipush v =>
    simp only [okI, Bool.and_eq_true] at hi
    cases (Nat.eq_of_beq_eq_true hi.1 : n = 3)
    unfold step at h; dsimp only at h
    exact am_sipush (of_decide_eq_true hi.2) hd (hK h)
  | lconst v =>
    cases (Nat.eq_of_beq_eq_true hi : n = 1)
    unfold step at h; dsimp only at h
    exact am_lconst hd (hK h)
  | iload_n v =>
    cases (Nat.eq_of_beq_eq_true hi : n = 1)
    unfold step at h; dsimp only at h
    obtain ⟨x, e, h⟩ := vI_ok h; exact am_iload_n e hd (hK h)
  | iload v =>
    cases (Nat.eq_of_beq_eq_true hi : n = 2)
    unfold step at h; dsimp only at h
    obtain ⟨x, e, h⟩ := vI_ok h; exact am_iload e hd (hK h)
  | lload_n v =>
    cases (Nat.eq_of_beq_eq_true hi : n = 1)
    unfold step at h; dsimp only at h
    obtain ⟨x, e, h⟩ := vL_ok h; exact am_lload_n e hd (hK h)
  | lload v =>
    cases (Nat.eq_of_beq_eq_true hi : n = 2)
    unfold step at h; dsimp only at h
    obtain ⟨x, e, h⟩ := vL_ok h; exact am_lload e hd (hK h)
  | aload_n v =>
    cases (Nat.eq_of_beq_eq_true hi : n = 1)
    unfold step at h; dsimp only at h
    obtain ⟨x, e, h⟩ := vA_ok h; exact am_aload_n e hd (hK h)
  | aload v =>
    cases (Nat.eq_of_beq_eq_true hi : n = 2)
    unfold step at h; dsimp only at h
    obtain ⟨x, e, h⟩ := vA_ok h; exact am_aload e hd (hK h)
  | istore_n v =>
    simp only [okI, Bool.and_eq_true] at hi
    cases (Nat.eq_of_beq_eq_true hi.1 : n = 1)
    unfold step at h; dsimp only at h
    obtain ⟨x, r, rfl, h⟩ := s1_ok h; exact am_istore_n (Nat.le_of_ble_eq_true hi.2) hd (hK h)
  | istore v =>
    simp only [okI, Bool.and_eq_true] at hi
    cases (Nat.eq_of_beq_eq_true hi.1 : n = 2)
    unfold step at h; dsimp only at h
    obtain ⟨x, r, rfl, h⟩ := s1_ok h; exact am_istore (Nat.le_of_ble_eq_true hi.2) hd (hK h)
  | lstore_n v =>
    simp only [okI, Bool.and_eq_true] at hi
    cases (Nat.eq_of_beq_eq_true hi.1 : n = 1)
    unfold step at h; dsimp only at h
    obtain ⟨x, r, rfl, h⟩ := j1_ok h; exact am_lstore_n (Nat.le_of_ble_eq_true hi.2) hd (hK h)
  | lstore v =>
    simp only [okI, Bool.and_eq_true] at hi
    cases (Nat.eq_of_beq_eq_true hi.1 : n = 2)
    unfold step at h; dsimp only at h
    obtain ⟨x, r, rfl, h⟩ := j1_ok h; exact am_lstore (Nat.le_of_ble_eq_true hi.2) hd (hK h)
  | astore_n v =>
    simp only [okI, Bool.and_eq_true] at hi
    cases (Nat.eq_of_beq_eq_true hi.1 : n = 1)
    unfold step at h; dsimp only at h
    obtain ⟨x, r, rfl, h⟩ := a1_ok h; exact am_astore_n (Nat.le_of_ble_eq_true hi.2) hd (hK h)
  | astore v =>
    simp only [okI, Bool.and_eq_true] at hi
    cases (Nat.eq_of_beq_eq_true hi.1 : n = 2)
    unfold step at h; dsimp only at h
    obtain ⟨x, r, rfl, h⟩ := a1_ok h; exact am_astore (Nat.le_of_ble_eq_true hi.2) hd (hK h)
  | iinc v w =>
    simp only [okI, Bool.and_eq_true] at hi
    cases (Nat.eq_of_beq_eq_true hi.1 : n = 3)
    unfold step at h; dsimp only at h
    obtain ⟨x, e, h⟩ := vI_ok h; exact am_iinc (Nat.le_of_ble_eq_true hi.2) e hd (hK h)
  | dup  =>
    cases (Nat.eq_of_beq_eq_true hi : n = 1)
    unfold step at h; dsimp only at h
    obtain ⟨v, r, rfl, e, h⟩ := c1_ok h; exact am_dup e hd (hK h)
  | pop  =>
    cases (Nat.eq_of_beq_eq_true hi : n = 1)
    unfold step at h; dsimp only at h
    obtain ⟨v, r, rfl, e, h⟩ := c1_ok h; exact am_pop e hd (hK h)
  | dup2  =>
    cases (Nat.eq_of_beq_eq_true hi : n = 1)
    unfold step at h; dsimp only at h
    obtain ⟨v, r, rfl, e, h⟩ := c1_ok h; obtain ⟨w, r, rfl, e2, h⟩ := c1_ok h; exact am_dup2 e e2 hd (hK h)
  | goto o =>
    simp only [okI, Bool.and_eq_true] at hi
    cases (Nat.eq_of_beq_eq_true hi.1 : n = 3)
    unfold step at h; dsimp only at h
    exact am_goto (of_decide_eq_true hi.2) hd (hK h)
  | tableswitch d lo hi os =>
    simp only [okI, Bool.and_eq_true] at hi
    obtain ⟨x, r, rfl, h⟩ := s1_ok h; exact am_tsw (of_decide_eq_true hi.1.1.1.1) (of_decide_eq_true hi.1.1.1.2) (of_decide_eq_true hi.1.1.2) (of_decide_eq_true hi.1.2) (of_decide_eq_true hi.2) hd (tsw_mono (fun o z => hK z) h)
  | getfield v =>
    cases (Nat.eq_of_beq_eq_true hi : n = 3)
    unfold step at h; dsimp only at h
    split at h
    · rename_i q e; obtain ⟨k, r, e0, h9⟩ := a1_ok h; subst e0; obtain ⟨h1, h9⟩ := isT_ok h9; have h2 := hP.2.2.2.2.2.2.2.2.2.2.2.1 _ (fnd_mem e); unfold qsB at h2
      split at h9
      · rename_i w; rw [w] at h2; exact am_sval h2 (isS_ok h1).1 (isS_ok h1).2 hd (hK h9)
      · rename_i w; split at h2
        · rename_i w2; exact absurd w2 w
        · exact am_scod h2 (isS_ok h1).1 (isS_ok h1).2 hd (hK h9)
    · obtain ⟨q, e, h⟩ := mF_ok h; obtain ⟨k, r, rfl, h⟩ := a1_ok h; obtain ⟨hk, hc, h⟩ := isK_ok h; exact am_get (hP.1 _ (fnd_mem e)) hk hc hd (hK h)
  | putfield v =>
    cases (Nat.eq_of_beq_eq_true hi : n = 3)
    unfold step at h; dsimp only at h
    obtain ⟨q, e, h⟩ := mF_ok h; obtain ⟨x, r, rfl, h⟩ := c12_ok h; obtain ⟨k, r, rfl, h⟩ := a1_ok h; obtain ⟨hk, hc, h⟩ := isK_ok h; obtain ⟨hw, h⟩ := isT_ok h; obtain ⟨μ', h1, h⟩ := putF_ok h; exact am_put (hP.1 _ (fnd_mem e)) hw hk hc h1 hd (hK h)
  | iaload  =>
    cases (Nat.eq_of_beq_eq_true hi : n = 1)
    unfold step at h; dsimp only at h
    obtain ⟨k, i, r, e0, h9⟩ := ai_ok h; subst e0
    split at h9
    · rename_i hb; rw [Nat.eq_of_beq_eq_true hb]; exact am_sald h9.1 hd (hK h9.2)
    · obtain ⟨hk, hc, h9⟩ := isK_ok h9; exact am_iald hk hc h9.1 hd (hK h9.2)
  | laload  =>
    cases (Nat.eq_of_beq_eq_true hi : n = 1)
    unfold step at h; dsimp only at h
    obtain ⟨k, i, r, rfl, h⟩ := ai_ok h; obtain ⟨hk, hc, h⟩ := isK_ok h; exact am_lald hk hc h.1 hd (hK h.2)
  | baload  =>
    cases (Nat.eq_of_beq_eq_true hi : n = 1)
    unfold step at h; dsimp only at h
    obtain ⟨k, i, r, e0, h9⟩ := ai_ok h; subst e0
    rcases if2_ok h9 with ⟨hb, h9⟩ | ⟨-, h9⟩
    · obtain ⟨h1, h9⟩ := isT_ok h9; rw [kb_add hb]; exact am_sbald (k := kb k) (isS_ok h1).1 (isS_ok h1).2 h9.1 hd (hK h9.2)
    · split at h9
      · obtain ⟨hk, hc, h9⟩ := isK_ok h9; exact am_bald hk hc h9.1 hd (hK h9.2)
      · obtain ⟨hk, hc, h9⟩ := isK_ok h9; exact am_zald hk hc h9.1 hd (hK h9.2)
  | aaload  =>
    cases (Nat.eq_of_beq_eq_true hi : n = 1)
    unfold step at h; dsimp only at h
    obtain ⟨k, i, r, rfl, h⟩ := ai_ok h; obtain ⟨hk, hc, h⟩ := isK_ok h; exact am_aald hk hc h.1 h.2.1 hd (hK h.2.2)
  | arraylength  =>
    cases (Nat.eq_of_beq_eq_true hi : n = 1)
    unfold step at h; dsimp only at h
    obtain ⟨k, r, e0, h9⟩ := a1_ok h; subst e0
    rcases if2_ok h9 with ⟨hb, h9⟩ | ⟨-, h9⟩
    · obtain ⟨h1, h9⟩ := isT_ok h9; rw [kb_add hb]; exact am_slenB (k := kb k) (isS_ok h1).1 (isS_ok h1).2 hd (hK h9)
    · split at h9
      · rename_i hb; rw [Nat.eq_of_beq_eq_true hb]; exact am_slen hd (hK h9)
      · obtain ⟨h1, h9⟩ := isT_ok h9; simp only [Bool.and_eq_true] at h1; exact am_len (Nat.le_of_ble_eq_true h1.1.1) (Nat.le_of_ble_eq_true h1.1.2) (Nat.le_of_ble_eq_true h1.2) hd (hK h9)
  | getstatic v =>
    cases (Nat.eq_of_beq_eq_true hi : n = 3)
    unfold step at h; dsimp only at h
    obtain ⟨q, e, h⟩ := mF_ok h; have h2 := hP.2.2.2.2.2.2.2.2.2.2.1 _ (fnd_mem e); unfold gsB at h2
    split at h
    · rename_i w; rw [w] at h2; exact am_gcs h2 hd (hK h)
    · rename_i w; split at h2
      · rename_i w2; exact absurd w2 w
      · exact am_gsz h2 hd (hK h)
  | i2c  =>
    cases (Nat.eq_of_beq_eq_true hi : n = 1)
    unfold step at h; dsimp only at h
    obtain ⟨x, r, rfl, h⟩ := s1_ok h; exact am_i2c hd (hK h)
  | iastore  =>
    cases (Nat.eq_of_beq_eq_true hi : n = 1)
    unfold step at h; dsimp only at h
    obtain ⟨k, i, x, r, rfl, h⟩ := aii_ok h; obtain ⟨hk, hc, h⟩ := isK_ok h; exact am_iast hk hc h.1 hd (hK h.2)
  | lastore  =>
    cases (Nat.eq_of_beq_eq_true hi : n = 1)
    unfold step at h; dsimp only at h
    obtain ⟨k, i, x, r, rfl, h⟩ := aij_ok h; obtain ⟨hk, hc, h⟩ := isK_ok h; exact am_last hk hc h.1 hd (hK h.2)
  | bastore  =>
    cases (Nat.eq_of_beq_eq_true hi : n = 1)
    unfold step at h; dsimp only at h
    obtain ⟨k, i, x, r, e0, h9⟩ := aii_ok h; subst e0
    split at h9
    · obtain ⟨hk, hc, h9⟩ := isK_ok h9; exact am_bast hk hc h9.1 hd (hK h9.2)
    · obtain ⟨hk, hc, h9⟩ := isK_ok h9; exact am_zast hk hc h9.1 h9.2.1 hd (hK h9.2.2)
  | aastore  =>
    cases (Nat.eq_of_beq_eq_true hi : n = 1)
    unfold step at h; dsimp only at h
    obtain ⟨k, i, v, r, rfl, h⟩ := aia_ok h; obtain ⟨hk, hc, h⟩ := isK_ok h; obtain ⟨hv, hs, h2⟩ := isK_ok h.2; exact am_aast hk hc h.1 hv hs hd (hK h2)
  | ldc v =>
    cases (Nat.eq_of_beq_eq_true hi : n = 2)
    unfold step at h; dsimp only at h
    split at h
    · rename_i q e; exact am_ldc (hP.2.1 _ (fnd_mem e)) hd (hK h)
    · obtain ⟨j, e, h⟩ := mF_ok h; exact am_ldcS (hP.2.2.2.1 _ (fnd_mem e)) hd (hK h)
  | ldc_w v =>
    cases (Nat.eq_of_beq_eq_true hi : n = 3)
    unfold step at h; dsimp only at h
    obtain ⟨q, e, h⟩ := mF_ok h; exact am_ldcw (hP.2.1 _ (fnd_mem e)) hd (hK h)
  | ldc2_w v =>
    cases (Nat.eq_of_beq_eq_true hi : n = 3)
    unfold step at h; dsimp only at h
    obtain ⟨q, e, h⟩ := mF_ok h; exact am_ldc2 (hP.2.2.1 _ (fnd_mem e)) hd (hK h)
  | ireturn  =>
    cases (Nat.eq_of_beq_eq_true hi : n = 1)
    unfold step at h; dsimp only at h
    obtain ⟨v, r, e0, h9⟩ := s1_ok h; subst e0
    split at h9
    · obtain ⟨ty, e, h1, h2⟩ := rtI_ok h9; exact hRET.1 hd e h1 h2
    · exact h9.elim
  | lreturn  =>
    simp only [okI, Bool.and_eq_true] at hi
    cases (Nat.eq_of_beq_eq_true hi.1 : n = 1)
    unfold step at h; dsimp only at h
    obtain ⟨v, r, e0, h9⟩ := j1_ok h; subst e0
    split at h9
    · exact hRET.2.1 hd (of_decide_eq_true hi.2) h9
    · exact h9.elim
  | return_  =>
    simp only [okI, Bool.and_eq_true] at hi
    cases (Nat.eq_of_beq_eq_true hi.1 : n = 1)
    unfold step at h; dsimp only at h
    split at h
    · exact hRET.2.2.1 hd (of_decide_eq_true hi.2) h
    · exact h.elim
  | new v =>
    cases (Nat.eq_of_beq_eq_true hi : n = 3)
    unfold step at h; dsimp only at h
    split at h
    · obtain ⟨q, e, h⟩ := mF_ok h; obtain ⟨h1, h⟩ := isT_ok h; exact hRET.2.2.2.1 hd (fnd_mem e) h1 h
    · exact h.elim
  | invokevirtual v =>
    cases (Nat.eq_of_beq_eq_true hi : n = 3)
    exact step_V hP hRET hK hd h
  | invokestatic v =>
    cases (Nat.eq_of_beq_eq_true hi : n = 3)
    exact step_S hP hRET hK hd h
  | ifCond c o =>
    cases c with
    | eq =>
      simp only [okI, Bool.and_eq_true] at hi
      cases (Nat.eq_of_beq_eq_true hi.1 : n = 3)
      unfold step at h; dsimp only at h
      obtain ⟨x, r, rfl, h⟩ := s1_ok h; exact am_if_eq (of_decide_eq_true hi.2) hd ⟨fun z => hK (h.1 z), fun z => hK (h.2 z)⟩
    | ne =>
      simp only [okI, Bool.and_eq_true] at hi
      cases (Nat.eq_of_beq_eq_true hi.1 : n = 3)
      unfold step at h; dsimp only at h
      obtain ⟨x, r, rfl, h⟩ := s1_ok h; exact am_if_ne (of_decide_eq_true hi.2) hd ⟨fun z => hK (h.1 z), fun z => hK (h.2 z)⟩
    | lt =>
      simp only [okI, Bool.and_eq_true] at hi
      cases (Nat.eq_of_beq_eq_true hi.1 : n = 3)
      unfold step at h; dsimp only at h
      obtain ⟨x, r, rfl, h⟩ := s1_ok h; exact am_if_lt (of_decide_eq_true hi.2) hd ⟨fun z => hK (h.1 z), fun z => hK (h.2 z)⟩
    | ge =>
      simp only [okI, Bool.and_eq_true] at hi
      cases (Nat.eq_of_beq_eq_true hi.1 : n = 3)
      unfold step at h; dsimp only at h
      obtain ⟨x, r, rfl, h⟩ := s1_ok h; exact am_if_ge (of_decide_eq_true hi.2) hd ⟨fun z => hK (h.1 z), fun z => hK (h.2 z)⟩
    | gt =>
      simp only [okI, Bool.and_eq_true] at hi
      cases (Nat.eq_of_beq_eq_true hi.1 : n = 3)
      unfold step at h; dsimp only at h
      obtain ⟨x, r, rfl, h⟩ := s1_ok h; exact am_if_gt (of_decide_eq_true hi.2) hd ⟨fun z => hK (h.1 z), fun z => hK (h.2 z)⟩
    | le =>
      simp only [okI, Bool.and_eq_true] at hi
      cases (Nat.eq_of_beq_eq_true hi.1 : n = 3)
      unfold step at h; dsimp only at h
      obtain ⟨x, r, rfl, h⟩ := s1_ok h; exact am_if_le (of_decide_eq_true hi.2) hd ⟨fun z => hK (h.1 z), fun z => hK (h.2 z)⟩
  | if_icmp c o =>
    cases c with
    | eq =>
      simp only [okI, Bool.and_eq_true] at hi
      cases (Nat.eq_of_beq_eq_true hi.1 : n = 3)
      unfold step at h; dsimp only at h
      obtain ⟨x, y, r, rfl, h⟩ := s2_ok h; exact am_icmp_eq (of_decide_eq_true hi.2) hd ⟨fun z => hK (h.1 z), fun z => hK (h.2 z)⟩
    | ne =>
      simp only [okI, Bool.and_eq_true] at hi
      cases (Nat.eq_of_beq_eq_true hi.1 : n = 3)
      unfold step at h; dsimp only at h
      obtain ⟨x, y, r, rfl, h⟩ := s2_ok h; exact am_icmp_ne (of_decide_eq_true hi.2) hd ⟨fun z => hK (h.1 z), fun z => hK (h.2 z)⟩
    | lt =>
      simp only [okI, Bool.and_eq_true] at hi
      cases (Nat.eq_of_beq_eq_true hi.1 : n = 3)
      unfold step at h; dsimp only at h
      obtain ⟨x, y, r, rfl, h⟩ := s2_ok h; exact am_icmp_lt (of_decide_eq_true hi.2) hd ⟨fun z => hK (h.1 z), fun z => hK (h.2 z)⟩
    | ge =>
      simp only [okI, Bool.and_eq_true] at hi
      cases (Nat.eq_of_beq_eq_true hi.1 : n = 3)
      unfold step at h; dsimp only at h
      obtain ⟨x, y, r, rfl, h⟩ := s2_ok h; exact am_icmp_ge (of_decide_eq_true hi.2) hd ⟨fun z => hK (h.1 z), fun z => hK (h.2 z)⟩
    | gt =>
      simp only [okI, Bool.and_eq_true] at hi
      cases (Nat.eq_of_beq_eq_true hi.1 : n = 3)
      unfold step at h; dsimp only at h
      obtain ⟨x, y, r, rfl, h⟩ := s2_ok h; exact am_icmp_gt (of_decide_eq_true hi.2) hd ⟨fun z => hK (h.1 z), fun z => hK (h.2 z)⟩
    | le =>
      simp only [okI, Bool.and_eq_true] at hi
      cases (Nat.eq_of_beq_eq_true hi.1 : n = 3)
      unfold step at h; dsimp only at h
      obtain ⟨x, y, r, rfl, h⟩ := s2_ok h; exact am_icmp_le (of_decide_eq_true hi.2) hd ⟨fun z => hK (h.1 z), fun z => hK (h.2 z)⟩
  | _ => exact h.elim
end AM13
end
section
/-! regions: from a cut to the next -/
def reg (R : Room) (RET : Out → Nat → Nat → Mem → Prop) (g : Gl) (mi : MI) (M : MT) (cs : List (Nat × List Nat)) (W : Kt) : Nat → Kt
  | 0 => W
  | f + 1 => fun nc ns pc ls st μ => match fnd cs pc with
    | some ks => W nc ns pc (lpick ls ks) st μ
    | none => mF (fnd M.1 pc) fun q => step R RET g mi M q.1 nc ns pc ls st μ (reg R RET g mi M cs W f)
def reg1 (R : Room) (RET : Out → Nat → Nat → Mem → Prop) (g : Gl) (mi : MI) (M : MT) (cs : List (Nat × List Nat)) (W : Kt) (f : Nat) : Kt := fun nc ns pc ls st μ => mF (fnd M.1 pc) fun q => step R RET g mi M q.1 nc ns pc ls st μ (reg R RET g mi M cs W f)
def TabOK (mi : MI) (M : MT) : Prop := ∀ q ∈ M.1, decode (miC mi) q.1 = .ok q.2 ∧ okI mi q.1 q.2.1 q.2.2 = true
section AM14
variable {g : Gl} {mi : MI} {R : Room} {Q : QT} {M : MT} {RET : Out → Nat → Nat → Mem → Prop} {cs : List (Nat × List Nat)}
theorem reg_sound (hT : TabOK mi M) (hP : PoolOK (miY mi).cls M.2.1) (hRET : RetOK g mi M R Q RET) : ∀ (f : Nat) {nc ns pc : Nat} {ls : Lo} {st : List Value} {μ : Mem}, reg R RET g mi M cs (Wm g mi R Q) f nc ns pc ls st μ → Wm g mi R Q nc ns pc ls st μ := by
  intro f
  induction f with
  | zero => intro nc ns pc ls st μ h; exact h
  | succ f ih =>
    intro nc ns pc ls st μ h
    unfold reg at h
    split at h
    · exact Wm.pick lpick_sub h
    · obtain ⟨q, e, h⟩ := mF_ok h
      obtain ⟨h1, h2⟩ := hT _ (fnd_mem e)
      exact step_sound hP hRET ih h1 h2 h
theorem reg1_sound (hT : TabOK mi M) (hP : PoolOK (miY mi).cls M.2.1) (hRET : RetOK g mi M R Q RET) (f : Nat) {nc ns pc : Nat} {ls : Lo} {st : List Value} {μ : Mem} (h : reg1 R RET g mi M cs (Wm g mi R Q) f nc ns pc ls st μ) : Wm g mi R Q nc ns pc ls st μ := by
  unfold reg1 at h
  obtain ⟨q, e, h⟩ := mF_ok h
  obtain ⟨h1, h2⟩ := hT _ (fnd_mem e)
  exact step_sound hP hRET (reg_sound hT hP hRET f) h1 h2 h
end AM14
/-- a method's end, as its contract wants it -/
def rtM (mi : MI) (Φ : Out → Mem → Prop) : Out → Nat → Nat → Mem → Prop := fun o nc ns μ => match Nat.ble nc (miK mi) && Nat.ble ns (miS mi) with
  | true => Φ o μ
  | false => False
/-- throws and handlers of a method stand in its code -/
def ThrOK (mi : MI) (M : MT) : Prop := (∀ q ∈ M.2.2.1, miH mi = [] ∧ thrW (miY mi).cls q.2.1 q.2.2.2.2.1 q.2.2.2.2.2.1 = true ∧ strB (miY mi).cls (q.2.2.1, q.2.2.2.1) = true ∧ decode (miC mi) (q.1 + 3) = .ok (.dup, 1) ∧ ((decode (miC mi) (q.1 + 4) = .ok (.ldc q.2.2.1, 2) ∧ decode (miC mi) (q.1 + 6) = .ok (.invokespecial q.2.2.2.2.1, 3) ∧ decode (miC mi) (q.1 + 9) = .ok (.athrow, 1)) ∨ (decode (miC mi) (q.1 + 4) = .ok (.ldc_w q.2.2.1, 3) ∧ decode (miC mi) (q.1 + 7) = .ok (.invokespecial q.2.2.2.2.1, 3) ∧ decode (miC mi) (q.1 + 10) = .ok (.athrow, 1)))) ∧
  (miH mi = M.2.2.2.map (fun h => (h.1, h.2.1, h.2.2.1, h.2.2.2.1))) ∧
  ∀ h ∈ M.2.2.2, h.2.2.2.1 ≠ 0 ∧ h.2.2.2.2.1 < 5 ∧ Cond.classLink (miY mi).cls h.2.2.2.1 (EN h.2.2.2.2.1) ∈ TB ∧ Cond.castable (EN h.2.2.2.2.1) (EN h.2.2.2.2.1) ∈ NW ∧ h.2.2.2.2.2.1 < miN mi ∧ ((∃ k : Fin 4, (k : Nat) = h.2.2.2.2.2.1 ∧ h.2.2.2.2.2.2 = 1 ∧ decode (miC mi) h.2.2.1 = .ok (.astore_n k, 1)) ∨ (h.2.2.2.2.2.2 = 2 ∧ decode (miC mi) h.2.2.1 = .ok (.astore h.2.2.2.2.2.1, 2)))
theorem hdl_ok {g : Gl} {mi : MI} {M : MT} {R : Room} {Q : QT} (hT : ThrOK mi M) {e nc ns pc : Nat} {ls : Lo} {μ : Mem} (h5 : e < 5) : ∀ (pre suf : List Hdl), M.2.2.2 = pre ++ suf → (∀ z ∈ pre, z.2.2.2.2.1 ≠ e) → hx (fun hp n ln => Wm g mi R Q nc ns (hp + ln) (ls.filter fun q => Nat.ble (q.1 + q.2.category) n) [] μ) pc e suf → WX g mi R Q nc ns pc ls e μ := by
  intro pre suf
  induction suf generalizing pre with
  | nil => intro _ _ h; exact h.elim
  | cons q t ih =>
    intro hM hpre h
    obtain ⟨a, b, hp, ct, e9, n, ln⟩ := q
    unfold hx at h
    cases hb : Nat.beq e9 e with
    | false =>
      rw [hb] at h
      have hne : e9 ≠ e := fun q => by rw [q, Nat.beq_refl] at hb; cases hb
      refine ih (pre ++ [(a, b, hp, ct, e9, n, ln)]) (by rw [hM]; simp) (fun z hz => ?_) h
      rcases List.mem_append.mp hz with h1 | h1
      · exact hpre z h1
      · simp only [List.mem_cons, List.not_mem_nil, or_false] at h1
        rw [h1]; exact hne
    | true =>
      rw [hb] at h
      have heq : e9 = e := Nat.eq_of_beq_eq_true hb
      subst heq
      dsimp only at h
      cases hc : (Nat.ble a pc && Nat.blt pc b) with
      | false => rw [hc] at h; exact h.elim
      | true =>
        rw [hc] at h
        simp only [Bool.and_eq_true] at hc
        obtain ⟨-, h2, h3⟩ := hT
        obtain ⟨k1, k2, k3, k4, k5, k6⟩ := h3 (a, b, hp, ct, e9, n, ln) (by rw [hM]; simp)
        refine WX.catch (pre := pre.map (fun h => (h.1, h.2.1, h.2.2.1, h.2.2.2.1))) (suf := t.map (fun h => (h.1, h.2.1, h.2.2.1, h.2.2.2.1))) (a := a) (b := b) (hp := hp) (ct := ct) (n := n) (ln := ln) (by rw [h2, hM]; simp) (fun z hz => ?_) h5 ⟨Nat.le_of_ble_eq_true hc.1, Nat.le_of_ble_eq_true hc.2⟩ k1 k3 k4 k5 k6 h
        obtain ⟨w, hw, rfl⟩ := List.mem_map.mp hz
        obtain ⟨j1, j2, j3, -⟩ := h3 w (by rw [hM]; simp [hw])
        exact ⟨j1, w.2.2.2.2.1, j2, hpre w hw, j3⟩
theorem rtM_ok {g : Gl} {mi : MI} {M : MT} {R : Room} {Φ : Out → Mem → Prop} (hT : ThrOK mi M) : RetOK g mi M R (QM g mi Φ) (rtM mi Φ) := by
  have key : ∀ {o : Out} {nc ns : Nat} {μ : Mem}, rtM mi Φ o nc ns μ → nc ≤ miK mi ∧ ns ≤ miS mi ∧ Φ o μ := by
    intro o nc ns μ h
    unfold rtM at h
    cases hb : (Nat.ble nc (miK mi) && Nat.ble ns (miS mi)) with
    | false => rw [hb] at h; exact h.elim
    | true =>
      rw [hb] at h
      simp only [Bool.and_eq_true] at hb
      exact ⟨Nat.le_of_ble_eq_true hb.1, Nat.le_of_ble_eq_true hb.2, h⟩
  refine ⟨fun hd hT hn h => ?_, fun hd hT h => ?_, fun hd hT h => ?_, fun hd hq hb h => ?_, fun hM h5 h => ?_, fun h5 h => hdl_ok hT h5 [] _ rfl (fun z hz => by cases hz) h⟩
  · obtain ⟨h1, h2, h3⟩ := key h; exact am_ret hT hn h1 h2 hd h3
  · obtain ⟨h1, h2, h3⟩ := key h; exact am_lret hT h1 h2 hd h3
  · obtain ⟨h1, h2, h3⟩ := key h; exact am_vret hT h1 h2 hd h3
  · obtain ⟨h1, h2, h3⟩ := key h
    obtain ⟨k1, k2, k3, k4, k5⟩ := hT.1 _ hq
    simp only [Bool.and_eq_true] at hb
    obtain ⟨⟨⟨⟨⟨b1, b2⟩, b3⟩, b4⟩, b5⟩, b6⟩ := hb
    rw [Nat.eq_of_beq_eq_true b1] at k2
    exact am_throw k1 k2 k3 (Nat.le_of_ble_eq_true b2) (Nat.le_of_ble_eq_true b3) (Nat.le_of_ble_eq_true b4) (Nat.le_of_ble_eq_true b5) hd k4 k5 h1 h2 h3
  · obtain ⟨h1, h2, h3⟩ := key h
    refine WX.out ?_ h5 h1 h2 h3
    rw [hT.2.1, hM]; rfl
end
section
/-! methods, by program (wip/whole/gen_meth.py) -/
def i_SO_feed : MI := (⟨"SaidOnce", "feed", "(IIIII)I"⟩, prog_1_method_2_code, 6, (some .int), [], 3, 0, 0)
theorem o_SO_feed : MOK i_SO_feed 5 := miB_ok (pl := 12198) (by decide +kernel)
def i_Tape_put : MI := (⟨"SaidOnce$Tape", "put", "(I)V"⟩, prog_12_method_2_code, 3, none, [], 2, 0, 0)
theorem o_Tape_put : MOK i_Tape_put 1 := miB_ok (pl := 12202) (by decide +kernel)
def i_SO_end : MI := (⟨"SaidOnce", "end", "(I)Z"⟩, prog_1_method_3_code, 2, (some .boolean), [], 2, 0, 0)
theorem o_SO_end : MOK i_SO_end 1 := miB_ok (pl := 12206) (by decide +kernel)
def i_SO_fault : MI := (⟨"SaidOnce", "fault", "()I"⟩, prog_1_method_6_code, 1, (some .int), [], 2, 0, 0)
theorem o_SO_fault : MOK i_SO_fault 0 := miB_ok (pl := 12210) (by decide +kernel)
def i_SO_store : MI := (⟨"SaidOnce", "store", "()J"⟩, prog_1_method_10_code, 1, (some .long), [], 2, 0, 0)
theorem o_SO_store : MOK i_SO_store 0 := miB_ok (pl := 12214) (by decide +kernel)
def i_SO_day : MI := (⟨"SaidOnce", "day", "()I"⟩, prog_1_method_18_code, 2, (some .int), [], 4, 0, 0)
theorem o_SO_day : MOK i_SO_day 0 := miB_ok (pl := 12218) (by decide +kernel)
def i_SO_remember : MI := (⟨"SaidOnce", "remember", "()V"⟩, prog_1_method_56_code, 3, none, [], 3, 0, 0)
theorem o_SO_remember : MOK i_SO_remember 0 := miB_ok (pl := 12222) (by decide +kernel)
def i_Sta_copyFrom : MI := (⟨"SaidOnce$State", "copyFrom", "(LSaidOnce$State;)V"⟩, prog_11_method_2_code, 2, none, [], 2, 0, 0)
theorem o_Sta_copyFrom : MOK i_Sta_copyFrom 1 := miB_ok (pl := 12226) (by decide +kernel)
def i_Int_bitCount : MI := (⟨"java/lang/Integer", "bitCount", "(I)I"⟩, prog_22_method_49_code, 1, (some .int), [], 2, 0, 0)
theorem o_Int_bitCount : MOK i_Int_bitCount 1 := miB_ok (pl := 12232) (by decide +kernel)
def i_SO_sayable : MI := (⟨"SaidOnce", "sayable", "()I"⟩, prog_1_method_20_code, 1, (some .int), [], 5, 0, 0)
theorem o_SO_sayable : MOK i_SO_sayable 0 := miB_ok (pl := 12239) (by decide +kernel)
def i_Sch_present : MI := (⟨"SaidOnce$School", "present", "()I"⟩, prog_7_method_4_code, 1, (some .int), [], 2, 0, 0)
theorem o_Sch_present : MOK i_Sch_present 0 := miB_ok (pl := 13003) (by decide +kernel)
def i_Sch_knownBy : MI := (⟨"SaidOnce$School", "knownBy", "(I)I"⟩, prog_7_method_13_code, 4, (some .int), [], 2, 0, 0)
theorem o_Sch_knownBy : MOK i_Sch_knownBy 1 := miB_ok (pl := 13007) (by decide +kernel)
def i_Sch_leftThings : MI := (⟨"SaidOnce$School", "leftThings", "()I"⟩, prog_7_method_10_code, 3, (some .int), [], 4, 0, 0)
theorem o_Sch_leftThings : MOK i_Sch_leftThings 0 := miB_ok (pl := 13011) (by decide +kernel)
def i_Sch_leftWordings : MI := (⟨"SaidOnce$School", "leftWordings", "(I)I"⟩, prog_7_method_6_code, 2, (some .int), [], 3, 0, 0)
theorem o_Sch_leftWordings : MOK i_Sch_leftWordings 1 := miB_ok (pl := 13015) (by decide +kernel)
def i_Sch_saidWordings : MI := (⟨"SaidOnce$School", "saidWordings", "(I)I"⟩, prog_7_method_5_code, 2, (some .int), [], 2, 0, 0)
theorem o_Sch_saidWordings : MOK i_Sch_saidWordings 1 := miB_ok (pl := 13019) (by decide +kernel)
def i_SO_dumb : MI := (⟨"SaidOnce", "dumb", "()I"⟩, prog_1_method_21_code, 3, (some .int), [], 5, 0, 0)
theorem o_SO_dumb : MOK i_SO_dumb 0 := miB_ok (pl := 13023) (by decide +kernel)
def i_Sta_isAbsent : MI := (⟨"SaidOnce$State", "isAbsent", "(I)Z"⟩, prog_11_method_3_code, 2, (some .boolean), [], 2, 0, 0)
theorem o_Sta_isAbsent : MOK i_Sta_isAbsent 1 := miB_ok (pl := 13027) (by decide +kernel)
def i_SO_silent : MI := (⟨"SaidOnce", "silent", "()I"⟩, prog_1_method_22_code, 1, (some .int), [], 5, 0, 0)
theorem o_SO_silent : MOK i_SO_silent 0 := miB_ok (pl := 13031) (by decide +kernel)
def i_Sch_allThings : MI := (⟨"SaidOnce$School", "allThings", "()I"⟩, prog_7_method_3_code, 1, (some .int), [], 2, 0, 0)
theorem o_Sch_allThings : MOK i_Sch_allThings 0 := miB_ok (pl := 13035) (by decide +kernel)
def i_SO_exam : MI := (⟨"SaidOnce", "exam", "()I"⟩, prog_1_method_27_code, 3, (some .int), [], 4, 0, 0)
theorem o_SO_exam : MOK i_SO_exam 0 := miB_ok (pl := 13039) (by decide +kernel)
def i_Set_following : MI := (⟨"SaidOnce$Setup", "following", "(I)I"⟩, prog_10_method_3_code, 7, (some .int), [], 2, 0, 0)
theorem o_Set_following : MOK i_Set_following 1 := miB_ok (pl := 13043) (by decide +kernel)
def i_Sch_saidThings : MI := (⟨"SaidOnce$School", "saidThings", "()I"⟩, prog_7_method_11_code, 3, (some .int), [], 3, 0, 0)
theorem o_Sch_saidThings : MOK i_Sch_saidThings 0 := miB_ok (pl := 13047) (by decide +kernel)
def i_SO_last : MI := (⟨"SaidOnce", "last", "()I"⟩, prog_1_method_28_code, 1, (some .int), [], 8, 0, 0)
theorem o_SO_last : MOK i_SO_last 0 := miB_ok (pl := 13051) (by decide +kernel)
def i_Sch_countLast : MI := (⟨"SaidOnce$School", "countLast", "()I"⟩, prog_7_method_22_code, 4, (some .int), [], 7, 0, 0)
theorem o_Sch_countLast : MOK i_Sch_countLast 0 := miB_ok (pl := 13055) (by decide +kernel)
def i_Sch_tellAll : MI := (⟨"SaidOnce$School", "tellAll", "(I)Z"⟩, prog_7_method_23_code, 5, (some .boolean), [], 6, 0, 0)
theorem o_Sch_tellAll : MOK i_Sch_tellAll 1 := miB_ok (pl := 13061) (by decide +kernel)
def i_Sch_isLeft : MI := (⟨"SaidOnce$School", "isLeft", "(II)Z"⟩, prog_7_method_7_code, 3, (some .boolean), [], 4, 0, 0)
theorem o_Sch_isLeft : MOK i_Sch_isLeft 2 := miB_ok (pl := 13065) (by decide +kernel)
def i_Sch_tellOne : MI := (⟨"SaidOnce$School", "tellOne", "(III)Z"⟩, prog_7_method_24_code, 7, (some .boolean), [], 5, 0, 0)
theorem o_Sch_tellOne : MOK i_Sch_tellOne 3 := miB_ok (pl := 13069) (by decide +kernel)
def i_Sch_taken : MI := (⟨"SaidOnce$School", "taken", "(IIIIZ)I"⟩, prog_7_method_15_code, 8, (some .int), [], 4, 0, 0)
theorem o_Sch_taken : MOK i_Sch_taken 5 := miB_ok (pl := 13073) (by decide +kernel)
def i_Sta_distance : MI := (⟨"SaidOnce$State", "distance", "(II)I"⟩, prog_11_method_5_code, 3, (some .int), [], 2, 0, 0)
theorem o_Sta_distance : MOK i_Sta_distance 2 := miB_ok (pl := 13077) (by decide +kernel)
def i_Law_tell : MI := (⟨"SaidOnce$Law", "tell", "(IIII)V"⟩, prog_2_method_6_code, 5, none, [], 2, 0, 0)
theorem o_Law_tell : MOK i_Law_tell 4 := miB_ok (pl := 13087) (by decide +kernel)
def i_Law_judge : MI := (⟨"SaidOnce$Law", "judge", "(IIIZ)V"⟩, prog_2_method_7_code, 6, none, [], 3, 0, 0)
theorem o_Law_judge : MOK i_Law_judge 4 := miB_ok (pl := 13091) (by decide +kernel)
def i_Law_holds : MI := (⟨"SaidOnce$Law", "holds", "(I)Z"⟩, prog_2_method_8_code, 7, (some .boolean), [], 2, 0, 0)
theorem o_Law_holds : MOK i_Law_holds 1 := miB_ok (pl := 13095) (by decide +kernel)
def i_Sch_countLeftOf : MI := (⟨"SaidOnce$School", "countLeftOf", "(I)I"⟩, prog_7_method_9_code, 4, (some .int), [], 5, 0, 0)
theorem o_Sch_countLeftOf : MOK i_Sch_countLeftOf 1 := miB_ok (pl := 13099) (by decide +kernel)
def i_Sch_countLeft : MI := (⟨"SaidOnce$School", "countLeft", "(I)I"⟩, prog_7_method_8_code, 2, (some .int), [], 4, 0, 0)
theorem o_Sch_countLeft : MOK i_Sch_countLeft 1 := miB_ok (pl := 13103) (by decide +kernel)
def i_SO_groups : MI := (⟨"SaidOnce", "groups", "(Z)I"⟩, prog_1_method_31_code, 8, (some .int), [], 2, 0, 0)
theorem o_SO_groups : MOK i_SO_groups 1 := miB_ok (pl := 13108) (by decide +kernel)
def i_SO_teacher : MI := (⟨"SaidOnce", "teacher", "()I"⟩, prog_1_method_38_code, 5, (some .int), [], 4, 0, 0)
theorem o_SO_teacher : MOK i_SO_teacher 0 := miB_ok (pl := 13113) (by decide +kernel)
def i_Log_taughtBy : MI := (⟨"SaidOnce$Log", "taughtBy", "(II)I"⟩, prog_5_method_5_code, 5, (some .int), [], 3, 0, 0)
theorem o_Log_taughtBy : MOK i_Log_taughtBy 2 := miB_ok (pl := 13117) (by decide +kernel)
def i_SO_seed : MI := (⟨"SaidOnce", "seed", "(I)I"⟩, prog_1_method_46_code, 3, (some .int), [], 2, 0, 0)
theorem o_SO_seed : MOK i_SO_seed 1 := miB_ok (pl := 13122) (by decide +kernel)
def i_SO_undo : MI := (⟨"SaidOnce", "undo", "()Z"⟩, prog_1_method_47_code, 1, (some .boolean), [], 3, 0, 0)
theorem o_SO_undo : MOK i_SO_undo 0 := miB_ok (pl := 13126) (by decide +kernel)
def i_SO_image : MI := (⟨"SaidOnce", "image", "()V"⟩, prog_1_method_48_code, 1, none, [], 4, 0, 0)
theorem o_SO_image : MOK i_SO_image 0 := miB_ok (pl := 13130) (by decide +kernel)
def i_Sch_copyFrom : MI := (⟨"SaidOnce$School", "copyFrom", "(LSaidOnce$School;)V"⟩, prog_7_method_2_code, 2, none, [], 3, 0, 0)
theorem o_Sch_copyFrom : MOK i_Sch_copyFrom 1 := miB_ok (pl := 13134) (by decide +kernel)
def i_Set_copyFrom : MI := (⟨"SaidOnce$Setup", "copyFrom", "(LSaidOnce$Setup;)V"⟩, prog_10_method_2_code, 2, none, [], 2, 0, 0)
theorem o_Set_copyFrom : MOK i_Set_copyFrom 1 := miB_ok (pl := 13138) (by decide +kernel)
def i_Law_copyFrom : MI := (⟨"SaidOnce$Law", "copyFrom", "(LSaidOnce$Law;)V"⟩, prog_2_method_5_code, 2, none, [], 2, 0, 0)
theorem o_Law_copyFrom : MOK i_Law_copyFrom 1 := miB_ok (pl := 13144) (by decide +kernel)
def i_Log_copyFrom : MI := (⟨"SaidOnce$Log", "copyFrom", "(LSaidOnce$Log;)V"⟩, prog_5_method_2_code, 2, none, [], 2, 0, 0)
theorem o_Log_copyFrom : MOK i_Log_copyFrom 1 := miB_ok (pl := 13149) (by decide +kernel)
def i_SO_back : MI := (⟨"SaidOnce", "back", "()Z"⟩, prog_1_method_49_code, 1, (some .boolean), [], 4, 0, 0)
theorem o_SO_back : MOK i_SO_back 0 := miB_ok (pl := 13154) (by decide +kernel)
def i_SO_count : MI := (⟨"SaidOnce", "count", "(I)I"⟩, prog_1_method_50_code, 2, (some .int), [], 6, 0, 0)
theorem o_SO_count : MOK i_SO_count 1 := miB_ok (pl := 13158) (by decide +kernel)
def i_Lng_bitCount : MI := (⟨"java/lang/Long", "bitCount", "(J)I"⟩, prog_23_method_50_code, 2, (some .int), [], 2, 0, 0)
theorem o_Lng_bitCount : MOK i_Lng_bitCount 1 := miB_ok (pl := 13161) (by decide +kernel)
def i_L_school : MI := (⟨"SaidOnceLaw", "school", "(LSaidOnce;[J)I"⟩, method_3_code, 3, (some .int), [(0, 8, 11, 13), (0, 8, 14, 15)], 13, 1, 6)
theorem o_L_school : MOK i_L_school 2 := miB_ok (pl := 13168) (by decide +kernel)
def i_SO_school : MI := (⟨"SaidOnce", "school", "()I"⟩, prog_1_method_4_code, 2, (some .int), [], 12, 1, 6)
theorem o_SO_school : MOK i_SO_school 0 := miB_ok (pl := 13174) (by decide +kernel)
def i_SchR_begin : MI := (⟨"SaidOnce$SchoolReader", "begin", "(LSaidOnce$School;)V"⟩, prog_8_method_2_code, 2, none, [], 3, 0, 0)
theorem o_SchR_begin : MOK i_SchR_begin 1 := miB_ok (pl := 13178) (by decide +kernel)
def i_LineR_readLines : MI := (⟨"SaidOnce$LineReader", "readLines", "(I)I"⟩, prog_4_method_3_code, 3, (some .int), [], 11, 0, 0)
theorem o_LineR_readLines : MOK i_LineR_readLines 1 := miB_ok (pl := 13186) (by decide +kernel)
def i_Tape_open : MI := (⟨"SaidOnce$Tape", "open", "()V"⟩, prog_12_method_5_code, 1, none, [], 4, 0, 0)
theorem o_Tape_open : MOK i_Tape_open 0 := miB_ok (pl := 13190) (by decide +kernel)
def i_Tape_next : MI := (⟨"SaidOnce$Tape", "next", "()V"⟩, prog_12_method_6_code, 2, none, [], 3, 0, 0)
theorem o_Tape_next : MOK i_Tape_next 0 := miB_ok (pl := 13194) (by decide +kernel)
def i_Tape_isWithin : MI := (⟨"SaidOnce$Tape", "isWithin", "(ICC)Z"⟩, prog_12_method_7_code, 4, (some .boolean), [], 2, 0, 0)
theorem o_Tape_isWithin : MOK i_Tape_isWithin 3 := miB_ok (pl := 13198) (by decide +kernel)
def i_Tape_atEnd : MI := (⟨"SaidOnce$Tape", "atEnd", "()Z"⟩, prog_12_method_8_code, 1, (some .boolean), [], 2, 0, 0)
theorem o_Tape_atEnd : MOK i_Tape_atEnd 0 := miB_ok (pl := 13202) (by decide +kernel)
def i_LawR_readLine : MI := (⟨"SaidOnce$LawReader", "readLine", "()Z"⟩, prog_3_method_3_code, 3, (some .boolean), [], 10, 0, 0)
theorem o_LawR_readLine : MOK i_LawR_readLine 0 := miB_ok (pl := 13208) (by decide +kernel)
def i_Tape_atWord : MI := (⟨"SaidOnce$Tape", "atWord", "(Ljava/lang/String;)Z"⟩, prog_12_method_11_code, 3, (some .boolean), [], 6, 0, 0)
theorem o_Tape_atWord : MOK i_Tape_atWord 1 := miB_ok (pl := 13213) (by decide +kernel)
def i_Str_length : MI := (⟨"java/lang/String", "length", "()I"⟩, prog_26_method_54_code, 1, (some .int), [], 3, 0, 0)
theorem o_Str_length : MOK i_Str_length 0 := miB_ok (pl := 13217) (by decide +kernel)
def i_Str_coder : MI := (⟨"java/lang/String", "coder", "()B"⟩, prog_26_method_152_code, 1, (some .byte), [], 2, 0, 0)
theorem o_Str_coder : MOK i_Str_coder 0 := miB_ok (pl := 13221) (by decide +kernel)
def i_Str_charAt : MI := (⟨"java/lang/String", "charAt", "(I)C"⟩, prog_26_method_56_code, 2, (some .char), [], 5, 0, 0)
theorem o_Str_charAt : MOK i_Str_charAt 1 := miB_ok (pl := 13227) (by decide +kernel)
def i_Str_isLatin1 : MI := (⟨"java/lang/String", "isLatin1", "()Z"⟩, prog_26_method_154_code, 1, (some .boolean), [], 2, 0, 0)
theorem o_Str_isLatin1 : MOK i_Str_isLatin1 0 := miB_ok (pl := 13231) (by decide +kernel)
def i_StrL_charAt : MI := (⟨"java/lang/StringLatin1", "charAt", "([BI)C"⟩, prog_27_method_2_code, 2, (some .char), [], 4, 0, 0)
theorem o_StrL_charAt : MOK i_StrL_charAt 2 := miB_ok (pl := 13234) (by decide +kernel)
def i_Str_checkIndex : MI := (⟨"java/lang/String", "checkIndex", "(II)V"⟩, prog_26_method_155_code, 2, none, [], 3, 0, 0)
theorem o_Str_checkIndex : MOK i_Str_checkIndex 2 := miB_ok (pl := 13237) (by decide +kernel)
def i_Pre_checkIndex : MI := (⟨"jdk/internal/util/Preconditions", "checkIndex", "(IILjava/util/function/BiFunction;)I"⟩, prog_36_method_11_code, 3, (some .int), [], 2, 0, 0)
theorem o_Pre_checkIndex : MOK i_Pre_checkIndex 3 := miB_ok (pl := 14002) (by decide +kernel)
def i_Tape_takeNumber : MI := (⟨"SaidOnce$Tape", "takeNumber", "(II)I"⟩, prog_12_method_12_code, 4, (some .int), [], 4, 0, 0)
theorem o_Tape_takeNumber : MOK i_Tape_takeNumber 2 := miB_ok (pl := 14028) (by decide +kernel)
def i_Tape_atNumber : MI := (⟨"SaidOnce$Tape", "atNumber", "(II)Z"⟩, prog_12_method_9_code, 3, (some .boolean), [], 2, 0, 0)
theorem o_Tape_atNumber : MOK i_Tape_atNumber 2 := miB_ok (pl := 14032) (by decide +kernel)
def i_Tape_takeWord : MI := (⟨"SaidOnce$Tape", "takeWord", "(Ljava/lang/String;)Z"⟩, prog_12_method_14_code, 2, (some .boolean), [], 7, 0, 0)
theorem o_Tape_takeWord : MOK i_Tape_takeWord 1 := miB_ok (pl := 14037) (by decide +kernel)
def i_LawR_readCondition : MI := (⟨"SaidOnce$LawReader", "readCondition", "()Z"⟩, prog_3_method_4_code, 3, (some .boolean), [], 9, 0, 0)
theorem o_LawR_readCondition : MOK i_LawR_readCondition 0 := miB_ok (pl := 14042) (by decide +kernel)
def i_LawR_readOpenings : MI := (⟨"SaidOnce$LawReader", "readOpenings", "()Z"⟩, prog_3_method_5_code, 3, (some .boolean), [], 7, 0, 0)
theorem o_LawR_readOpenings : MOK i_LawR_readOpenings 0 := miB_ok (pl := 14046) (by decide +kernel)
def i_Tape_atSign : MI := (⟨"SaidOnce$Tape", "atSign", "(C)Z"⟩, prog_12_method_10_code, 2, (some .boolean), [], 2, 0, 0)
theorem o_Tape_atSign : MOK i_Tape_atSign 1 := miB_ok (pl := 14050) (by decide +kernel)
def i_LawR_await : MI := (⟨"SaidOnce$LawReader", "await", "(I)V"⟩, prog_3_method_9_code, 2, none, [], 2, 0, 0)
theorem o_LawR_await : MOK i_LawR_await 1 := miB_ok (pl := 14055) (by decide +kernel)
def i_LawR_readFact : MI := (⟨"SaidOnce$LawReader", "readFact", "()Z"⟩, prog_3_method_7_code, 5, (some .boolean), [], 8, 0, 0)
theorem o_LawR_readFact : MOK i_LawR_readFact 0 := miB_ok (pl := 14059) (by decide +kernel)
def i_Law_addCode : MI := (⟨"SaidOnce$Law", "addCode", "(I)V"⟩, prog_2_method_4_code, 2, none, [], 2, 0, 0)
theorem o_Law_addCode : MOK i_Law_addCode 1 := miB_ok (pl := 14064) (by decide +kernel)
def i_LawR_partHere : MI := (⟨"SaidOnce$LawReader", "partHere", "()I"⟩, prog_3_method_8_code, 1, (some .int), [], 7, 0, 0)
theorem o_LawR_partHere : MOK i_LawR_partHere 0 := miB_ok (pl := 14068) (by decide +kernel)
def i_LawR_readClosings : MI := (⟨"SaidOnce$LawReader", "readClosings", "()V"⟩, prog_3_method_6_code, 2, none, [], 5, 0, 0)
theorem o_LawR_readClosings : MOK i_LawR_readClosings 0 := miB_ok (pl := 14080) (by decide +kernel)
def i_LawR_settle : MI := (⟨"SaidOnce$LawReader", "settle", "(I)V"⟩, prog_3_method_10_code, 3, none, [], 3, 0, 0)
theorem o_LawR_settle : MOK i_LawR_settle 1 := miB_ok (pl := 14084) (by decide +kernel)
def i_Tape_takeSign : MI := (⟨"SaidOnce$Tape", "takeSign", "(C)Z"⟩, prog_12_method_13_code, 2, (some .boolean), [], 4, 0, 0)
theorem o_Tape_takeSign : MOK i_Tape_takeSign 1 := miB_ok (pl := 14088) (by decide +kernel)
def i_Law_addLine : MI := (⟨"SaidOnce$Law", "addLine", "(II)V"⟩, prog_2_method_3_code, 3, none, [], 2, 0, 0)
theorem o_Law_addLine : MOK i_Law_addLine 2 := miB_ok (pl := 14095) (by decide +kernel)
def i_SchR_readLine : MI := (⟨"SaidOnce$SchoolReader", "readLine", "()Z"⟩, prog_8_method_4_code, 1, (some .boolean), [], 9, 0, 0)
theorem o_SchR_readLine : MOK i_SchR_readLine 0 := miB_ok (pl := 14098) (by decide +kernel)
def i_SchR_readThing : MI := (⟨"SaidOnce$SchoolReader", "readThing", "()Z"⟩, prog_8_method_5_code, 2, (some .boolean), [], 5, 0, 0)
theorem o_SchR_readThing : MOK i_SchR_readThing 0 := miB_ok (pl := 14104) (by decide +kernel)
def i_SchR_readPerson : MI := (⟨"SaidOnce$SchoolReader", "readPerson", "()Z"⟩, prog_8_method_6_code, 7, (some .boolean), [], 8, 0, 0)
theorem o_SchR_readPerson : MOK i_SchR_readPerson 0 := miB_ok (pl := 14111) (by decide +kernel)
def i_Sta_seatedAt : MI := (⟨"SaidOnce$State", "seatedAt", "(III)I"⟩, prog_11_method_8_code, 5, (some .int), [], 2, 0, 0)
theorem o_Sta_seatedAt : MOK i_Sta_seatedAt 3 := miB_ok (pl := 14116) (by decide +kernel)
def i_SchR_readThings : MI := (⟨"SaidOnce$SchoolReader", "readThings", "()I"⟩, prog_8_method_7_code, 4, (some .int), [], 5, 0, 0)
theorem o_SchR_readThings : MOK i_SchR_readThings 0 := miB_ok (pl := 14124) (by decide +kernel)
def i_Sta_seat : MI := (⟨"SaidOnce$State", "seat", "(III)V"⟩, prog_11_method_6_code, 4, none, [], 2, 0, 0)
theorem o_Sta_seat : MOK i_Sta_seat 3 := miB_ok (pl := 14128) (by decide +kernel)
def i_SchR_readRule : MI := (⟨"SaidOnce$SchoolReader", "readRule", "()Z"⟩, prog_8_method_8_code, 4, (some .boolean), [], 5, 0, 0)
theorem o_SchR_readRule : MOK i_SchR_readRule 0 := miB_ok (pl := 14133) (by decide +kernel)
def i_SchR_readSaid : MI := (⟨"SaidOnce$SchoolReader", "readSaid", "()Z"⟩, prog_8_method_9_code, 3, (some .boolean), [], 5, 0, 0)
theorem o_SchR_readSaid : MOK i_SchR_readSaid 0 := miB_ok (pl := 14138) (by decide +kernel)
def i_SO_numberOf : MI := (⟨"SaidOnce", "numberOf", "(II)I"⟩, prog_1_method_60_code, 2, (some .int), [], 2, 0, 0)
theorem o_SO_numberOf : MOK i_SO_numberOf 2 := miB_ok (pl := 14141) (by decide +kernel)
def i_SchR_readAbsent : MI := (⟨"SaidOnce$SchoolReader", "readAbsent", "()Z"⟩, prog_8_method_10_code, 2, (some .boolean), [], 5, 0, 0)
theorem o_SchR_readAbsent : MOK i_SchR_readAbsent 0 := miB_ok (pl := 14146) (by decide +kernel)
def i_SchR_readLoud : MI := (⟨"SaidOnce$SchoolReader", "readLoud", "()Z"⟩, prog_8_method_11_code, 2, (some .boolean), [], 5, 0, 0)
theorem o_SchR_readLoud : MOK i_SchR_readLoud 0 := miB_ok (pl := 14151) (by decide +kernel)
def i_Tape_useUp : MI := (⟨"SaidOnce$Tape", "useUp", "()I"⟩, prog_12_method_3_code, 2, (some .int), [], 2, 0, 0)
theorem o_Tape_useUp : MOK i_Tape_useUp 0 := miB_ok (pl := 14156) (by decide +kernel)
def i_SchR_deliver : MI := (⟨"SaidOnce$SchoolReader", "deliver", "(LSaidOnce$School;)V"⟩, prog_8_method_3_code, 2, none, [], 3, 0, 0)
theorem o_SchR_deliver : MOK i_SchR_deliver 1 := miB_ok (pl := 15005) (by decide +kernel)
def i_L_law : MI := (⟨"SaidOnceLaw", "law", "(LSaidOnce;[J)I"⟩, method_4_code, 3, (some .int), [(0, 8, 11, 13)], 13, 1, 6)
theorem o_L_law : MOK i_L_law 2 := miB_ok (pl := 15008) (by decide +kernel)
def i_SO_law : MI := (⟨"SaidOnce", "law", "()I"⟩, prog_1_method_5_code, 2, (some .int), [], 12, 1, 6)
theorem o_SO_law : MOK i_SO_law 0 := miB_ok (pl := 15012) (by decide +kernel)
def i_LawR_begin : MI := (⟨"SaidOnce$LawReader", "begin", "()V"⟩, prog_3_method_2_code, 1, none, [], 3, 0, 0)
theorem o_LawR_begin : MOK i_LawR_begin 0 := miB_ok (pl := 15016) (by decide +kernel)
def i_Law_clear : MI := (⟨"SaidOnce$Law", "clear", "()V"⟩, prog_2_method_2_code, 1, none, [], 2, 0, 0)
theorem o_Law_clear : MOK i_Law_clear 0 := miB_ok (pl := 15020) (by decide +kernel)
def i_L_thing : MI := (⟨"SaidOnceLaw", "thing", "(LSaidOnce;II[J)I"⟩, method_5_code, 5, (some .int), [(0, 10, 13, 24), (0, 10, 17, 26)], 10, 2, 12)
theorem o_L_thing : MOK i_L_thing 4 := miB_ok (pl := 15028) (by decide +kernel)
def i_SO_thing : MI := (⟨"SaidOnce", "thing", "(II)I"⟩, prog_1_method_7_code, 3, (some .int), [], 9, 2, 12)
theorem o_SO_thing : MOK i_SO_thing 2 := miB_ok (pl := 15034) (by decide +kernel)
def i_SO_needThing : MI := (⟨"SaidOnce", "needThing", "(I)V"⟩, prog_1_method_51_code, 2, none, [], 8, 1, 6)
theorem o_SO_needThing : MOK i_SO_needThing 1 := miB_ok (pl := 15038) (by decide +kernel)
def i_Sch_knowers : MI := (⟨"SaidOnce$School", "knowers", "(I)I"⟩, prog_7_method_12_code, 4, (some .int), [], 3, 0, 0)
theorem o_Sch_knowers : MOK i_Sch_knowers 1 := miB_ok (pl := 15059) (by decide +kernel)
def i_Sta_isKnown : MI := (⟨"SaidOnce$State", "isKnown", "(II)Z"⟩, prog_11_method_4_code, 3, (some .boolean), [], 2, 0, 0)
theorem o_Sta_isKnown : MOK i_Sta_isKnown 2 := miB_ok (pl := 15063) (by decide +kernel)
def i_Se_sources : MI := (⟨"SaidOnce$Search", "sources", "(I)I"⟩, prog_9_method_2_code, 5, (some .int), [], 4, 0, 0)
theorem o_Se_sources : MOK i_Se_sources 1 := miB_ok (pl := 15067) (by decide +kernel)
def i_Se_isFewer : MI := (⟨"SaidOnce$Search", "isFewer", "(II)Z"⟩, prog_9_method_5_code, 2, (some .boolean), [], 3, 0, 0)
theorem o_Se_isFewer : MOK i_Se_isFewer 2 := miB_ok (pl := 15071) (by decide +kernel)
def i_L_person : MI := (⟨"SaidOnceLaw", "person", "(LSaidOnce;II[J)I"⟩, method_6_code, 5, (some .int), [(0, 10, 13, 24), (0, 10, 17, 26)], 10, 2, 12)
theorem o_L_person : MOK i_L_person 4 := miB_ok (pl := 15092) (by decide +kernel)
def i_SO_person : MI := (⟨"SaidOnce", "person", "(II)I"⟩, prog_1_method_8_code, 3, (some .int), [], 9, 2, 12)
theorem o_SO_person : MOK i_SO_person 2 := miB_ok (pl := 15096) (by decide +kernel)
def i_SO_needPerson : MI := (⟨"SaidOnce", "needPerson", "(I)V"⟩, prog_1_method_53_code, 2, none, [], 8, 1, 6)
theorem o_SO_needPerson : MOK i_SO_needPerson 1 := miB_ok (pl := 15100) (by decide +kernel)
def i_L_rule : MI := (⟨"SaidOnceLaw", "rule", "(LSaidOnce;II[J)I"⟩, method_7_code, 5, (some .int), [(0, 10, 13, 26)], 9, 1, 6)
theorem o_L_rule : MOK i_L_rule 4 := miB_ok (pl := 15105) (by decide +kernel)
def i_SO_rule : MI := (⟨"SaidOnce", "rule", "(II)I"⟩, prog_1_method_9_code, 3, (some .int), [], 8, 1, 6)
theorem o_SO_rule : MOK i_SO_rule 2 := miB_ok (pl := 15109) (by decide +kernel)
def i_L_apart : MI := (⟨"SaidOnceLaw", "apart", "(LSaidOnce;II[J)I"⟩, method_8_code, 5, (some .int), [(0, 10, 13, 24), (0, 10, 17, 13)], 11, 3, 18)
theorem o_L_apart : MOK i_L_apart 4 := miB_ok (pl := 15113) (by decide +kernel)
def i_SO_apart : MI := (⟨"SaidOnce", "apart", "(II)I"⟩, prog_1_method_11_code, 3, (some .int), [], 10, 3, 18)
theorem o_SO_apart : MOK i_SO_apart 2 := miB_ok (pl := 15117) (by decide +kernel)
def i_SO_needTwo : MI := (⟨"SaidOnce", "needTwo", "(II)V"⟩, prog_1_method_54_code, 3, none, [], 9, 3, 18)
theorem o_SO_needTwo : MOK i_SO_needTwo 2 := miB_ok (pl := 15121) (by decide +kernel)
def i_L_hears : MI := (⟨"SaidOnceLaw", "hears", "(LSaidOnce;IIII[J)I"⟩, method_9_code, 7, (some .int), [(0, 14, 17, 24), (0, 14, 21, 13)], 11, 5, 30)
theorem o_L_hears : MOK i_L_hears 6 := miB_ok (pl := 15126) (by decide +kernel)
def i_SO_hears : MI := (⟨"SaidOnce", "hears", "(IIII)I"⟩, prog_1_method_12_code, 5, (some .int), [], 10, 5, 30)
theorem o_SO_hears : MOK i_SO_hears 4 := miB_ok (pl := 15130) (by decide +kernel)
def i_SO_needSaying : MI := (⟨"SaidOnce", "needSaying", "(II)V"⟩, prog_1_method_52_code, 3, none, [], 9, 2, 12)
theorem o_SO_needSaying : MOK i_SO_needSaying 2 := miB_ok (pl := 15134) (by decide +kernel)
def i_Sch_takenNow : MI := (⟨"SaidOnce$School", "takenNow", "(IIII)I"⟩, prog_7_method_16_code, 5, (some .int), [], 5, 0, 0)
theorem o_Sch_takenNow : MOK i_Sch_takenNow 4 := miB_ok (pl := 15139) (by decide +kernel)
def i_L_audience : MI := (⟨"SaidOnceLaw", "audience", "(LSaidOnce;IIIZ[J)I"⟩, method_10_code, 7, (some .int), [(0, 14, 17, 24)], 11, 3, 18)
theorem o_L_audience : MOK i_L_audience 6 := miB_ok (pl := 15142) (by decide +kernel)
def i_SO_audience : MI := (⟨"SaidOnce", "audience", "(IIIZ)I"⟩, prog_1_method_13_code, 5, (some .int), [], 10, 3, 18)
theorem o_SO_audience : MOK i_SO_audience 4 := miB_ok (pl := 15146) (by decide +kernel)
def i_Sch_takers : MI := (⟨"SaidOnce$School", "takers", "(IIII)I"⟩, prog_7_method_17_code, 7, (some .int), [], 5, 0, 0)
theorem o_Sch_takers : MOK i_Sch_takers 4 := miB_ok (pl := 15150) (by decide +kernel)
def i_Sch_hearers : MI := (⟨"SaidOnce$School", "hearers", "(III)I"⟩, prog_7_method_18_code, 4, (some .int), [], 6, 0, 0)
theorem o_Sch_hearers : MOK i_Sch_hearers 3 := miB_ok (pl := 15154) (by decide +kernel)
def i_L_say : MI := (⟨"SaidOnceLaw", "say", "(LSaidOnce;III[J)I"⟩, method_11_code, 6, (some .int), [(0, 12, 15, 24), (0, 12, 19, 49)], 11, 4, 24)
theorem o_L_say : MOK i_L_say 5 := miB_ok (pl := 15158) (by decide +kernel)
def i_SO_say : MI := (⟨"SaidOnce", "say", "(III)I"⟩, prog_1_method_14_code, 4, (some .int), [], 10, 4, 24)
theorem o_SO_say : MOK i_SO_say 3 := miB_ok (pl := 15163) (by decide +kernel)
def i_Sch_canTell : MI := (⟨"SaidOnce$School", "canTell", "(II)Z"⟩, prog_7_method_14_code, 3, (some .boolean), [], 3, 0, 0)
theorem o_Sch_canTell : MOK i_Sch_canTell 2 := miB_ok (pl := 15167) (by decide +kernel)
def i_Sch_speak : MI := (⟨"SaidOnce$School", "speak", "(III)I"⟩, prog_7_method_19_code, 10, (some .int), [], 5, 0, 0)
theorem o_Sch_speak : MOK i_Sch_speak 3 := miB_ok (pl := 15188) (by decide +kernel)
def i_Sta_draw : MI := (⟨"SaidOnce$State", "draw", "()I"⟩, prog_11_method_9_code, 1, (some .int), [], 2, 0, 0)
theorem o_Sta_draw : MOK i_Sta_draw 0 := miB_ok (pl := 15193) (by decide +kernel)
def i_L_think : MI := (⟨"SaidOnceLaw", "think", "(LSaidOnce;I[J)I"⟩, method_12_code, 4, (some .int), [(0, 9, 12, 24)], 10, 1, 6)
theorem o_L_think : MOK i_L_think 3 := miB_ok (pl := 15197) (by decide +kernel)
def i_SO_think : MI := (⟨"SaidOnce", "think", "(I)I"⟩, prog_1_method_15_code, 3, (some .int), [], 9, 1, 6)
theorem o_SO_think : MOK i_SO_think 1 := miB_ok (pl := 15201) (by decide +kernel)
def i_L_away : MI := (⟨"SaidOnceLaw", "away", "(LSaidOnce;IZ[J)I"⟩, method_13_code, 5, (some .int), [(0, 17, 20, 24)], 10, 1, 6)
theorem o_L_away : MOK i_L_away 4 := miB_ok (pl := 15204) (by decide +kernel)
def i_SO_away : MI := (⟨"SaidOnce", "away", "(IZ)Z"⟩, prog_1_method_16_code, 4, (some .boolean), [], 9, 1, 6)
theorem o_SO_away : MOK i_SO_away 2 := miB_ok (pl := 15208) (by decide +kernel)
def i_L_change : MI := (⟨"SaidOnceLaw", "change", "(LSaidOnce;II[J)I"⟩, method_14_code, 5, (some .int), [(0, 10, 13, 24), (0, 10, 17, 13)], 11, 3, 18)
theorem o_L_change : MOK i_L_change 4 := miB_ok (pl := 15211) (by decide +kernel)
def i_SO_change : MI := (⟨"SaidOnce", "change", "(II)I"⟩, prog_1_method_17_code, 3, (some .int), [], 10, 3, 18)
theorem o_SO_change : MOK i_SO_change 2 := miB_ok (pl := 15215) (by decide +kernel)
def i_Sta_swapSeats : MI := (⟨"SaidOnce$State", "swapSeats", "(II)V"⟩, prog_11_method_7_code, 5, none, [], 3, 0, 0)
theorem o_Sta_swapSeats : MOK i_Sta_swapSeats 2 := miB_ok (pl := 15219) (by decide +kernel)
def i_L_term : MI := (⟨"SaidOnceLaw", "term", "(LSaidOnce;I[J)I"⟩, method_15_code, 4, (some .int), [(0, 9, 12, 13)], 10, 1, 6)
theorem o_L_term : MOK i_L_term 3 := miB_ok (pl := 15223) (by decide +kernel)
def i_SO_term : MI := (⟨"SaidOnce", "term", "(I)I"⟩, prog_1_method_19_code, 2, (some .int), [], 9, 1, 6)
theorem o_SO_term : MOK i_SO_term 1 := miB_ok (pl := 15227) (by decide +kernel)
def i_SO_needTerm : MI := (⟨"SaidOnce", "needTerm", "(I)V"⟩, prog_1_method_55_code, 1, none, [], 8, 1, 6)
theorem o_SO_needTerm : MOK i_SO_needTerm 1 := miB_ok (pl := 15230) (by decide +kernel)
def i_Sch_runTerm : MI := (⟨"SaidOnce$School", "runTerm", "(I)I"⟩, prog_7_method_20_code, 7, (some .int), [], 6, 0, 0)
theorem o_Sch_runTerm : MOK i_Sch_runTerm 1 := miB_ok (pl := 15235) (by decide +kernel)
def i_Int_numberOfTrailingZeros : MI := (⟨"java/lang/Integer", "numberOfTrailingZeros", "(I)I"⟩, prog_22_method_48_code, 2, (some .int), [], 2, 0, 0)
theorem o_Int_numberOfTrailingZeros : MOK i_Int_numberOfTrailingZeros 1 := miB_ok (pl := 15239) (by decide +kernel)
def i_L_plan : MI := (⟨"SaidOnceLaw", "plan", "(LSaidOnce;IZ[J)I"⟩, method_16_code, 5, (some .int), [(0, 10, 13, 24)], 10, 1, 6)
theorem o_L_plan : MOK i_L_plan 4 := miB_ok (pl := 16004) (by decide +kernel)
def i_SO_plan : MI := (⟨"SaidOnce", "plan", "(IZ)I"⟩, prog_1_method_23_code, 3, (some .int), [], 9, 1, 6)
theorem o_SO_plan : MOK i_SO_plan 2 := miB_ok (pl := 16008) (by decide +kernel)
def i_Pl_firstSaying : MI := (⟨"SaidOnce$Planner", "firstSaying", "(I)I"⟩, prog_6_method_3_code, 7, (some .int), [], 8, 0, 0)
theorem o_Pl_firstSaying : MOK i_Pl_firstSaying 1 := miB_ok (pl := 16012) (by decide +kernel)
def i_Pl_fewestSayings : MI := (⟨"SaidOnce$Planner", "fewestSayings", "(I)I"⟩, prog_6_method_2_code, 6, (some .int), [], 7, 0, 0)
theorem o_Pl_fewestSayings : MOK i_Pl_fewestSayings 1 := miB_ok (pl := 16016) (by decide +kernel)
def i_Pl_prepare : MI := (⟨"SaidOnce$Planner", "prepare", "(I)V"⟩, prog_6_method_4_code, 4, none, [], 6, 0, 0)
theorem o_Pl_prepare : MOK i_Pl_prepare 1 := miB_ok (pl := 16020) (by decide +kernel)
def i_Arr_fill : MI := (⟨"java/util/Arrays", "fill", "([JJ)V"⟩, prog_34_method_101_code, 5, none, [], 2, 0, 0)
theorem o_Arr_fill : MOK i_Arr_fill 2 := miB_ok (pl := 16027) (by decide +kernel)
def i_Pl_mark : MI := (⟨"SaidOnce$Planner", "mark", "(II)V"⟩, prog_6_method_9_code, 3, none, [], 2, 0, 0)
theorem o_Pl_mark : MOK i_Pl_mark 2 := miB_ok (pl := 16031) (by decide +kernel)
def i_Pl_isBlank : MI := (⟨"SaidOnce$Planner", "isBlank", "(II)Z"⟩, prog_6_method_8_code, 3, (some .boolean), [], 2, 0, 0)
theorem o_Pl_isBlank : MOK i_Pl_isBlank 2 := miB_ok (pl := 16036) (by decide +kernel)
def i_Pl_isMarked : MI := (⟨"SaidOnce$Planner", "isMarked", "(II)Z"⟩, prog_6_method_7_code, 3, (some .boolean), [], 2, 0, 0)
theorem o_Pl_isMarked : MOK i_Pl_isMarked 2 := miB_ok (pl := 16040) (by decide +kernel)
def i_Pl_spread : MI := (⟨"SaidOnce$Planner", "spread", "(II)Z"⟩, prog_6_method_11_code, 8, (some .boolean), [], 3, 0, 0)
theorem o_Pl_spread : MOK i_Pl_spread 2 := miB_ok (pl := 16044) (by decide +kernel)
def i_Pl_sayableBy : MI := (⟨"SaidOnce$Planner", "sayableBy", "(III)I"⟩, prog_6_method_5_code, 4, (some .int), [], 2, 0, 0)
theorem o_Pl_sayableBy : MOK i_Pl_sayableBy 3 := miB_ok (pl := 16048) (by decide +kernel)
def i_Pl_afterwards : MI := (⟨"SaidOnce$Planner", "afterwards", "(III)I"⟩, prog_6_method_6_code, 4, (some .int), [], 2, 0, 0)
theorem o_Pl_afterwards : MOK i_Pl_afterwards 3 := miB_ok (pl := 16052) (by decide +kernel)
def i_Pl_keepOnlyWhatLeadsThere : MI := (⟨"SaidOnce$Planner", "keepOnlyWhatLeadsThere", "(I)V"⟩, prog_6_method_12_code, 6, none, [], 4, 0, 0)
theorem o_Pl_keepOnlyWhatLeadsThere : MOK i_Pl_keepOnlyWhatLeadsThere 1 := miB_ok (pl := 16056) (by decide +kernel)
def i_Pl_leadsOn : MI := (⟨"SaidOnce$Planner", "leadsOn", "(II)Z"⟩, prog_6_method_13_code, 7, (some .boolean), [], 3, 0, 0)
theorem o_Pl_leadsOn : MOK i_Pl_leadsOn 2 := miB_ok (pl := 16060) (by decide +kernel)
def i_Pl_unmark : MI := (⟨"SaidOnce$Planner", "unmark", "(II)V"⟩, prog_6_method_10_code, 3, none, [], 2, 0, 0)
theorem o_Pl_unmark : MOK i_Pl_unmark 2 := miB_ok (pl := 16064) (by decide +kernel)
def i_L_kept : MI := (⟨"SaidOnceLaw", "kept", "(LSaidOnce;II[J)I"⟩, method_17_code, 5, (some .int), [(0, 10, 13, 24)], 10, 2, 12)
theorem o_L_kept : MOK i_L_kept 4 := miB_ok (pl := 16069) (by decide +kernel)
def i_SO_kept : MI := (⟨"SaidOnce", "kept", "(II)I"⟩, prog_1_method_24_code, 3, (some .int), [], 9, 2, 12)
theorem o_SO_kept : MOK i_SO_kept 2 := miB_ok (pl := 16073) (by decide +kernel)
def i_Se_keptFrom : MI := (⟨"SaidOnce$Search", "keptFrom", "(II)I"⟩, prog_9_method_3_code, 8, (some .int), [], 7, 0, 0)
theorem o_Se_keptFrom : MOK i_Se_keptFrom 2 := miB_ok (pl := 16077) (by decide +kernel)
def i_Se_hearFromEach : MI := (⟨"SaidOnce$Search", "hearFromEach", "(II)V"⟩, prog_9_method_6_code, 5, none, [], 6, 0, 0)
theorem o_Se_hearFromEach : MOK i_Se_hearFromEach 2 := miB_ok (pl := 16082) (by decide +kernel)
def i_Se_spreadAmong : MI := (⟨"SaidOnce$Search", "spreadAmong", "(II)I"⟩, prog_9_method_8_code, 5, (some .int), [], 3, 0, 0)
theorem o_Se_spreadAmong : MOK i_Se_spreadAmong 2 := miB_ok (pl := 16089) (by decide +kernel)
def i_Se_heardFromAll : MI := (⟨"SaidOnce$Search", "heardFromAll", "(I)I"⟩, prog_9_method_7_code, 4, (some .int), [], 2, 0, 0)
theorem o_Se_heardFromAll : MOK i_Se_heardFromAll 1 := miB_ok (pl := 16093) (by decide +kernel)
def i_L_seats : MI := (⟨"SaidOnceLaw", "seats", "(LSaidOnce;IIIZ[J)I"⟩, method_18_code, 7, (some .int), [(0, 14, 17, 24)], 11, 3, 18)
theorem o_L_seats : MOK i_L_seats 6 := miB_ok (pl := 16096) (by decide +kernel)
def i_SO_seats : MI := (⟨"SaidOnce", "seats", "(IIIZ)I"⟩, prog_1_method_25_code, 6, (some .int), [], 10, 3, 18)
theorem o_SO_seats : MOK i_SO_seats 4 := miB_ok (pl := 16100) (by decide +kernel)
def i_Se_bestSwap : MI := (⟨"SaidOnce$Search", "bestSwap", "(III)I"⟩, prog_9_method_9_code, 9, (some .int), [], 8, 0, 0)
theorem o_Se_bestSwap : MOK i_Se_bestSwap 3 := miB_ok (pl := 16104) (by decide +kernel)
def i_Se_hearersIfSwapped : MI := (⟨"SaidOnce$Search", "hearersIfSwapped", "(IIIII)I"⟩, prog_9_method_10_code, 7, (some .int), [], 7, 0, 0)
theorem o_Se_hearersIfSwapped : MOK i_Se_hearersIfSwapped 5 := miB_ok (pl := 16109) (by decide +kernel)
def i_L_what : MI := (⟨"SaidOnceLaw", "what", "(LSaidOnce;I[J)I"⟩, method_19_code, 4, (some .int), [(0, 8, 11, 24), (0, 8, 14, 13)], 10, 2, 12)
theorem o_L_what : MOK i_L_what 3 := miB_ok (pl := 16114) (by decide +kernel)
def i_SO_what : MI := (⟨"SaidOnce", "what", "(I)J"⟩, prog_1_method_26_code, 7, (some .long), [], 9, 2, 12)
theorem o_SO_what : MOK i_SO_what 1 := miB_ok (pl := 16118) (by decide +kernel)
def i_Tape_byteAt : MI := (⟨"SaidOnce$Tape", "byteAt", "(I)I"⟩, prog_12_method_4_code, 2, (some .int), [], 2, 0, 0)
theorem o_Tape_byteAt : MOK i_Tape_byteAt 1 := miB_ok (pl := 16123) (by decide +kernel)
def i_SO_comesAsTold : MI := (⟨"SaidOnce", "comesAsTold", "(III)Z"⟩, prog_1_method_58_code, 6, (some .boolean), [], 6, 0, 0)
theorem o_SO_comesAsTold : MOK i_SO_comesAsTold 3 := miB_ok (pl := 16128) (by decide +kernel)
def i_L_alike : MI := (⟨"SaidOnceLaw", "alike", "(LSaidOnce;II[J)I"⟩, method_20_code, 5, (some .int), [(0, 10, 13, 24), (0, 10, 17, 13)], 11, 3, 18)
theorem o_L_alike : MOK i_L_alike 4 := miB_ok (pl := 16132) (by decide +kernel)
def i_SO_alike : MI := (⟨"SaidOnce", "alike", "(II)I"⟩, prog_1_method_29_code, 3, (some .int), [], 10, 3, 18)
theorem o_SO_alike : MOK i_SO_alike 2 := miB_ok (pl := 16136) (by decide +kernel)
def i_L_ask : MI := (⟨"SaidOnceLaw", "ask", "(LSaidOnce;II[J)I"⟩, method_21_code, 5, (some .int), [(0, 10, 13, 24), (0, 10, 17, 13)], 11, 3, 18)
theorem o_L_ask : MOK i_L_ask 4 := miB_ok (pl := 16139) (by decide +kernel)
def i_SO_ask : MI := (⟨"SaidOnce", "ask", "(II)I"⟩, prog_1_method_30_code, 4, (some .int), [], 10, 3, 18)
theorem o_SO_ask : MOK i_SO_ask 2 := miB_ok (pl := 16143) (by decide +kernel)
def i_L_keeps : MI := (⟨"SaidOnceLaw", "keeps", "(LSaidOnce;II[J)I"⟩, method_22_code, 5, (some .int), [(0, 17, 20, 24), (0, 17, 24, 13)], 11, 3, 18)
theorem o_L_keeps : MOK i_L_keeps 4 := miB_ok (pl := 16147) (by decide +kernel)
def i_SO_keeps : MI := (⟨"SaidOnce", "keeps", "(II)Z"⟩, prog_1_method_32_code, 3, (some .boolean), [], 10, 3, 18)
theorem o_SO_keeps : MOK i_SO_keeps 2 := miB_ok (pl := 16151) (by decide +kernel)
def i_SO_lead : MI := (⟨"SaidOnce", "lead", "(II)I"⟩, prog_1_method_59_code, 6, (some .int), [], 6, 0, 0)
theorem o_SO_lead : MOK i_SO_lead 2 := miB_ok (pl := 16155) (by decide +kernel)
def i_L_margin : MI := (⟨"SaidOnceLaw", "margin", "(LSaidOnce;II[J)I"⟩, method_23_code, 5, (some .int), [(0, 10, 13, 24), (0, 10, 17, 13)], 11, 3, 18)
theorem o_L_margin : MOK i_L_margin 4 := miB_ok (pl := 16158) (by decide +kernel)
def i_SO_margin : MI := (⟨"SaidOnce", "margin", "(II)I"⟩, prog_1_method_33_code, 3, (some .int), [], 10, 3, 18)
theorem o_SO_margin : MOK i_SO_margin 2 := miB_ok (pl := 16162) (by decide +kernel)
def i_L_call : MI := (⟨"SaidOnceLaw", "call", "(LSaidOnce;IZ[J)I"⟩, method_24_code, 5, (some .int), [(0, 10, 13, 24)], 10, 1, 6)
theorem o_L_call : MOK i_L_call 4 := miB_ok (pl := 16165) (by decide +kernel)
def i_SO_call : MI := (⟨"SaidOnce", "call", "(IZ)I"⟩, prog_1_method_34_code, 4, (some .int), [], 9, 1, 6)
theorem o_SO_call : MOK i_SO_call 2 := miB_ok (pl := 16169) (by decide +kernel)
def i_Se_bestCaller : MI := (⟨"SaidOnce$Search", "bestCaller", "(I)I"⟩, prog_9_method_11_code, 6, (some .int), [], 7, 0, 0)
theorem o_Se_bestCaller : MOK i_Se_bestCaller 1 := miB_ok (pl := 16173) (by decide +kernel)
def i_Se_worthOfCalling : MI := (⟨"SaidOnce$Search", "worthOfCalling", "(II)I"⟩, prog_9_method_12_code, 7, (some .int), [], 6, 0, 0)
theorem o_Se_worthOfCalling : MOK i_Se_worthOfCalling 2 := miB_ok (pl := 16179) (by decide +kernel)
def i_L_trial : MI := (⟨"SaidOnceLaw", "trial", "(LSaidOnce;II[J)I"⟩, method_25_code, 5, (some .int), [(0, 10, 13, 24), (0, 10, 17, 13)], 10, 2, 12)
theorem o_L_trial : MOK i_L_trial 4 := miB_ok (pl := 16185) (by decide +kernel)
def i_SO_trial : MI := (⟨"SaidOnce", "trial", "(II)I"⟩, prog_1_method_35_code, 3, (some .int), [], 9, 2, 12)
theorem o_SO_trial : MOK i_SO_trial 2 := miB_ok (pl := 16189) (by decide +kernel)
def i_Sch_tryTerm : MI := (⟨"SaidOnce$School", "tryTerm", "(III)I"⟩, prog_7_method_21_code, 6, (some .int), [], 7, 0, 0)
theorem o_Sch_tryTerm : MOK i_Sch_tryTerm 3 := miB_ok (pl := 16193) (by decide +kernel)
def i_L_span : MI := (⟨"SaidOnceLaw", "span", "(LSaidOnce;IZ[J)I"⟩, method_26_code, 5, (some .int), [(0, 10, 13, 13)], 10, 1, 6)
theorem o_L_span : MOK i_L_span 4 := miB_ok (pl := 16198) (by decide +kernel)
def i_SO_span : MI := (⟨"SaidOnce", "span", "(IZ)I"⟩, prog_1_method_36_code, 6, (some .int), [], 9, 1, 6)
theorem o_SO_span : MOK i_SO_span 2 := miB_ok (pl := 16202) (by decide +kernel)
def i_L_how : MI := (⟨"SaidOnceLaw", "how", "(LSaidOnce;II[J)I"⟩, method_27_code, 5, (some .int), [(0, 10, 13, 24)], 10, 2, 12)
theorem o_L_how : MOK i_L_how 4 := miB_ok (pl := 16208) (by decide +kernel)
def i_SO_how : MI := (⟨"SaidOnce", "how", "(II)I"⟩, prog_1_method_37_code, 4, (some .int), [], 9, 2, 12)
theorem o_SO_how : MOK i_SO_how 2 := miB_ok (pl := 16212) (by decide +kernel)
def i_Log_rowBefore : MI := (⟨"SaidOnce$Log", "rowBefore", "(III)I"⟩, prog_5_method_4_code, 5, (some .int), [], 3, 0, 0)
theorem o_Log_rowBefore : MOK i_Log_rowBefore 3 := miB_ok (pl := 16216) (by decide +kernel)
def i_Log_learntBy : MI := (⟨"SaidOnce$Log", "learntBy", "(II)I"⟩, prog_5_method_3_code, 3, (some .int), [], 2, 0, 0)
theorem o_Log_learntBy : MOK i_Log_learntBy 2 := miB_ok (pl := 16220) (by decide +kernel)
def i_L_chain : MI := (⟨"SaidOnceLaw", "chain", "(LSaidOnce;IIZ[J)I"⟩, method_28_code, 6, (some .int), [(0, 12, 15, 24)], 10, 2, 12)
theorem o_L_chain : MOK i_L_chain 5 := miB_ok (pl := 16223) (by decide +kernel)
def i_SO_chain : MI := (⟨"SaidOnce", "chain", "(IIZ)I"⟩, prog_1_method_39_code, 4, (some .int), [], 9, 2, 12)
theorem o_SO_chain : MOK i_SO_chain 3 := miB_ok (pl := 16227) (by decide +kernel)
def i_Log_chainBegin : MI := (⟨"SaidOnce$Log", "chainBegin", "(III)I"⟩, prog_5_method_7_code, 7, (some .int), [], 4, 0, 0)
theorem o_Log_chainBegin : MOK i_Log_chainBegin 3 := miB_ok (pl := 16232) (by decide +kernel)
def i_Log_chainLength : MI := (⟨"SaidOnce$Log", "chainLength", "(III)I"⟩, prog_5_method_6_code, 6, (some .int), [], 4, 0, 0)
theorem o_Log_chainLength : MOK i_Log_chainLength 3 := miB_ok (pl := 16237) (by decide +kernel)
def i_L_spot : MI := (⟨"SaidOnceLaw", "spot", "(LSaidOnce;IIII[J)I"⟩, method_29_code, 7, (some .int), [(0, 14, 17, 24), (0, 14, 21, 13)], 11, 5, 30)
theorem o_L_spot : MOK i_L_spot 6 := miB_ok (pl := 17000) (by decide +kernel)
def i_SO_spot : MI := (⟨"SaidOnce", "spot", "(IIII)I"⟩, prog_1_method_40_code, 5, (some .int), [], 10, 5, 30)
theorem o_SO_spot : MOK i_SO_spot 4 := miB_ok (pl := 17004) (by decide +kernel)
def i_Se_spotFor : MI := (⟨"SaidOnce$Search", "spotFor", "(IIII)I"⟩, prog_9_method_13_code, 10, (some .int), [], 6, 0, 0)
theorem o_Se_spotFor : MOK i_Se_spotFor 4 := miB_ok (pl := 17008) (by decide +kernel)
def i_L_speakers : MI := (⟨"SaidOnceLaw", "speakers", "(LSaidOnce;I[J)I"⟩, method_30_code, 4, (some .int), [(0, 9, 12, 24)], 10, 1, 6)
theorem o_L_speakers : MOK i_L_speakers 3 := miB_ok (pl := 17014) (by decide +kernel)
def i_SO_speakers : MI := (⟨"SaidOnce", "speakers", "(I)I"⟩, prog_1_method_41_code, 2, (some .int), [], 9, 1, 6)
theorem o_SO_speakers : MOK i_SO_speakers 1 := miB_ok (pl := 17018) (by decide +kernel)
def i_Se_fewestSpeakers : MI := (⟨"SaidOnce$Search", "fewestSpeakers", "(I)I"⟩, prog_9_method_4_code, 6, (some .int), [], 7, 0, 0)
theorem o_Se_fewestSpeakers : MOK i_Se_fewestSpeakers 1 := miB_ok (pl := 17022) (by decide +kernel)
def i_L_between : MI := (⟨"SaidOnceLaw", "between", "(LSaidOnce;II[J)I"⟩, method_31_code, 5, (some .int), [(0, 10, 13, 24), (0, 10, 17, 13)], 11, 3, 18)
theorem o_L_between : MOK i_L_between 4 := miB_ok (pl := 17026) (by decide +kernel)
def i_SO_between : MI := (⟨"SaidOnce", "between", "(II)I"⟩, prog_1_method_42_code, 7, (some .int), [], 10, 3, 18)
theorem o_SO_between : MOK i_SO_between 2 := miB_ok (pl := 17030) (by decide +kernel)
def i_L_echo : MI := (⟨"SaidOnceLaw", "echo", "(LSaidOnce;IIIZ[J)I"⟩, method_32_code, 7, (some .int), [(0, 14, 17, 24)], 11, 3, 18)
theorem o_L_echo : MOK i_L_echo 6 := miB_ok (pl := 17033) (by decide +kernel)
def i_SO_echo : MI := (⟨"SaidOnce", "echo", "(IIIZ)I"⟩, prog_1_method_43_code, 10, (some .int), [], 10, 3, 18)
theorem o_SO_echo : MOK i_SO_echo 4 := miB_ok (pl := 17037) (by decide +kernel)
def i_L_learnt : MI := (⟨"SaidOnceLaw", "learnt", "(LSaidOnce;II[J)I"⟩, method_33_code, 5, (some .int), [(0, 10, 13, 24)], 10, 1, 6)
theorem o_L_learnt : MOK i_L_learnt 4 := miB_ok (pl := 17040) (by decide +kernel)
def i_SO_learnt : MI := (⟨"SaidOnce", "learnt", "(II)I"⟩, prog_1_method_44_code, 4, (some .int), [], 9, 1, 6)
theorem o_SO_learnt : MOK i_SO_learnt 2 := miB_ok (pl := 17044) (by decide +kernel)
def i_SO_rowAgo : MI := (⟨"SaidOnce", "rowAgo", "(I)I"⟩, prog_1_method_57_code, 2, (some .int), [], 2, 0, 0)
theorem o_SO_rowAgo : MOK i_SO_rowAgo 1 := miB_ok (pl := 17048) (by decide +kernel)
def i_L_log : MI := (⟨"SaidOnceLaw", "log", "(LSaidOnce;II[J)I"⟩, method_34_code, 5, (some .int), [(0, 10, 13, 26)], 9, 1, 6)
theorem o_L_log : MOK i_L_log 4 := miB_ok (pl := 17052) (by decide +kernel)
def i_SO_log : MI := (⟨"SaidOnce", "log", "(II)I"⟩, prog_1_method_45_code, 4, (some .int), [], 8, 1, 6)
theorem o_SO_log : MOK i_SO_log 2 := miB_ok (pl := 17056) (by decide +kernel)
def i_Mo_thrown : MI := (⟨"SaidOnceModel", "thrown", "()I"⟩, prog_14_method_1_code, 1, (some .int), [], 2, 0, 0)
theorem o_Mo_thrown : MOK i_Mo_thrown 0 := miB_ok (pl := 17061) (by decide +kernel)
def i_Mo_image : MI := (⟨"SaidOnceModel", "image", "()V"⟩, prog_14_method_6_code, 2, none, [], 2, 0, 0)
theorem o_Mo_image : MOK i_Mo_image 0 := miB_ok (pl := 17154) (by decide +kernel)
def i_Mo_back : MI := (⟨"SaidOnceModel", "back", "()Z"⟩, prog_14_method_7_code, 2, (some .boolean), [], 2, 0, 0)
theorem o_Mo_back : MOK i_Mo_back 0 := miB_ok (pl := 17158) (by decide +kernel)
def i_Mo_undo : MI := (⟨"SaidOnceModel", "undo", "()Z"⟩, prog_14_method_9_code, 2, (some .boolean), [], 2, 0, 0)
theorem o_Mo_undo : MOK i_Mo_undo 0 := miB_ok (pl := 17162) (by decide +kernel)
def i_Mo_feed : MI := (⟨"SaidOnceModel", "feed", "(IIIII)I"⟩, prog_14_method_24_code, 7, (some .int), [], 2, 0, 0)
theorem o_Mo_feed : MOK i_Mo_feed 5 := miB_ok (pl := 17166) (by decide +kernel)
def i_Mo_end : MI := (⟨"SaidOnceModel", "end", "(I)Z"⟩, prog_14_method_25_code, 2, (some .boolean), [], 2, 0, 0)
theorem o_Mo_end : MOK i_Mo_end 1 := miB_ok (pl := 17170) (by decide +kernel)
def i_Mo_fault : MI := (⟨"SaidOnceModel", "fault", "()I"⟩, prog_14_method_35_code, 1, (some .int), [], 2, 0, 0)
theorem o_Mo_fault : MOK i_Mo_fault 0 := miB_ok (pl := 17174) (by decide +kernel)
def i_Mo_school : MI := (⟨"SaidOnceModel", "school", "()I"⟩, prog_14_method_53_code, 3, (some .int), [], 52, 0, 0)
theorem o_Mo_school : MOK i_Mo_school 0 := miB_ok (pl := 17178) (by decide +kernel)
def i_Mo_readAll : MI := (⟨"SaidOnceModel", "readAll", "(Z)I"⟩, prog_14_method_52_code, 3, (some .int), [], 51, 0, 0)
theorem o_Mo_readAll : MOK i_Mo_readAll 1 := miB_ok (pl := 17182) (by decide +kernel)
def i_Mo_uses : MI := (⟨"SaidOnceModel", "uses", "()V"⟩, prog_14_method_36_code, 1, none, [], 2, 0, 0)
theorem o_Mo_uses : MOK i_Mo_uses 0 := miB_ok (pl := 17186) (by decide +kernel)
def i_Mo_blanks : MI := (⟨"SaidOnceModel", "blanks", "()V"⟩, prog_14_method_27_code, 1, none, [], 3, 0, 0)
theorem o_Mo_blanks : MOK i_Mo_blanks 0 := miB_ok (pl := 17190) (by decide +kernel)
def i_Mo_isAt : MI := (⟨"SaidOnceModel", "isAt", "(II)Z"⟩, prog_14_method_26_code, 3, (some .boolean), [], 2, 0, 0)
theorem o_Mo_isAt : MOK i_Mo_isAt 2 := miB_ok (pl := 17194) (by decide +kernel)
def i_Mo_readLine : MI := (⟨"SaidOnceModel", "readLine", "(ZI)Z"⟩, prog_14_method_51_code, 3, (some .boolean), [], 50, 0, 0)
theorem o_Mo_readLine : MOK i_Mo_readLine 2 := miB_ok (pl := 17198) (by decide +kernel)
def i_Mo_letters : MI := (⟨"SaidOnceModel", "letters", "()V"⟩, prog_14_method_28_code, 1, none, [], 4, 0, 0)
theorem o_Mo_letters : MOK i_Mo_letters 0 := miB_ok (pl := 17202) (by decide +kernel)
def i_Mo_readSchoolLine : MI := (⟨"SaidOnceModel", "readSchoolLine", "()Z"⟩, prog_14_method_43_code, 3, (some .boolean), [], 9, 0, 0)
theorem o_Mo_readSchoolLine : MOK i_Mo_readSchoolLine 0 := miB_ok (pl := 17206) (by decide +kernel)
def i_Mo_isWord : MI := (⟨"SaidOnceModel", "isWord", "(Ljava/lang/String;)Z"⟩, prog_14_method_29_code, 4, (some .boolean), [], 6, 0, 0)
theorem o_Mo_isWord : MOK i_Mo_isWord 1 := miB_ok (pl := 17211) (by decide +kernel)
def i_Mo_readThing : MI := (⟨"SaidOnceModel", "readThing", "()Z"⟩, prog_14_method_39_code, 2, (some .boolean), [], 5, 0, 0)
theorem o_Mo_readThing : MOK i_Mo_readThing 0 := miB_ok (pl := 17217) (by decide +kernel)
def i_Mo_things : MI := (⟨"SaidOnceModel", "things", "()I"⟩, prog_14_method_10_code, 1, (some .int), [], 2, 0, 0)
theorem o_Mo_things : MOK i_Mo_things 0 := miB_ok (pl := 17221) (by decide +kernel)
def i_Mo_number : MI := (⟨"SaidOnceModel", "number", "(II)I"⟩, prog_14_method_32_code, 4, (some .int), [], 4, 0, 0)
theorem o_Mo_number : MOK i_Mo_number 2 := miB_ok (pl := 17225) (by decide +kernel)
def i_Mo_readPerson : MI := (⟨"SaidOnceModel", "readPerson", "()Z"⟩, prog_14_method_40_code, 7, (some .boolean), [], 8, 0, 0)
theorem o_Mo_readPerson : MOK i_Mo_readPerson 0 := miB_ok (pl := 17230) (by decide +kernel)
def i_Mo_people : MI := (⟨"SaidOnceModel", "people", "()I"⟩, prog_14_method_11_code, 1, (some .int), [], 2, 0, 0)
theorem o_Mo_people : MOK i_Mo_people 0 := miB_ok (pl := 17234) (by decide +kernel)
def i_Mo_sitter : MI := (⟨"SaidOnceModel", "sitter", "(II)I"⟩, prog_14_method_38_code, 5, (some .int), [], 4, 0, 0)
theorem o_Mo_sitter : MOK i_Mo_sitter 2 := miB_ok (pl := 17238) (by decide +kernel)
def i_Mo_of : MI := (⟨"SaidOnceModel", "of", "(II)I"⟩, prog_14_method_15_code, 3, (some .int), [], 3, 0, 0)
theorem o_Mo_of : MOK i_Mo_of 2 := miB_ok (pl := 18002) (by decide +kernel)
def i_Mo_at : MI := (⟨"SaidOnceModel", "at", "(II)I"⟩, prog_14_method_14_code, 2, (some .int), [], 2, 0, 0)
theorem o_Mo_at : MOK i_Mo_at 2 := miB_ok (pl := 18005) (by decide +kernel)
def i_Mo_after : MI := (⟨"SaidOnceModel", "after", "(Ljava/lang/String;II)I"⟩, prog_14_method_33_code, 4, (some .int), [], 7, 0, 0)
theorem o_Mo_after : MOK i_Mo_after 3 := miB_ok (pl := 18010) (by decide +kernel)
def i_Mo_passes : MI := (⟨"SaidOnceModel", "passes", "(Ljava/lang/String;)Z"⟩, prog_14_method_30_code, 2, (some .boolean), [], 7, 0, 0)
theorem o_Mo_passes : MOK i_Mo_passes 1 := miB_ok (pl := 18016) (by decide +kernel)
def i_Mo_thingTold : MI := (⟨"SaidOnceModel", "thingTold", "()I"⟩, prog_14_method_37_code, 1, (some .int), [], 5, 0, 0)
theorem o_Mo_thingTold : MOK i_Mo_thingTold 0 := miB_ok (pl := 18020) (by decide +kernel)
def i_Mo_isFigure : MI := (⟨"SaidOnceModel", "isFigure", "()Z"⟩, prog_14_method_34_code, 1, (some .boolean), [], 4, 0, 0)
theorem o_Mo_isFigure : MOK i_Mo_isFigure 0 := miB_ok (pl := 18024) (by decide +kernel)
def i_Mo_readRule : MI := (⟨"SaidOnceModel", "readRule", "()Z"⟩, prog_14_method_41_code, 3, (some .boolean), [], 6, 0, 0)
theorem o_Mo_readRule : MOK i_Mo_readRule 0 := miB_ok (pl := 18029) (by decide +kernel)
def i_Mo_rules : MI := (⟨"SaidOnceModel", "rules", "()I"⟩, prog_14_method_12_code, 1, (some .int), [], 2, 0, 0)
theorem o_Mo_rules : MOK i_Mo_rules 0 := miB_ok (pl := 18033) (by decide +kernel)
def i_Mo_readSaid : MI := (⟨"SaidOnceModel", "readSaid", "()Z"⟩, prog_14_method_42_code, 3, (some .boolean), [], 6, 0, 0)
theorem o_Mo_readSaid : MOK i_Mo_readSaid 0 := miB_ok (pl := 18038) (by decide +kernel)
def i_Mo_wordings : MI := (⟨"SaidOnceModel", "wordings", "(I)I"⟩, prog_14_method_13_code, 2, (some .int), [], 2, 0, 0)
theorem o_Mo_wordings : MOK i_Mo_wordings 1 := miB_ok (pl := 18042) (by decide +kernel)
def i_Mo_readLawLine : MI := (⟨"SaidOnceModel", "readLawLine", "(I)Z"⟩, prog_14_method_50_code, 4, (some .boolean), [], 49, 0, 0)
theorem o_Mo_readLawLine : MOK i_Mo_readLawLine 1 := miB_ok (pl := 18048) (by decide +kernel)
def i_Mo_readCond : MI := (⟨"SaidOnceModel", "readCond", "()Z"⟩, prog_14_method_49_code, 1, (some .boolean), [], 8, 0, 0)
theorem o_Mo_readCond : MOK i_Mo_readCond 0 := miB_ok (pl := 18056) (by decide +kernel)
def i_Mo_readAllOf : MI := (⟨"SaidOnceModel", "readAllOf", "()Z"⟩, prog_14_method_48_code, 1, (some .boolean), [], 8, 0, 0)
theorem o_Mo_readAllOf : MOK i_Mo_readAllOf 0 := miB_ok (pl := 18060) (by decide +kernel)
def i_Mo_readAtom : MI := (⟨"SaidOnceModel", "readAtom", "()Z"⟩, prog_14_method_47_code, 2, (some .boolean), [], 9, 0, 0)
theorem o_Mo_readAtom : MOK i_Mo_readAtom 0 := miB_ok (pl := 18064) (by decide +kernel)
def i_Mo_sign : MI := (⟨"SaidOnceModel", "sign", "(I)Z"⟩, prog_14_method_31_code, 2, (some .boolean), [], 4, 0, 0)
theorem o_Mo_sign : MOK i_Mo_sign 1 := miB_ok (pl := 18068) (by decide +kernel)
def i_Mo_emits : MI := (⟨"SaidOnceModel", "emits", "(II)V"⟩, prog_14_method_44_code, 3, none, [], 2, 0, 0)
theorem o_Mo_emits : MOK i_Mo_emits 2 := miB_ok (pl := 18073) (by decide +kernel)
def i_Mo_readSum : MI := (⟨"SaidOnceModel", "readSum", "()Z"⟩, prog_14_method_46_code, 1, (some .boolean), [], 8, 0, 0)
theorem o_Mo_readSum : MOK i_Mo_readSum 0 := miB_ok (pl := 18078) (by decide +kernel)
def i_Mo_readPart : MI := (⟨"SaidOnceModel", "readPart", "()Z"⟩, prog_14_method_45_code, 2, (some .boolean), [], 7, 0, 0)
theorem o_Mo_readPart : MOK i_Mo_readPart 0 := miB_ok (pl := 18082) (by decide +kernel)
def i_Mo_throwsIf : MI := (⟨"SaidOnceModel", "throwsIf", "(ZI)Z"⟩, prog_14_method_2_code, 3, (some .boolean), [], 2, 0, 0)
theorem o_Mo_throwsIf : MOK i_Mo_throwsIf 2 := miB_ok (pl := 18093) (by decide +kernel)
def i_Mo_law : MI := (⟨"SaidOnceModel", "law", "()I"⟩, prog_14_method_54_code, 3, (some .int), [], 52, 0, 0)
theorem o_Mo_law : MOK i_Mo_law 0 := miB_ok (pl := 18097) (by decide +kernel)
def i_Mo_hears : MI := (⟨"SaidOnceModel", "hears", "(IIII)I"⟩, prog_14_method_64_code, 5, (some .int), [], 10, 0, 0)
theorem o_Mo_hears : MOK i_Mo_hears 4 := miB_ok (pl := 18101) (by decide +kernel)
def i_Mo_noPerson : MI := (⟨"SaidOnceModel", "noPerson", "(I)Z"⟩, prog_14_method_21_code, 2, (some .boolean), [], 3, 0, 0)
theorem o_Mo_noPerson : MOK i_Mo_noPerson 1 := miB_ok (pl := 18105) (by decide +kernel)
def i_Mo_in : MI := (⟨"SaidOnceModel", "in", "(III)Z"⟩, prog_14_method_3_code, 3, (some .boolean), [], 2, 0, 0)
theorem o_Mo_in : MOK i_Mo_in 3 := miB_ok (pl := 18108) (by decide +kernel)
def i_Mo_noWording : MI := (⟨"SaidOnceModel", "noWording", "(II)Z"⟩, prog_14_method_20_code, 3, (some .boolean), [], 4, 0, 0)
theorem o_Mo_noWording : MOK i_Mo_noWording 2 := miB_ok (pl := 18112) (by decide +kernel)
def i_Mo_noThing : MI := (⟨"SaidOnceModel", "noThing", "(I)Z"⟩, prog_14_method_19_code, 2, (some .boolean), [], 3, 0, 0)
theorem o_Mo_noThing : MOK i_Mo_noThing 1 := miB_ok (pl := 18116) (by decide +kernel)
def i_Mo_sayingOf : MI := (⟨"SaidOnceModel", "sayingOf", "(II)I"⟩, prog_14_method_62_code, 2, (some .int), [], 2, 0, 0)
theorem o_Mo_sayingOf : MOK i_Mo_sayingOf 2 := miB_ok (pl := 18119) (by decide +kernel)
def i_Mo_takes : MI := (⟨"SaidOnceModel", "takes", "(III)I"⟩, prog_14_method_61_code, 4, (some .int), [], 9, 0, 0)
theorem o_Mo_takes : MOK i_Mo_takes 3 := miB_ok (pl := 18123) (by decide +kernel)
def i_Mo_isHere : MI := (⟨"SaidOnceModel", "isHere", "(I)Z"⟩, prog_14_method_17_code, 2, (some .boolean), [], 4, 0, 0)
theorem o_Mo_isHere : MOK i_Mo_isHere 1 := miB_ok (pl := 18127) (by decide +kernel)
def i_Mo_isHeard : MI := (⟨"SaidOnceModel", "isHeard", "(III)Z"⟩, prog_14_method_59_code, 5, (some .boolean), [], 8, 0, 0)
theorem o_Mo_isHeard : MOK i_Mo_isHeard 3 := miB_ok (pl := 18131) (by decide +kernel)
def i_Mo_sumOf : MI := (⟨"SaidOnceModel", "sumOf", "(IIII)I"⟩, prog_14_method_58_code, 7, (some .int), [], 7, 0, 0)
theorem o_Mo_sumOf : MOK i_Mo_sumOf 4 := miB_ok (pl := 18135) (by decide +kernel)
def i_Mo_holdsLine : MI := (⟨"SaidOnceModel", "holdsLine", "(IIII)Z"⟩, prog_14_method_57_code, 12, (some .boolean), [], 6, 0, 0)
theorem o_Mo_holdsLine : MOK i_Mo_holdsLine 4 := miB_ok (pl := 18139) (by decide +kernel)
def i_Mo_factOf : MI := (⟨"SaidOnceModel", "factOf", "(IIIII)I"⟩, prog_14_method_56_code, 6, (some .int), [], 5, 0, 0)
theorem o_Mo_factOf : MOK i_Mo_factOf 5 := miB_ok (pl := 18143) (by decide +kernel)
def i_Mo_apartOf : MI := (⟨"SaidOnceModel", "apartOf", "(II)I"⟩, prog_14_method_55_code, 3, (some .int), [], 4, 0, 0)
theorem o_Mo_apartOf : MOK i_Mo_apartOf 2 := miB_ok (pl := 18147) (by decide +kernel)
def i_Mo_knows : MI := (⟨"SaidOnceModel", "knows", "(II)Z"⟩, prog_14_method_16_code, 3, (some .boolean), [], 4, 0, 0)
theorem o_Mo_knows : MOK i_Mo_knows 2 := miB_ok (pl := 18153) (by decide +kernel)
def i_Mo_has : MI := (⟨"SaidOnceModel", "has", "(II)Z"⟩, prog_14_method_4_code, 2, (some .boolean), [], 2, 0, 0)
theorem o_Mo_has : MOK i_Mo_has 2 := miB_ok (pl := 18156) (by decide +kernel)
def i_Mo_takenAs : MI := (⟨"SaidOnceModel", "takenAs", "(III)I"⟩, prog_14_method_60_code, 4, (some .int), [], 8, 0, 0)
theorem o_Mo_takenAs : MOK i_Mo_takenAs 3 := miB_ok (pl := 18160) (by decide +kernel)
def i_Mo_audience : MI := (⟨"SaidOnceModel", "audience", "(IIIZ)I"⟩, prog_14_method_65_code, 5, (some .int), [], 11, 0, 0)
theorem o_Mo_audience : MOK i_Mo_audience 4 := miB_ok (pl := 18164) (by decide +kernel)
def i_Mo_hearers : MI := (⟨"SaidOnceModel", "hearers", "(IIZ)I"⟩, prog_14_method_63_code, 7, (some .int), [], 10, 0, 0)
theorem o_Mo_hearers : MOK i_Mo_hearers 3 := miB_ok (pl := 18168) (by decide +kernel)
def i_Mo_thing : MI := (⟨"SaidOnceModel", "thing", "(II)I"⟩, prog_14_method_71_code, 3, (some .int), [], 6, 0, 0)
theorem o_Mo_thing : MOK i_Mo_thing 2 := miB_ok (pl := 18172) (by decide +kernel)
def i_Mo_leftOf : MI := (⟨"SaidOnceModel", "leftOf", "(I)I"⟩, prog_14_method_66_code, 4, (some .int), [], 3, 0, 0)
theorem o_Mo_leftOf : MOK i_Mo_leftOf 1 := miB_ok (pl := 18176) (by decide +kernel)
def i_Mo_isSaid : MI := (⟨"SaidOnceModel", "isSaid", "(II)Z"⟩, prog_14_method_22_code, 3, (some .boolean), [], 2, 0, 0)
theorem o_Mo_isSaid : MOK i_Mo_isSaid 2 := miB_ok (pl := 18180) (by decide +kernel)
def i_Mo_knowers : MI := (⟨"SaidOnceModel", "knowers", "(I)I"⟩, prog_14_method_67_code, 4, (some .int), [], 5, 0, 0)
theorem o_Mo_knowers : MOK i_Mo_knowers 1 := miB_ok (pl := 18184) (by decide +kernel)
def i_Mo_sourcesOf : MI := (⟨"SaidOnceModel", "sourcesOf", "(I)I"⟩, prog_14_method_70_code, 5, (some .int), [], 4, 0, 0)
theorem o_Mo_sourcesOf : MOK i_Mo_sourcesOf 1 := miB_ok (pl := 18188) (by decide +kernel)
def i_Mo_closes : MI := (⟨"SaidOnceModel", "closes", "(I)I"⟩, prog_14_method_69_code, 5, (some .int), [], 3, 0, 0)
theorem o_Mo_closes : MOK i_Mo_closes 1 := miB_ok (pl := 18193) (by decide +kernel)
def i_Mo_ofRule : MI := (⟨"SaidOnceModel", "ofRule", "(II)I"⟩, prog_14_method_18_code, 3, (some .int), [], 2, 0, 0)
theorem o_Mo_ofRule : MOK i_Mo_ofRule 2 := miB_ok (pl := 18197) (by decide +kernel)
def i_Mo_person : MI := (⟨"SaidOnceModel", "person", "(II)I"⟩, prog_14_method_73_code, 3, (some .int), [], 6, 0, 0)
theorem o_Mo_person : MOK i_Mo_person 2 := miB_ok (pl := 18201) (by decide +kernel)
def i_Mo_lostBy : MI := (⟨"SaidOnceModel", "lostBy", "(I)I"⟩, prog_14_method_72_code, 4, (some .int), [], 5, 0, 0)
theorem o_Mo_lostBy : MOK i_Mo_lostBy 1 := miB_ok (pl := 18205) (by decide +kernel)
def i_Mo_rule : MI := (⟨"SaidOnceModel", "rule", "(II)I"⟩, prog_14_method_74_code, 3, (some .int), [], 3, 0, 0)
theorem o_Mo_rule : MOK i_Mo_rule 2 := miB_ok (pl := 18209) (by decide +kernel)
def i_Mo_store : MI := (⟨"SaidOnceModel", "store", "()J"⟩, prog_14_method_75_code, 1, (some .long), [], 2, 0, 0)
theorem o_Mo_store : MOK i_Mo_store 0 := miB_ok (pl := 18213) (by decide +kernel)
def i_Mo_apart : MI := (⟨"SaidOnceModel", "apart", "(II)I"⟩, prog_14_method_76_code, 3, (some .int), [], 5, 0, 0)
theorem o_Mo_apart : MOK i_Mo_apart 2 := miB_ok (pl := 18217) (by decide +kernel)
def i_Mo_say : MI := (⟨"SaidOnceModel", "say", "(III)I"⟩, prog_14_method_82_code, 4, (some .int), [], 11, 0, 0)
theorem o_Mo_say : MOK i_Mo_say 3 := miB_ok (pl := 18221) (by decide +kernel)
def i_Mo_canSay : MI := (⟨"SaidOnceModel", "canSay", "(III)Z"⟩, prog_14_method_81_code, 4, (some .boolean), [], 5, 0, 0)
theorem o_Mo_canSay : MOK i_Mo_canSay 3 := miB_ok (pl := 18225) (by decide +kernel)
def i_Mo_remembers : MI := (⟨"SaidOnceModel", "remembers", "()V"⟩, prog_14_method_8_code, 2, none, [], 2, 0, 0)
theorem o_Mo_remembers : MOK i_Mo_remembers 0 := miB_ok (pl := 18229) (by decide +kernel)
def i_Mo_says : MI := (⟨"SaidOnceModel", "says", "(II)I"⟩, prog_14_method_80_code, 5, (some .int), [], 10, 0, 0)
theorem o_Mo_says : MOK i_Mo_says 2 := miB_ok (pl := 18233) (by decide +kernel)
def i_Mo_draw : MI := (⟨"SaidOnceModel", "draw", "(I)I"⟩, prog_14_method_23_code, 2, (some .int), [], 2, 0, 0)
theorem o_Mo_draw : MOK i_Mo_draw 1 := miB_ok (pl := 18237) (by decide +kernel)
def i_Mo_tells : MI := (⟨"SaidOnceModel", "tells", "(IIZ)V"⟩, prog_14_method_78_code, 5, none, [], 2, 0, 0)
theorem o_Mo_tells : MOK i_Mo_tells 3 := miB_ok (pl := 19002) (by decide +kernel)
def i_Mo_learns : MI := (⟨"SaidOnceModel", "learns", "(II)V"⟩, prog_14_method_79_code, 3, none, [], 5, 0, 0)
theorem o_Mo_learns : MOK i_Mo_learns 2 := miB_ok (pl := 19007) (by decide +kernel)
def i_Mo_ofLog : MI := (⟨"SaidOnceModel", "ofLog", "(II)I"⟩, prog_14_method_77_code, 3, (some .int), [], 2, 0, 0)
theorem o_Mo_ofLog : MOK i_Mo_ofLog 2 := miB_ok (pl := 19011) (by decide +kernel)
def i_Mo_think : MI := (⟨"SaidOnceModel", "think", "(I)I"⟩, prog_14_method_83_code, 3, (some .int), [], 4, 0, 0)
theorem o_Mo_think : MOK i_Mo_think 1 := miB_ok (pl := 19015) (by decide +kernel)
def i_Mo_away : MI := (⟨"SaidOnceModel", "away", "(IZ)Z"⟩, prog_14_method_84_code, 4, (some .boolean), [], 5, 0, 0)
theorem o_Mo_away : MOK i_Mo_away 2 := miB_ok (pl := 19019) (by decide +kernel)
def i_Mo_change : MI := (⟨"SaidOnceModel", "change", "(II)I"⟩, prog_14_method_86_code, 3, (some .int), [], 5, 0, 0)
theorem o_Mo_change : MOK i_Mo_change 2 := miB_ok (pl := 19023) (by decide +kernel)
def i_Mo_trades : MI := (⟨"SaidOnceModel", "trades", "(II)V"⟩, prog_14_method_85_code, 5, none, [], 4, 0, 0)
theorem o_Mo_trades : MOK i_Mo_trades 2 := miB_ok (pl := 19027) (by decide +kernel)
def i_Mo_day : MI := (⟨"SaidOnceModel", "day", "()I"⟩, prog_14_method_87_code, 3, (some .int), [], 6, 0, 0)
theorem o_Mo_day : MOK i_Mo_day 0 := miB_ok (pl := 19031) (by decide +kernel)
def i_Mo_here : MI := (⟨"SaidOnceModel", "here", "()I"⟩, prog_14_method_68_code, 3, (some .int), [], 5, 0, 0)
theorem o_Mo_here : MOK i_Mo_here 0 := miB_ok (pl := 19035) (by decide +kernel)
def i_Mo_term : MI := (⟨"SaidOnceModel", "term", "(I)I"⟩, prog_14_method_90_code, 2, (some .int), [], 12, 0, 0)
theorem o_Mo_term : MOK i_Mo_term 1 := miB_ok (pl := 19039) (by decide +kernel)
def i_Mo_sayings : MI := (⟨"SaidOnceModel", "sayings", "(I)I"⟩, prog_14_method_89_code, 7, (some .int), [], 11, 0, 0)
theorem o_Mo_sayings : MOK i_Mo_sayings 1 := miB_ok (pl := 19043) (by decide +kernel)
def i_Mo_firstLeft : MI := (⟨"SaidOnceModel", "firstLeft", "(I)I"⟩, prog_14_method_88_code, 3, (some .int), [], 3, 0, 0)
theorem o_Mo_firstLeft : MOK i_Mo_firstLeft 1 := miB_ok (pl := 19047) (by decide +kernel)
def i_Mo_sayable : MI := (⟨"SaidOnceModel", "sayable", "()I"⟩, prog_14_method_93_code, 1, (some .int), [], 6, 0, 0)
theorem o_Mo_sayable : MOK i_Mo_sayable 0 := miB_ok (pl := 19051) (by decide +kernel)
def i_Mo_knownHere : MI := (⟨"SaidOnceModel", "knownHere", "()I"⟩, prog_14_method_91_code, 3, (some .int), [], 5, 0, 0)
theorem o_Mo_knownHere : MOK i_Mo_knownHere 0 := miB_ok (pl := 19055) (by decide +kernel)
def i_Mo_silentThings : MI := (⟨"SaidOnceModel", "silentThings", "()I"⟩, prog_14_method_92_code, 3, (some .int), [], 4, 0, 0)
theorem o_Mo_silentThings : MOK i_Mo_silentThings 0 := miB_ok (pl := 19059) (by decide +kernel)
def i_Mo_dumb : MI := (⟨"SaidOnceModel", "dumb", "()I"⟩, prog_14_method_94_code, 4, (some .int), [], 5, 0, 0)
theorem o_Mo_dumb : MOK i_Mo_dumb 0 := miB_ok (pl := 19063) (by decide +kernel)
def i_Mo_silent : MI := (⟨"SaidOnceModel", "silent", "()I"⟩, prog_14_method_95_code, 1, (some .int), [], 5, 0, 0)
theorem o_Mo_silent : MOK i_Mo_silent 0 := miB_ok (pl := 19067) (by decide +kernel)
def i_Mo_plan : MI := (⟨"SaidOnceModel", "plan", "(IZ)I"⟩, prog_14_method_105_code, 4, (some .int), [], 13, 0, 0)
theorem o_Mo_plan : MOK i_Mo_plan 2 := miB_ok (pl := 19071) (by decide +kernel)
def i_Mo_plans : MI := (⟨"SaidOnceModel", "plans", "(I)I"⟩, prog_14_method_103_code, 7, (some .int), [], 12, 0, 0)
theorem o_Mo_plans : MOK i_Mo_plans 1 := miB_ok (pl := 19075) (by decide +kernel)
def i_Mo_laysRight : MI := (⟨"SaidOnceModel", "laysRight", "(I)V"⟩, prog_14_method_97_code, 4, none, [], 11, 0, 0)
theorem o_Mo_laysRight : MOK i_Mo_laysRight 1 := miB_ok (pl := 19079) (by decide +kernel)
def i_Mo_rightAt : MI := (⟨"SaidOnceModel", "rightAt", "(II)I"⟩, prog_14_method_96_code, 2, (some .int), [], 2, 0, 0)
theorem o_Mo_rightAt : MOK i_Mo_rightAt 2 := miB_ok (pl := 19082) (by decide +kernel)
def i_Mo_saidOf : MI := (⟨"SaidOnceModel", "saidOf", "(I)I"⟩, prog_14_method_99_code, 4, (some .int), [], 3, 0, 0)
theorem o_Mo_saidOf : MOK i_Mo_saidOf 1 := miB_ok (pl := 19086) (by decide +kernel)
def i_Mo_planAt : MI := (⟨"SaidOnceModel", "planAt", "(II)I"⟩, prog_14_method_98_code, 2, (some .int), [], 2, 0, 0)
theorem o_Mo_planAt : MOK i_Mo_planAt 2 := miB_ok (pl := 19089) (by decide +kernel)
def i_Mo_leastStep : MI := (⟨"SaidOnceModel", "leastStep", "(II)I"⟩, prog_14_method_102_code, 6, (some .int), [], 6, 0, 0)
theorem o_Mo_leastStep : MOK i_Mo_leastStep 2 := miB_ok (pl := 19093) (by decide +kernel)
def i_Mo_canStep : MI := (⟨"SaidOnceModel", "canStep", "(IIII)Z"⟩, prog_14_method_101_code, 5, (some .boolean), [], 5, 0, 0)
theorem o_Mo_canStep : MOK i_Mo_canStep 4 := miB_ok (pl := 19097) (by decide +kernel)
def i_Mo_byStep : MI := (⟨"SaidOnceModel", "byStep", "(IIII)I"⟩, prog_14_method_100_code, 5, (some .int), [], 3, 0, 0)
theorem o_Mo_byStep : MOK i_Mo_byStep 4 := miB_ok (pl := 19101) (by decide +kernel)
def i_Mo_firstStep : MI := (⟨"SaidOnceModel", "firstStep", "(I)I"⟩, prog_14_method_104_code, 7, (some .int), [], 6, 0, 0)
theorem o_Mo_firstStep : MOK i_Mo_firstStep 1 := miB_ok (pl := 19105) (by decide +kernel)
def i_Mo_kept : MI := (⟨"SaidOnceModel", "kept", "(II)I"⟩, prog_14_method_108_code, 6, (some .int), [], 13, 0, 0)
theorem o_Mo_kept : MOK i_Mo_kept 2 := miB_ok (pl := 19109) (by decide +kernel)
def i_Mo_laysTeaches : MI := (⟨"SaidOnceModel", "laysTeaches", "(I)V"⟩, prog_14_method_106_code, 4, none, [], 12, 0, 0)
theorem o_Mo_laysTeaches : MOK i_Mo_laysTeaches 1 := miB_ok (pl := 19113) (by decide +kernel)
def i_Mo_spreads : MI := (⟨"SaidOnceModel", "spreads", "(II)I"⟩, prog_14_method_107_code, 6, (some .int), [], 3, 0, 0)
theorem o_Mo_spreads : MOK i_Mo_spreads 2 := miB_ok (pl := 19117) (by decide +kernel)
def i_Mo_seats : MI := (⟨"SaidOnceModel", "seats", "(IIIZ)I"⟩, prog_14_method_109_code, 11, (some .int), [], 11, 0, 0)
theorem o_Mo_seats : MOK i_Mo_seats 4 := miB_ok (pl := 19121) (by decide +kernel)
def i_Mo_what : MI := (⟨"SaidOnceModel", "what", "(I)J"⟩, prog_14_method_111_code, 7, (some .long), [], 11, 0, 0)
theorem o_Mo_what : MOK i_Mo_what 1 := miB_ok (pl := 19125) (by decide +kernel)
def i_Mo_comesSo : MI := (⟨"SaidOnceModel", "comesSo", "(II)Z"⟩, prog_14_method_110_code, 6, (some .boolean), [], 10, 0, 0)
theorem o_Mo_comesSo : MOK i_Mo_comesSo 2 := miB_ok (pl := 19129) (by decide +kernel)
def i_Mo_exam : MI := (⟨"SaidOnceModel", "exam", "()I"⟩, prog_14_method_113_code, 3, (some .int), [], 5, 0, 0)
theorem o_Mo_exam : MOK i_Mo_exam 0 := miB_ok (pl := 19133) (by decide +kernel)
def i_Mo_nothingSaid : MI := (⟨"SaidOnceModel", "nothingSaid", "(I)Z"⟩, prog_14_method_112_code, 2, (some .boolean), [], 4, 0, 0)
theorem o_Mo_nothingSaid : MOK i_Mo_nothingSaid 1 := miB_ok (pl := 19137) (by decide +kernel)
def i_Mo_last : MI := (⟨"SaidOnceModel", "last", "()I"⟩, prog_14_method_118_code, 5, (some .int), [], 12, 0, 0)
theorem o_Mo_last : MOK i_Mo_last 0 := miB_ok (pl := 19141) (by decide +kernel)
def i_Mo_keepsAll : MI := (⟨"SaidOnceModel", "keepsAll", "()V"⟩, prog_14_method_114_code, 2, none, [], 2, 0, 0)
theorem o_Mo_keepsAll : MOK i_Mo_keepsAll 0 := miB_ok (pl := 19145) (by decide +kernel)
def i_Mo_goesThrough : MI := (⟨"SaidOnceModel", "goesThrough", "()Z"⟩, prog_14_method_117_code, 5, (some .boolean), [], 11, 0, 0)
theorem o_Mo_goesThrough : MOK i_Mo_goesThrough 0 := miB_ok (pl := 19149) (by decide +kernel)
def i_Mo_saysAll : MI := (⟨"SaidOnceModel", "saysAll", "(II)Z"⟩, prog_14_method_116_code, 5, (some .boolean), [], 10, 0, 0)
theorem o_Mo_saysAll : MOK i_Mo_saysAll 2 := miB_ok (pl := 19153) (by decide +kernel)
def i_Mo_bringsBack : MI := (⟨"SaidOnceModel", "bringsBack", "()V"⟩, prog_14_method_115_code, 2, none, [], 2, 0, 0)
theorem o_Mo_bringsBack : MOK i_Mo_bringsBack 0 := miB_ok (pl := 19157) (by decide +kernel)
def i_Mo_alike : MI := (⟨"SaidOnceModel", "alike", "(II)I"⟩, prog_14_method_120_code, 3, (some .int), [], 5, 0, 0)
theorem o_Mo_alike : MOK i_Mo_alike 2 := miB_ok (pl := 19161) (by decide +kernel)
def i_Mo_alikeOf : MI := (⟨"SaidOnceModel", "alikeOf", "(II)I"⟩, prog_14_method_119_code, 3, (some .int), [], 4, 0, 0)
theorem o_Mo_alikeOf : MOK i_Mo_alikeOf 2 := miB_ok (pl := 19165) (by decide +kernel)
def i_Mo_ask : MI := (⟨"SaidOnceModel", "ask", "(II)I"⟩, prog_14_method_121_code, 4, (some .int), [], 4, 0, 0)
theorem o_Mo_ask : MOK i_Mo_ask 2 := miB_ok (pl := 19169) (by decide +kernel)
def i_Mo_groups : MI := (⟨"SaidOnceModel", "groups", "(Z)I"⟩, prog_14_method_123_code, 5, (some .int), [], 5, 0, 0)
theorem o_Mo_groups : MOK i_Mo_groups 1 := miB_ok (pl := 19174) (by decide +kernel)
def i_Mo_groupOf : MI := (⟨"SaidOnceModel", "groupOf", "(I)I"⟩, prog_14_method_122_code, 4, (some .int), [], 4, 0, 0)
theorem o_Mo_groupOf : MOK i_Mo_groupOf 1 := miB_ok (pl := 19178) (by decide +kernel)
def i_Mo_keeps : MI := (⟨"SaidOnceModel", "keeps", "(II)Z"⟩, prog_14_method_126_code, 3, (some .boolean), [], 6, 0, 0)
theorem o_Mo_keeps : MOK i_Mo_keeps 2 := miB_ok (pl := 19182) (by decide +kernel)
def i_Mo_marginOf : MI := (⟨"SaidOnceModel", "marginOf", "(II)I"⟩, prog_14_method_125_code, 4, (some .int), [], 5, 0, 0)
theorem o_Mo_marginOf : MOK i_Mo_marginOf 2 := miB_ok (pl := 19186) (by decide +kernel)
def i_Mo_leftIn : MI := (⟨"SaidOnceModel", "leftIn", "(I)I"⟩, prog_14_method_124_code, 4, (some .int), [], 4, 0, 0)
theorem o_Mo_leftIn : MOK i_Mo_leftIn 1 := miB_ok (pl := 19190) (by decide +kernel)
def i_Mo_margin : MI := (⟨"SaidOnceModel", "margin", "(II)I"⟩, prog_14_method_127_code, 3, (some .int), [], 6, 0, 0)
theorem o_Mo_margin : MOK i_Mo_margin 2 := miB_ok (pl := 19194) (by decide +kernel)
def i_Mo_call : MI := (⟨"SaidOnceModel", "call", "(IZ)I"⟩, prog_14_method_129_code, 7, (some .int), [], 12, 0, 0)
theorem o_Mo_call : MOK i_Mo_call 2 := miB_ok (pl := 19198) (by decide +kernel)
def i_Mo_mostBy : MI := (⟨"SaidOnceModel", "mostBy", "(II)I"⟩, prog_14_method_128_code, 5, (some .int), [], 11, 0, 0)
theorem o_Mo_mostBy : MOK i_Mo_mostBy 2 := miB_ok (pl := 19202) (by decide +kernel)
def i_Mo_trial : MI := (⟨"SaidOnceModel", "trial", "(II)I"⟩, prog_14_method_130_code, 5, (some .int), [], 12, 0, 0)
theorem o_Mo_trial : MOK i_Mo_trial 2 := miB_ok (pl := 19206) (by decide +kernel)
def i_Mo_span : MI := (⟨"SaidOnceModel", "span", "(IZ)I"⟩, prog_14_method_131_code, 6, (some .int), [], 12, 0, 0)
theorem o_Mo_span : MOK i_Mo_span 2 := miB_ok (pl := 19210) (by decide +kernel)
def i_Mo_how : MI := (⟨"SaidOnceModel", "how", "(II)I"⟩, prog_14_method_133_code, 3, (some .int), [], 4, 0, 0)
theorem o_Mo_how : MOK i_Mo_how 2 := miB_ok (pl := 19214) (by decide +kernel)
def i_Mo_rowOf : MI := (⟨"SaidOnceModel", "rowOf", "(III)I"⟩, prog_14_method_132_code, 5, (some .int), [], 3, 0, 0)
theorem o_Mo_rowOf : MOK i_Mo_rowOf 3 := miB_ok (pl := 19218) (by decide +kernel)
def i_Mo_teacher : MI := (⟨"SaidOnceModel", "teacher", "()I"⟩, prog_14_method_135_code, 3, (some .int), [], 4, 0, 0)
theorem o_Mo_teacher : MOK i_Mo_teacher 0 := miB_ok (pl := 19222) (by decide +kernel)
def i_Mo_taught : MI := (⟨"SaidOnceModel", "taught", "(I)I"⟩, prog_14_method_134_code, 4, (some .int), [], 3, 0, 0)
theorem o_Mo_taught : MOK i_Mo_taught 1 := miB_ok (pl := 19226) (by decide +kernel)
def i_Mo_chain : MI := (⟨"SaidOnceModel", "chain", "(IIZ)I"⟩, prog_14_method_136_code, 7, (some .int), [], 5, 0, 0)
theorem o_Mo_chain : MOK i_Mo_chain 3 := miB_ok (pl := 19230) (by decide +kernel)
def i_Mo_spot : MI := (⟨"SaidOnceModel", "spot", "(IIII)I"⟩, prog_14_method_138_code, 7, (some .int), [], 11, 0, 0)
theorem o_Mo_spot : MOK i_Mo_spot 4 := miB_ok (pl := 19234) (by decide +kernel)
def i_Mo_isHeardAt : MI := (⟨"SaidOnceModel", "isHeardAt", "(IIIII)Z"⟩, prog_14_method_137_code, 9, (some .boolean), [], 10, 0, 0)
theorem o_Mo_isHeardAt : MOK i_Mo_isHeardAt 5 := miB_ok (pl := 19238) (by decide +kernel)
def i_Mo_speakers : MI := (⟨"SaidOnceModel", "speakers", "(I)I"⟩, prog_14_method_140_code, 7, (some .int), [], 12, 0, 0)
theorem o_Mo_speakers : MOK i_Mo_speakers 1 := miB_ok (pl := 20002) (by decide +kernel)
def i_Mo_reached : MI := (⟨"SaidOnceModel", "reached", "(II)I"⟩, prog_14_method_139_code, 5, (some .int), [], 11, 0, 0)
theorem o_Mo_reached : MOK i_Mo_reached 2 := miB_ok (pl := 20006) (by decide +kernel)
def i_Mo_between : MI := (⟨"SaidOnceModel", "between", "(II)I"⟩, prog_14_method_141_code, 7, (some .int), [], 10, 0, 0)
theorem o_Mo_between : MOK i_Mo_between 2 := miB_ok (pl := 20010) (by decide +kernel)
def i_Mo_echo : MI := (⟨"SaidOnceModel", "echo", "(IIIZ)I"⟩, prog_14_method_143_code, 10, (some .int), [], 11, 0, 0)
theorem o_Mo_echo : MOK i_Mo_echo 4 := miB_ok (pl := 20014) (by decide +kernel)
def i_Mo_takenBy : MI := (⟨"SaidOnceModel", "takenBy", "(III)I"⟩, prog_14_method_142_code, 6, (some .int), [], 10, 0, 0)
theorem o_Mo_takenBy : MOK i_Mo_takenBy 3 := miB_ok (pl := 20018) (by decide +kernel)
def i_Mo_learnt : MI := (⟨"SaidOnceModel", "learnt", "(II)I"⟩, prog_14_method_144_code, 3, (some .int), [], 4, 0, 0)
theorem o_Mo_learnt : MOK i_Mo_learnt 2 := miB_ok (pl := 20022) (by decide +kernel)
def i_Mo_log : MI := (⟨"SaidOnceModel", "log", "(II)I"⟩, prog_14_method_145_code, 3, (some .int), [], 3, 0, 0)
theorem o_Mo_log : MOK i_Mo_log 2 := miB_ok (pl := 20026) (by decide +kernel)
def i_Mo_seed : MI := (⟨"SaidOnceModel", "seed", "(I)I"⟩, prog_14_method_146_code, 3, (some .int), [], 2, 0, 0)
theorem o_Mo_seed : MOK i_Mo_seed 1 := miB_ok (pl := 20030) (by decide +kernel)
def i_Mo_count : MI := (⟨"SaidOnceModel", "count", "(I)I"⟩, prog_14_method_147_code, 2, (some .int), [], 6, 0, 0)
theorem o_Mo_count : MOK i_Mo_count 1 := miB_ok (pl := 20034) (by decide +kernel)
end
section
/-! pools, by program (wip/whole/gen_pool.py) -/
def pvB (own : String) (q : Nat × Mth) : Bool := (miH q.2.1).isEmpty && tbAt (q.2.2.2.2.getD 0 0, .methodLink own q.1 (miY q.2.1)) && tbAt (q.2.2.2.2.getD 1 0, .instanceMethod (miY q.2.1)) && tbAt (q.2.2.2.2.getD 2 0, .selects (miY q.2.1).cls (miY q.2.1) (miY q.2.1)) && tbAt (q.2.2.2.2.getD 3 0, .initialized (miY q.2.1).cls) && decide ((cls[q.2.2.2.2.getD 4 0]?).map (fun r => r.1) = some (miY q.2.1).cls)
theorem pv_ok {own : String} {q : Nat × Mth} (hM : MOK q.2.1 q.2.2.2.1) (h : pvB own q = true) : pvOK own q := by
  simp only [pvB, Bool.and_eq_true, decide_eq_true_eq] at h
  obtain ⟨⟨⟨⟨⟨h1, h2⟩, h3⟩, h4⟩, h5⟩, h6⟩ := h
  cases hr : cls[q.2.2.2.2.getD 4 0]? with
  | none => rw [hr] at h6; cases h6
  | some r => rw [hr] at h6; exact ⟨hM, List.isEmpty_iff.mp h1, tb_of h2, tb_of h3, tb_of h4, tb_of h5, r, hr, Option.some.inj h6⟩
def psB (own : String) (q : Nat × Mth) : Bool := tbAt (q.2.2.2.2.getD 0 0, .methodLink own q.1 (miY q.2.1)) && tbAt (q.2.2.2.2.getD 1 0, .static (miY q.2.1)) && tbAt (q.2.2.2.2.getD 2 0, .initialized (miY q.2.1).cls)
theorem ps_ok {own : String} {q : Nat × Mth} (hM : MOK q.2.1 q.2.2.2.1) (h : psB own q = true) : psOK own q := by
  simp only [psB, Bool.and_eq_true] at h
  exact ⟨hM, tb_of h.1.1, tb_of h.1.2, tb_of h.2⟩
def pnB (own : String) (q : Nat × Mth) : Bool := (miH q.2.1).isEmpty && nwAt (q.2.2.2.2.getD 0 0, .methodLinkNest own q.1 (miY q.2.1) "SaidOnce") && tbAt (q.2.2.2.2.getD 1 0, .static (miY q.2.1)) && tbAt (q.2.2.2.2.getD 2 0, .initialized (miY q.2.1).cls)
theorem pn_ok {own : String} {q : Nat × Mth} (hM : MOK q.2.1 q.2.2.2.1) (h : pnB own q = true) : pnOK own q := by
  simp only [pnB, Bool.and_eq_true] at h
  exact ⟨hM, List.isEmpty_iff.mp h.1.1.1, nw_of h.1.1.2, tb_of h.1.2, tb_of h.2⟩
def pwB (own : String) (q : Nat × Mth) : Bool := (miH q.2.1).isEmpty && decide ((miY q.2.1).cls = "java/lang/String") && tbAt (q.2.2.2.2.getD 0 0, .methodLink own q.1 (miY q.2.1)) && tbAt (q.2.2.2.2.getD 1 0, .instanceMethod (miY q.2.1)) && tbAt (q.2.2.2.2.getD 2 0, .selects (miY q.2.1).cls (miY q.2.1) (miY q.2.1)) && tbAt (q.2.2.2.2.getD 3 0, .initialized (miY q.2.1).cls)
theorem pw_ok {own : String} {q : Nat × Mth} (hM : MOK q.2.1 q.2.2.2.1) (h : pwB own q = true) : pwOK own q := by
  simp only [pwB, Bool.and_eq_true, decide_eq_true_eq] at h
  obtain ⟨⟨⟨⟨⟨h1, h0⟩, h2⟩, h3⟩, h4⟩, h5⟩ := h
  exact ⟨hM, List.isEmpty_iff.mp h1, h0, tb_of h2, tb_of h3, tb_of h4, tb_of h5⟩
def puB (own : String) (q : Nat × MthU) : Bool := (miH q.2.1).isEmpty && tbAt (q.2.2.2.2.1.getD 0 0, .methodLink own q.1 q.2.2.2.2.2.1) && tbAt (q.2.2.2.2.1.getD 1 0, .sameMethod q.2.2.2.2.2.1.cls q.2.2.2.2.2.2.1 q.2.2.2.2.2.1.name q.2.2.2.2.2.1.desc) && (match cls[q.2.2.2.2.2.2.2]? with | none => false | some r => tbAt (q.2.2.2.2.1.getD 2 0, .selects r.1 q.2.2.2.2.2.1 (miY q.2.1))) && tbAt (q.2.2.2.2.1.getD 3 0, .instanceMethod (miY q.2.1)) && tbAt (q.2.2.2.2.1.getD 4 0, .initialized (miY q.2.1).cls) && nwAt (q.2.2.2.2.1.getD 5 0, .declares ⟨q.2.2.2.2.2.2.1, q.2.2.2.2.2.1.name, q.2.2.2.2.2.1.desc⟩) && decide (q.2.2.2.2.2.2.1 ≠ "java/lang/invoke/MethodHandle" ∧ q.2.2.2.2.2.2.1 ≠ "java/lang/invoke/VarHandle" ∧ (parseMethodDescriptor q.2.2.2.2.2.1.desc).map (fun d => d.parameters.length) = some q.2.2.2.1)
theorem pu_ok {own : String} {q : Nat × MthU} (hM : MOK q.2.1 q.2.2.2.1) (h : puB own q = true) : puOK own q := by
  simp only [puB, Bool.and_eq_true, decide_eq_true_eq] at h
  obtain ⟨⟨⟨⟨⟨⟨⟨h1, h2⟩, h3⟩, h4⟩, h5⟩, h6⟩, h7⟩, h8⟩ := h
  split at h4
  · cases h4
  · rename_i r hr
    exact ⟨hM, List.isEmpty_iff.mp h1, tb_of h2, tb_of h3, ⟨r, hr, tb_of h4⟩, tb_of h5, tb_of h6, nw_of h7, h8⟩
theorem fa_c {α : Type} {p : α → Prop} {a : α} {l : List α} (h : p a) (t : ∀ x ∈ l, p x) : ∀ x ∈ a :: l, p x := List.forall_mem_cons.mpr ⟨h, t⟩
theorem fa_n {α : Type} {p : α → Prop} : ∀ x ∈ ([] : List α), p x := fun _ h => nomatch h
def P_Tape : Pool := ([(9, 9, 0, 0, 11045, 0), (15, 9, 2, 0, 11048, 0), (19, 9, 1, 0, 11047, 0), (22, 9, 5, 0, 11055, 0), (28, 9, 4, 0, 11054, 0), (31, 9, 6, 0, 11056, 0), (34, 9, 3, 0, 11051, 0)], [(25, i_Tape_next, false, 0, [13191, 13192, 13193, 11002, 9]), (37, i_Tape_isWithin, false, 3, [13195, 13197, 1004, 11002, 9]), (50, i_Tape_atNumber, false, 2, [14029, 14030, 14031, 11002, 9]), (54, i_Tape_atSign, false, 1, [14089, 14048, 14049, 11002, 9]), (58, i_Tape_atWord, false, 1, [14038, 13211, 13212, 11002, 9])], [], [], [], [], [], [], [], [], [], [], [(41, i_Str_length, false, 0, [13214, 13215, 13216, 11015]), (46, i_Str_charAt, false, 1, [13224, 13225, 13226, 11015])])
theorem po_Tape : PoolOK "SaidOnce$Tape" P_Tape := ⟨by decide +kernel, by decide +kernel, by decide +kernel, by decide +kernel, fa_c (pv_ok o_Tape_next (by decide +kernel)) (fa_c (pv_ok o_Tape_isWithin (by decide +kernel)) (fa_c (pv_ok o_Tape_atNumber (by decide +kernel)) (fa_c (pv_ok o_Tape_atSign (by decide +kernel)) (fa_c (pv_ok o_Tape_atWord (by decide +kernel)) (fa_n))))), fa_n, fa_n, fa_n, by decide +kernel, by decide +kernel, by decide +kernel, by decide +kernel, fa_c (pw_ok o_Str_length (by decide +kernel)) (fa_c (pw_ok o_Str_charAt (by decide +kernel)) (fa_n))⟩
def P_Sta : Pool := ([(9, 8, 1, 0, 11164, 0), (15, 8, 2, 0, 11168, 0), (18, 8, 3, 0, 11171, 0), (21, 8, 6, 0, 11181, 0), (25, 8, 0, 0, 11160, 0), (29, 8, 4, 0, 11174, 0), (32, 8, 5, 0, 11178, 0), (35, 8, 7, 0, 11184, 0)], [(54, i_Sta_seat, false, 3, [15220, 14126, 14127, 11005, 8])], [], [], [], [(58, 1103515245, 15194)], [], [], [(38, 12227, 12229, 12228, 11014)], [(44, 0, [13078, 13079, 13080, 11027]), (50, 1, [13081, 13082, 13083, 11027])], [], [], [])
theorem po_Sta : PoolOK "SaidOnce$State" P_Sta := ⟨by decide +kernel, by decide +kernel, by decide +kernel, by decide +kernel, fa_c (pv_ok o_Sta_seat (by decide +kernel)) (fa_n), fa_n, fa_n, fa_n, by decide +kernel, by decide +kernel, by decide +kernel, by decide +kernel, fa_n⟩
def P_Set : Pool := ([(9, 7, 1, 0, 11091, 0), (15, 7, 3, 0, 11103, 0), (18, 7, 4, 0, 11107, 0), (21, 7, 6, 0, 11115, 0), (24, 7, 7, 0, 11118, 0), (27, 7, 8, 0, 11121, 0), (30, 7, 9, 0, 11124, 0), (34, 7, 0, 0, 11087, 0), (37, 7, 2, 0, 11097, 0), (40, 7, 5, 0, 11112, 0), (43, 7, 10, 0, 11128, 0)], [], [], [], [], [], [], [], [(46, 13139, 12229, 12228, 11014)], [], [], [], [])
theorem po_Set : PoolOK "SaidOnce$Setup" P_Set := ⟨by decide +kernel, by decide +kernel, by decide +kernel, by decide +kernel, fa_n, fa_n, fa_n, fa_n, by decide +kernel, by decide +kernel, by decide +kernel, by decide +kernel, fa_n⟩
def P_Law : Pool := ([(9, 0, 0, 0, 11210, 0), (15, 0, 1, 0, 11212, 0), (19, 0, 2, 0, 11213, 0), (22, 0, 3, 0, 11214, 0), (25, 0, 4, 0, 11215, 0), (28, 0, 6, 0, 11217, 0), (31, 0, 7, 0, 11218, 0), (34, 0, 5, 0, 11216, 0), (43, 0, 8, 0, 11219, 0), (46, 0, 9, 0, 11221, 0)], [(49, i_Law_holds, false, 1, [13092, 13094, 1003, 11006, 0])], [], [], [], [], [], [], [(37, 13145, 12229, 12228, 11014)], [], [], [], [])
theorem po_Law : PoolOK "SaidOnce$Law" P_Law := ⟨by decide +kernel, by decide +kernel, by decide +kernel, by decide +kernel, fa_c (pv_ok o_Law_holds (by decide +kernel)) (fa_n), fa_n, fa_n, fa_n, by decide +kernel, by decide +kernel, by decide +kernel, by decide +kernel, fa_n⟩
def P_Log : Pool := ([(9, 2, 0, 0, 12010, 0), (15, 2, 1, 0, 12013, 0), (18, 2, 2, 0, 12016, 0), (21, 2, 3, 0, 12019, 0), (24, 2, 4, 0, 12022, 0), (28, 2, 5, 0, 12024, 0)], [(38, i_Log_learntBy, false, 2, [16217, 16218, 16219, 11007, 2]), (48, i_Log_rowBefore, false, 3, [16233, 16214, 16215, 11007, 2])], [(42, i_Int_bitCount, false, 1, [13118, 12231, 11025])], [], [], [], [], [], [(32, 13150, 12229, 12228, 11014)], [], [], [], [])
theorem po_Log : PoolOK "SaidOnce$Log" P_Log := ⟨by decide +kernel, by decide +kernel, by decide +kernel, by decide +kernel, fa_c (pv_ok o_Log_learntBy (by decide +kernel)) (fa_c (pv_ok o_Log_rowBefore (by decide +kernel)) (fa_n)), fa_c (ps_ok o_Int_bitCount (by decide +kernel)) (fa_n), fa_n, fa_n, by decide +kernel, by decide +kernel, by decide +kernel, by decide +kernel, fa_n⟩
def P_LawR : Pool := ([(14, 1, 1, 0, 12143, 0), (20, 1, 2, 0, 12145, 0), (27, 1, 0, 2, 12124, 12125), (63, 1, 3, 0, 12146, 0), (67, 1, 4, 0, 12147, 0), (70, 1, 5, 0, 12148, 0), (115, 9, 6, 1, 11058, 0)], [(24, i_Law_clear, false, 0, [15017, 15018, 15019, 11006, 0]), (33, i_Tape_atWord, false, 1, [13210, 13211, 13212, 11002, 9]), (43, i_Tape_next, false, 0, [14024, 13192, 13193, 11002, 9]), (46, i_Tape_takeNumber, false, 2, [14025, 14026, 14027, 11002, 9]), (52, i_Tape_takeWord, false, 1, [14034, 14035, 14036, 11002, 9]), (55, i_LawR_readCondition, false, 0, [14039, 14041, 1005, 11012, 1]), (59, i_Law_addLine, false, 2, [14092, 14093, 14094, 11006, 0]), (73, i_LawR_readOpenings, false, 0, [14043, 14045, 1006, 11012, 1]), (76, i_LawR_readFact, false, 0, [14056, 14058, 1008, 11012, 1]), (79, i_LawR_readClosings, false, 0, [14077, 14079, 1010, 11012, 1]), (86, i_LawR_settle, false, 1, [14081, 14083, 1011, 11012, 1]), (90, i_LawR_await, false, 1, [14052, 14054, 1007, 11012, 1]), (93, i_Tape_atSign, false, 1, [14047, 14048, 14049, 11002, 9]), (99, i_Tape_takeSign, false, 1, [14085, 14086, 14087, 11002, 9]), (104, i_Law_addCode, false, 1, [14061, 14062, 14063, 11006, 0]), (107, i_LawR_partHere, false, 0, [14065, 14067, 1009, 11012, 1]), (111, i_Tape_atNumber, false, 2, [14069, 14030, 14031, 11002, 9])], [], [], [], [], [], [(31, 0), (39, 1), (41, 2), (50, 3), (82, 13), (84, 14), (97, 4), (102, 5), (118, 6), (120, 7), (122, 8), (124, 9), (126, 10), (128, 11), (130, 12)], [], [], [], [], [])
theorem po_LawR : PoolOK "SaidOnce$LawReader" P_LawR := ⟨by decide +kernel, by decide +kernel, by decide +kernel, by decide +kernel, fa_c (pv_ok o_Law_clear (by decide +kernel)) (fa_c (pv_ok o_Tape_atWord (by decide +kernel)) (fa_c (pv_ok o_Tape_next (by decide +kernel)) (fa_c (pv_ok o_Tape_takeNumber (by decide +kernel)) (fa_c (pv_ok o_Tape_takeWord (by decide +kernel)) (fa_c (pv_ok o_LawR_readCondition (by decide +kernel)) (fa_c (pv_ok o_Law_addLine (by decide +kernel)) (fa_c (pv_ok o_LawR_readOpenings (by decide +kernel)) (fa_c (pv_ok o_LawR_readFact (by decide +kernel)) (fa_c (pv_ok o_LawR_readClosings (by decide +kernel)) (fa_c (pv_ok o_LawR_settle (by decide +kernel)) (fa_c (pv_ok o_LawR_await (by decide +kernel)) (fa_c (pv_ok o_Tape_atSign (by decide +kernel)) (fa_c (pv_ok o_Tape_takeSign (by decide +kernel)) (fa_c (pv_ok o_Law_addCode (by decide +kernel)) (fa_c (pv_ok o_LawR_partHere (by decide +kernel)) (fa_c (pv_ok o_Tape_atNumber (by decide +kernel)) (fa_n))))))))))))))))), fa_n, fa_n, fa_n, by decide +kernel, by decide +kernel, by decide +kernel, by decide +kernel, fa_n⟩
def P_SchR : Pool := ([(14, 5, 1, 0, 12121, 0), (23, 5, 2, 0, 12122, 0), (27, 4, 0, 1, 12043, 0), (34, 4, 1, 1, 12048, 0), (38, 5, 0, 2, 12126, 12127), (50, 7, 0, 1, 11089, 0), (60, 7, 2, 1, 11100, 0), (68, 7, 5, 1, 11113, 0), (99, 7, 1, 1, 11093, 0), (107, 9, 6, 1, 11057, 0), (128, 8, 1, 1, 11165, 0), (130, 7, 3, 1, 11104, 0), (133, 7, 4, 1, 11108, 0), (136, 9, 3, 1, 11052, 0), (139, 7, 6, 1, 11116, 0), (142, 7, 7, 1, 11119, 0), (145, 7, 8, 1, 11122, 0), (148, 8, 0, 1, 11162, 0), (155, 8, 4, 1, 11176, 0), (157, 7, 9, 1, 11125, 0)], [(30, i_Set_copyFrom, false, 1, [13179, 13136, 13137, 11004, 7]), (35, i_Sta_copyFrom, false, 1, [13180, 12224, 12225, 11005, 8]), (44, i_Tape_atWord, false, 1, [14100, 13211, 13212, 11002, 9]), (54, i_SchR_readThing, false, 0, [14101, 14103, 1012, 11011, 5]), (63, i_SchR_readPerson, false, 0, [14108, 14110, 1013, 11011, 5]), (71, i_SchR_readRule, false, 0, [14130, 14132, 1015, 11011, 5]), (76, i_Tape_takeWord, false, 1, [14118, 14035, 14036, 11002, 9]), (79, i_SchR_readSaid, false, 0, [14135, 14137, 2000, 11011, 5]), (84, i_SchR_readAbsent, false, 0, [14143, 14145, 2001, 11011, 5]), (89, i_SchR_readLoud, false, 0, [14148, 14150, 2002, 11011, 5]), (92, i_Tape_next, false, 0, [14105, 13192, 13193, 11002, 9]), (95, i_Tape_takeNumber, false, 2, [14106, 14026, 14027, 11002, 9]), (103, i_Tape_atNumber, false, 2, [14112, 14030, 14031, 11002, 9]), (110, i_Sta_seatedAt, false, 3, [14113, 14114, 14115, 11005, 8]), (120, i_SchR_readThings, false, 0, [14121, 14123, 1014, 11011, 5]), (124, i_Sta_seat, false, 3, [14125, 14126, 14127, 11005, 8])], [], [(152, i_SO_numberOf, false, 2, [14139, 14140, 11001])], [], [], [], [(42, 15), (58, 16), (66, 20), (74, 21), (82, 22), (87, 23), (114, 17), (116, 18), (118, 19)], [], [], [], [], [])
theorem po_SchR : PoolOK "SaidOnce$SchoolReader" P_SchR := ⟨by decide +kernel, by decide +kernel, by decide +kernel, by decide +kernel, fa_c (pv_ok o_Set_copyFrom (by decide +kernel)) (fa_c (pv_ok o_Sta_copyFrom (by decide +kernel)) (fa_c (pv_ok o_Tape_atWord (by decide +kernel)) (fa_c (pv_ok o_SchR_readThing (by decide +kernel)) (fa_c (pv_ok o_SchR_readPerson (by decide +kernel)) (fa_c (pv_ok o_SchR_readRule (by decide +kernel)) (fa_c (pv_ok o_Tape_takeWord (by decide +kernel)) (fa_c (pv_ok o_SchR_readSaid (by decide +kernel)) (fa_c (pv_ok o_SchR_readAbsent (by decide +kernel)) (fa_c (pv_ok o_SchR_readLoud (by decide +kernel)) (fa_c (pv_ok o_Tape_next (by decide +kernel)) (fa_c (pv_ok o_Tape_takeNumber (by decide +kernel)) (fa_c (pv_ok o_Tape_atNumber (by decide +kernel)) (fa_c (pv_ok o_Sta_seatedAt (by decide +kernel)) (fa_c (pv_ok o_SchR_readThings (by decide +kernel)) (fa_c (pv_ok o_Sta_seat (by decide +kernel)) (fa_n)))))))))))))))), fa_n, fa_c (pn_ok o_SO_numberOf (by decide +kernel)) (fa_n), fa_n, by decide +kernel, by decide +kernel, by decide +kernel, by decide +kernel, fa_n⟩
def P_Sch : Pool := ([(12, 4, 0, 0, 12042, 0), (21, 4, 1, 0, 12047, 0), (28, 4, 2, 0, 12051, 0), (35, 4, 3, 0, 12053, 0), (39, 4, 4, 0, 12055, 0), (42, 4, 5, 0, 12056, 0), (59, 7, 0, 1, 11088, 0), (63, 7, 2, 1, 11098, 0), (66, 8, 4, 1, 11175, 0), (69, 8, 0, 1, 11161, 0), (73, 7, 1, 1, 11094, 0), (95, 8, 1, 1, 11167, 0), (106, 7, 3, 1, 11106, 0), (113, 8, 5, 1, 11179, 0), (120, 7, 9, 1, 11126, 0), (123, 0, 8, 1, 11220, 0), (126, 0, 9, 1, 11222, 0), (144, 7, 4, 1, 11111, 0), (147, 8, 7, 1, 11185, 0), (150, 2, 0, 1, 12011, 0), (153, 2, 1, 1, 12014, 0), (156, 2, 2, 1, 12017, 0), (159, 2, 3, 1, 12020, 0), (162, 2, 4, 1, 12023, 0), (166, 2, 5, 1, 12025, 0), (180, 8, 6, 1, 11182, 0)], [(46, i_Set_copyFrom, false, 1, [13135, 13136, 13137, 11004, 7]), (50, i_Sta_copyFrom, false, 1, [13140, 12224, 12225, 11005, 8]), (53, i_Law_copyFrom, false, 1, [13141, 13142, 13143, 11006, 0]), (56, i_Log_copyFrom, false, 1, [13146, 13147, 13148, 11007, 2]), (76, i_Sch_saidWordings, false, 1, [13016, 13017, 13018, 11003, 4]), (80, i_Sch_leftWordings, false, 1, [13012, 13013, 13014, 11003, 4]), (88, i_Sch_countLeft, false, 1, [13100, 13101, 13102, 11003, 4]), (91, i_Sta_isKnown, false, 2, [15060, 15061, 15062, 11005, 8]), (98, i_Sta_isAbsent, false, 1, [13057, 13025, 13026, 11005, 8]), (102, i_Sta_distance, false, 2, [13074, 13075, 13076, 11005, 8]), (109, i_Law_tell, false, 4, [13084, 13085, 13086, 11006, 0]), (116, i_Law_judge, false, 4, [13088, 13089, 13090, 11006, 0]), (129, i_Sch_taken, false, 5, [13070, 13071, 13072, 11003, 4]), (133, i_Sch_takers, false, 4, [15155, 15148, 15149, 11003, 4]), (140, i_Sta_draw, false, 0, [15190, 15191, 15192, 11005, 8]), (170, i_Sch_canTell, false, 2, [15236, 15165, 15166, 11003, 4]), (176, i_Sch_speak, false, 3, [16001, 15186, 15187, 11003, 4]), (183, i_Sch_runTerm, false, 1, [16194, 15233, 15234, 11003, 4]), (186, i_Sch_knowers, false, 1, [16195, 15057, 15058, 11003, 4]), (195, i_Sch_tellAll, false, 1, [13058, 13060, 1001, 11003, 4]), (198, i_Sch_countLeftOf, false, 1, [13096, 13097, 13098, 11003, 4]), (201, i_Sch_isLeft, false, 2, [13062, 13063, 13064, 11003, 4]), (204, i_Sch_tellOne, false, 3, [13066, 13068, 1002, 11003, 4])], [(83, i_Int_bitCount, false, 1, [13104, 12231, 11025]), (173, i_Int_numberOfTrailingZeros, false, 1, [15237, 15238, 11025])], [(137, i_SO_numberOf, false, 2, [15189, 14140, 11001])], [], [], [], [], [(189, 13056, 12229, 12228, 11014)], [], [], [], [])
theorem po_Sch : PoolOK "SaidOnce$School" P_Sch := ⟨by decide +kernel, by decide +kernel, by decide +kernel, by decide +kernel, fa_c (pv_ok o_Set_copyFrom (by decide +kernel)) (fa_c (pv_ok o_Sta_copyFrom (by decide +kernel)) (fa_c (pv_ok o_Law_copyFrom (by decide +kernel)) (fa_c (pv_ok o_Log_copyFrom (by decide +kernel)) (fa_c (pv_ok o_Sch_saidWordings (by decide +kernel)) (fa_c (pv_ok o_Sch_leftWordings (by decide +kernel)) (fa_c (pv_ok o_Sch_countLeft (by decide +kernel)) (fa_c (pv_ok o_Sta_isKnown (by decide +kernel)) (fa_c (pv_ok o_Sta_isAbsent (by decide +kernel)) (fa_c (pv_ok o_Sta_distance (by decide +kernel)) (fa_c (pv_ok o_Law_tell (by decide +kernel)) (fa_c (pv_ok o_Law_judge (by decide +kernel)) (fa_c (pv_ok o_Sch_taken (by decide +kernel)) (fa_c (pv_ok o_Sch_takers (by decide +kernel)) (fa_c (pv_ok o_Sta_draw (by decide +kernel)) (fa_c (pv_ok o_Sch_canTell (by decide +kernel)) (fa_c (pv_ok o_Sch_speak (by decide +kernel)) (fa_c (pv_ok o_Sch_runTerm (by decide +kernel)) (fa_c (pv_ok o_Sch_knowers (by decide +kernel)) (fa_c (pv_ok o_Sch_tellAll (by decide +kernel)) (fa_c (pv_ok o_Sch_countLeftOf (by decide +kernel)) (fa_c (pv_ok o_Sch_isLeft (by decide +kernel)) (fa_c (pv_ok o_Sch_tellOne (by decide +kernel)) (fa_n))))))))))))))))))))))), fa_c (ps_ok o_Int_bitCount (by decide +kernel)) (fa_c (ps_ok o_Int_numberOfTrailingZeros (by decide +kernel)) (fa_n)), fa_c (pn_ok o_SO_numberOf (by decide +kernel)) (fa_n), fa_n, by decide +kernel, by decide +kernel, by decide +kernel, by decide +kernel, fa_n⟩
def P_Pl : Pool := ([(9, 3, 1, 0, 12077, 0), (15, 3, 2, 0, 12078, 0), (19, 3, 0, 0, 12076, 0), (27, 3, 5, 0, 12081, 0), (31, 3, 4, 0, 12080, 0), (72, 3, 3, 0, 12079, 0), (82, 4, 0, 1, 12045, 0), (86, 7, 2, 1, 11099, 0), (91, 7, 1, 1, 11092, 0)], [(23, i_Pl_prepare, false, 1, [16017, 16019, 2008, 11008, 3]), (34, i_Pl_mark, false, 2, [16028, 16030, 2009, 11008, 3]), (44, i_Pl_isBlank, false, 2, [16033, 16035, 2010, 11008, 3]), (48, i_Pl_isMarked, false, 2, [16037, 16039, 2011, 11008, 3]), (51, i_Pl_spread, false, 2, [16041, 16043, 2012, 11008, 3]), (54, i_Pl_fewestSayings, false, 1, [16013, 16014, 16015, 11008, 3]), (57, i_Pl_keepOnlyWhatLeadsThere, false, 1, [16053, 16055, 2015, 11008, 3]), (60, i_Pl_sayableBy, false, 3, [16045, 16047, 2013, 11008, 3]), (64, i_Pl_afterwards, false, 3, [16049, 16051, 2014, 11008, 3]), (67, i_Sch_leftWordings, false, 1, [16021, 13013, 13014, 11003, 4]), (75, i_Sch_present, false, 0, [16022, 13001, 13002, 11003, 4]), (79, i_Sch_knowers, false, 1, [16023, 15057, 15058, 11003, 4]), (94, i_Sch_takers, false, 4, [16024, 15148, 15149, 11003, 4]), (106, i_Pl_leadsOn, false, 2, [16057, 16059, 3000, 11008, 3]), (109, i_Pl_unmark, false, 2, [16061, 16063, 3001, 11008, 3])], [(38, i_Int_bitCount, false, 1, [16032, 12231, 11025]), (98, i_Arr_fill, false, 2, [16025, 16026, 11029])], [], [], [], [(104, (-1), 16065)], [], [], [], [], [], [])
theorem po_Pl : PoolOK "SaidOnce$Planner" P_Pl := ⟨by decide +kernel, by decide +kernel, by decide +kernel, by decide +kernel, fa_c (pv_ok o_Pl_prepare (by decide +kernel)) (fa_c (pv_ok o_Pl_mark (by decide +kernel)) (fa_c (pv_ok o_Pl_isBlank (by decide +kernel)) (fa_c (pv_ok o_Pl_isMarked (by decide +kernel)) (fa_c (pv_ok o_Pl_spread (by decide +kernel)) (fa_c (pv_ok o_Pl_fewestSayings (by decide +kernel)) (fa_c (pv_ok o_Pl_keepOnlyWhatLeadsThere (by decide +kernel)) (fa_c (pv_ok o_Pl_sayableBy (by decide +kernel)) (fa_c (pv_ok o_Pl_afterwards (by decide +kernel)) (fa_c (pv_ok o_Sch_leftWordings (by decide +kernel)) (fa_c (pv_ok o_Sch_present (by decide +kernel)) (fa_c (pv_ok o_Sch_knowers (by decide +kernel)) (fa_c (pv_ok o_Sch_takers (by decide +kernel)) (fa_c (pv_ok o_Pl_leadsOn (by decide +kernel)) (fa_c (pv_ok o_Pl_unmark (by decide +kernel)) (fa_n))))))))))))))), fa_c (ps_ok o_Int_bitCount (by decide +kernel)) (fa_c (ps_ok o_Arr_fill (by decide +kernel)) (fa_n)), fa_n, fa_n, by decide +kernel, by decide +kernel, by decide +kernel, by decide +kernel, fa_n⟩
def P_Se : Pool := ([(9, 6, 1, 0, 12102, 0), (15, 6, 0, 0, 12101, 0), (29, 4, 0, 1, 12044, 0), (39, 4, 1, 1, 12049, 0), (73, 7, 2, 1, 11101, 0), (77, 7, 1, 1, 11095, 0), (112, 7, 4, 1, 11110, 0), (115, 8, 2, 1, 11170, 0), (118, 8, 3, 1, 11173, 0)], [(19, i_Sch_allThings, false, 0, [15068, 13033, 13034, 11003, 4]), (33, i_Set_following, false, 1, [15073, 13041, 13042, 11004, 7]), (43, i_Sta_isKnown, false, 2, [16078, 15061, 15062, 11005, 8]), (48, i_Se_hearFromEach, false, 2, [16079, 16081, 3002, 11009, 6]), (52, i_Sch_present, false, 0, [16084, 13001, 13002, 11003, 4]), (55, i_Sch_knowers, false, 1, [16085, 15057, 15058, 11003, 4]), (58, i_Se_spreadAmong, false, 2, [16086, 16088, 3003, 11009, 6]), (62, i_Sch_leftWordings, false, 1, [17023, 13013, 13014, 11003, 4]), (65, i_Se_heardFromAll, false, 1, [16090, 16092, 3004, 11009, 6]), (80, i_Sch_takers, false, 4, [16083, 15148, 15149, 11003, 4]), (84, i_Sch_hearers, false, 3, [16105, 15152, 15153, 11003, 4]), (88, i_Se_hearersIfSwapped, false, 5, [16106, 16107, 16108, 11009, 6]), (92, i_Sta_swapSeats, false, 2, [16110, 15217, 15218, 11005, 8]), (95, i_Sch_canTell, false, 2, [16174, 15165, 15166, 11003, 4]), (98, i_Sch_countLeft, false, 1, [16175, 13101, 13102, 11003, 4]), (101, i_Se_worthOfCalling, false, 2, [16176, 16177, 16178, 11009, 6]), (104, i_Sch_isLeft, false, 2, [16180, 13063, 13064, 11003, 4]), (121, i_Sta_seatedAt, false, 3, [17009, 14114, 14115, 11005, 8]), (124, i_Sta_seat, false, 3, [17010, 14126, 14127, 11005, 8]), (128, i_Sch_takenNow, false, 4, [17011, 15137, 15138, 11003, 4])], [(25, i_Se_isFewer, false, 2, [15069, 15070, 11009]), (68, i_Int_bitCount, false, 1, [15072, 12231, 11025])], [], [], [], [], [], [], [(107, 1, [16181, 13082, 13083, 11027])], [], [], [])
theorem po_Se : PoolOK "SaidOnce$Search" P_Se := ⟨by decide +kernel, by decide +kernel, by decide +kernel, by decide +kernel, fa_c (pv_ok o_Sch_allThings (by decide +kernel)) (fa_c (pv_ok o_Set_following (by decide +kernel)) (fa_c (pv_ok o_Sta_isKnown (by decide +kernel)) (fa_c (pv_ok o_Se_hearFromEach (by decide +kernel)) (fa_c (pv_ok o_Sch_present (by decide +kernel)) (fa_c (pv_ok o_Sch_knowers (by decide +kernel)) (fa_c (pv_ok o_Se_spreadAmong (by decide +kernel)) (fa_c (pv_ok o_Sch_leftWordings (by decide +kernel)) (fa_c (pv_ok o_Se_heardFromAll (by decide +kernel)) (fa_c (pv_ok o_Sch_takers (by decide +kernel)) (fa_c (pv_ok o_Sch_hearers (by decide +kernel)) (fa_c (pv_ok o_Se_hearersIfSwapped (by decide +kernel)) (fa_c (pv_ok o_Sta_swapSeats (by decide +kernel)) (fa_c (pv_ok o_Sch_canTell (by decide +kernel)) (fa_c (pv_ok o_Sch_countLeft (by decide +kernel)) (fa_c (pv_ok o_Se_worthOfCalling (by decide +kernel)) (fa_c (pv_ok o_Sch_isLeft (by decide +kernel)) (fa_c (pv_ok o_Sta_seatedAt (by decide +kernel)) (fa_c (pv_ok o_Sta_seat (by decide +kernel)) (fa_c (pv_ok o_Sch_takenNow (by decide +kernel)) (fa_n)))))))))))))))))))), fa_c (ps_ok o_Se_isFewer (by decide +kernel)) (fa_c (ps_ok o_Int_bitCount (by decide +kernel)) (fa_n)), fa_n, fa_n, by decide +kernel, by decide +kernel, by decide +kernel, by decide +kernel, fa_n⟩
def P_SO : Pool := ([(10, 10, 0, 0, 12164, 0), (19, 10, 1, 0, 12165, 0), (23, 10, 2, 0, 12166, 0), (31, 10, 3, 0, 12167, 0), (38, 10, 4, 0, 12168, 0), (47, 10, 5, 0, 12169, 0), (54, 10, 6, 0, 12170, 0), (60, 10, 7, 0, 12171, 0), (65, 9, 1, 1, 11046, 0), (91, 4, 0, 1, 12046, 0), (95, 7, 10, 1, 11129, 0), (108, 10, 8, 0, 12172, 0), (116, 4, 2, 1, 12052, 0), (120, 1, 1, 1, 12144, 0), (127, 9, 2, 1, 11050, 0), (133, 7, 1, 1, 11096, 0), (154, 4, 1, 1, 12050, 0), (158, 8, 2, 1, 11169, 0), (161, 8, 3, 1, 11172, 0), (164, 7, 3, 1, 11105, 0), (167, 7, 4, 1, 11109, 0), (170, 8, 1, 1, 11166, 0), (190, 7, 5, 1, 11114, 0), (193, 7, 6, 1, 11117, 0), (196, 7, 7, 1, 11120, 0), (199, 7, 8, 1, 11123, 0), (202, 8, 0, 1, 11163, 0), (246, 8, 4, 1, 11177, 0), (257, 8, 5, 1, 11180, 0), (269, 7, 2, 1, 11102, 0), (296, 7, 0, 1, 11090, 0), (331, 8, 6, 1, 11183, 0), (340, 4, 3, 1, 12054, 0), (344, 8, 7, 1, 11186, 0), (378, 2, 0, 1, 12012, 0), (381, 2, 1, 1, 12015, 0), (384, 2, 2, 1, 12018, 0), (387, 2, 3, 1, 12021, 0), (390, 2, 5, 1, 12026, 0), (399, 10, 9, 0, 12173, 0), (403, 0, 0, 1, 11211, 0), (406, 7, 9, 1, 11127, 0)], [(69, i_Tape_put, false, 1, [12199, 12200, 12201, 11002, 9]), (73, i_SchR_begin, false, 1, [13175, 13176, 13177, 11011, 5]), (80, i_Tape_useUp, false, 0, [14153, 14154, 14155, 11002, 9]), (105, i_SchR_deliver, false, 1, [15002, 15003, 15004, 11011, 5]), (111, i_LawR_begin, false, 0, [15013, 15014, 15015, 11012, 1]), (121, i_Law_copyFrom, false, 1, [15025, 13142, 13143, 11006, 0]), (130, i_SO_needThing, false, 1, [15035, 15037, 2004, 11001, 10]), (137, i_Sch_countLeft, false, 1, [15055, 13101, 13102, 11003, 4]), (140, i_Sch_knowers, false, 1, [15056, 15057, 15058, 11003, 4]), (143, i_Se_sources, false, 1, [15064, 15065, 15066, 11009, 6]), (151, i_SO_needPerson, false, 1, [15097, 15099, 2005, 11001, 10]), (173, i_Sta_isAbsent, false, 1, [13024, 13025, 13026, 11005, 8]), (177, i_Set_following, false, 1, [13040, 13041, 13042, 11004, 7]), (180, i_Sch_present, false, 0, [13000, 13001, 13002, 11003, 4]), (183, i_Sch_knownBy, false, 1, [13004, 13005, 13006, 11003, 4]), (206, i_SO_needTwo, false, 2, [15118, 15120, 2006, 11001, 10]), (210, i_Sta_distance, false, 2, [15123, 13075, 13076, 11005, 8]), (214, i_SO_needSaying, false, 2, [15131, 15133, 2007, 11001, 10]), (217, i_Sch_takenNow, false, 4, [15136, 15137, 15138, 11003, 4]), (221, i_Sch_takers, false, 4, [15147, 15148, 15149, 11003, 4]), (224, i_Sch_hearers, false, 3, [15151, 15152, 15153, 11003, 4]), (228, i_Sch_canTell, false, 2, [15164, 15165, 15166, 11003, 4]), (232, i_Sch_isLeft, false, 2, [15168, 13063, 13064, 11003, 4]), (240, i_SO_remember, false, 0, [12219, 12221, 1000, 11001, 10]), (243, i_Sch_speak, false, 3, [15185, 15186, 15187, 11003, 4]), (249, i_Sta_swapSeats, false, 2, [15216, 15217, 15218, 11005, 8]), (263, i_Sch_runTerm, false, 1, [15232, 15233, 15234, 11003, 4]), (266, i_Sch_leftThings, false, 0, [13008, 13009, 13010, 11003, 4]), (272, i_Sch_allThings, false, 0, [13032, 13033, 13034, 11003, 4]), (275, i_Pl_firstSaying, false, 1, [16009, 16010, 16011, 11008, 3]), (278, i_Pl_fewestSayings, false, 1, [16066, 16014, 16015, 11008, 3]), (281, i_Se_keptFrom, false, 2, [16074, 16075, 16076, 11009, 6]), (284, i_Se_bestSwap, false, 3, [16101, 16102, 16103, 11009, 6]), (287, i_Se_hearersIfSwapped, false, 5, [16111, 16107, 16108, 11009, 6]), (293, i_Tape_byteAt, false, 1, [16120, 16121, 16122, 11002, 9]), (301, i_SO_comesAsTold, false, 3, [16125, 16127, 3005, 11001, 10]), (308, i_Sch_saidThings, false, 0, [13044, 13045, 13046, 11003, 4]), (311, i_Sch_countLast, false, 0, [13052, 13053, 13054, 11003, 4]), (322, i_SO_lead, false, 2, [16152, 16154, 3006, 11001, 10]), (325, i_Se_bestCaller, false, 1, [16170, 16171, 16172, 11009, 6]), (328, i_Se_worthOfCalling, false, 2, [16182, 16177, 16178, 11009, 6]), (334, i_Sch_tryTerm, false, 3, [16190, 16191, 16192, 11003, 4]), (347, i_Log_rowBefore, false, 3, [16213, 16214, 16215, 11007, 2]), (352, i_Log_taughtBy, false, 2, [13114, 13115, 13116, 11007, 2]), (355, i_Sta_isKnown, false, 2, [16228, 15061, 15062, 11005, 8]), (358, i_Log_chainBegin, false, 3, [16229, 16230, 16231, 11007, 2]), (361, i_Log_chainLength, false, 3, [16234, 16235, 16236, 11007, 2]), (364, i_Se_spotFor, false, 4, [17005, 17006, 17007, 11009, 6]), (367, i_Se_fewestSpeakers, false, 1, [17019, 17020, 17021, 11009, 6]), (370, i_SO_rowAgo, false, 1, [17045, 17047, 3007, 11001, 10]), (373, i_Log_learntBy, false, 2, [17049, 16218, 16219, 11007, 2]), (394, i_Sta_copyFrom, false, 1, [12223, 12224, 12225, 11005, 8]), (397, i_Sch_copyFrom, false, 1, [13131, 13132, 13133, 11003, 4]), (414, i_Sch_countLeftOf, false, 1, [13165, 13097, 13098, 11003, 4])], [(252, i_Int_bitCount, false, 1, [12230, 12231, 11025]), (260, i_SO_needTerm, false, 1, [15228, 15229, 11001]), (305, i_SO_numberOf, false, 2, [16129, 14140, 11001]), (314, i_Int_numberOfTrailingZeros, false, 1, [16144, 15238, 11025]), (409, i_Lng_bitCount, false, 1, [13159, 13160, 11030])], [], [(76, i_LineR_readLines, false, 1, [13181, 13182, 13184, 13185, 11010, 13183], ⟨"SaidOnce$SchoolReader", "readLines", "(I)I"⟩, "SaidOnce$LineReader", 5), (113, i_LineR_readLines, false, 1, [15021, 15022, 15023, 13185, 11010, 13183], ⟨"SaidOnce$LawReader", "readLines", "(I)I"⟩, "SaidOnce$LineReader", 1)], [], [], [(86, 24), (102, 25), (114, 26), (148, 28), (186, 30), (188, 31), (237, 34)], [], [(317, 1, [13109, 13082, 13083, 11027]), (337, 2, [16203, 16204, 16205, 11027])], [], [], [])
theorem po_SO : PoolOK "SaidOnce" P_SO := ⟨by decide +kernel, by decide +kernel, by decide +kernel, by decide +kernel, fa_c (pv_ok o_Tape_put (by decide +kernel)) (fa_c (pv_ok o_SchR_begin (by decide +kernel)) (fa_c (pv_ok o_Tape_useUp (by decide +kernel)) (fa_c (pv_ok o_SchR_deliver (by decide +kernel)) (fa_c (pv_ok o_LawR_begin (by decide +kernel)) (fa_c (pv_ok o_Law_copyFrom (by decide +kernel)) (fa_c (pv_ok o_SO_needThing (by decide +kernel)) (fa_c (pv_ok o_Sch_countLeft (by decide +kernel)) (fa_c (pv_ok o_Sch_knowers (by decide +kernel)) (fa_c (pv_ok o_Se_sources (by decide +kernel)) (fa_c (pv_ok o_SO_needPerson (by decide +kernel)) (fa_c (pv_ok o_Sta_isAbsent (by decide +kernel)) (fa_c (pv_ok o_Set_following (by decide +kernel)) (fa_c (pv_ok o_Sch_present (by decide +kernel)) (fa_c (pv_ok o_Sch_knownBy (by decide +kernel)) (fa_c (pv_ok o_SO_needTwo (by decide +kernel)) (fa_c (pv_ok o_Sta_distance (by decide +kernel)) (fa_c (pv_ok o_SO_needSaying (by decide +kernel)) (fa_c (pv_ok o_Sch_takenNow (by decide +kernel)) (fa_c (pv_ok o_Sch_takers (by decide +kernel)) (fa_c (pv_ok o_Sch_hearers (by decide +kernel)) (fa_c (pv_ok o_Sch_canTell (by decide +kernel)) (fa_c (pv_ok o_Sch_isLeft (by decide +kernel)) (fa_c (pv_ok o_SO_remember (by decide +kernel)) (fa_c (pv_ok o_Sch_speak (by decide +kernel)) (fa_c (pv_ok o_Sta_swapSeats (by decide +kernel)) (fa_c (pv_ok o_Sch_runTerm (by decide +kernel)) (fa_c (pv_ok o_Sch_leftThings (by decide +kernel)) (fa_c (pv_ok o_Sch_allThings (by decide +kernel)) (fa_c (pv_ok o_Pl_firstSaying (by decide +kernel)) (fa_c (pv_ok o_Pl_fewestSayings (by decide +kernel)) (fa_c (pv_ok o_Se_keptFrom (by decide +kernel)) (fa_c (pv_ok o_Se_bestSwap (by decide +kernel)) (fa_c (pv_ok o_Se_hearersIfSwapped (by decide +kernel)) (fa_c (pv_ok o_Tape_byteAt (by decide +kernel)) (fa_c (pv_ok o_SO_comesAsTold (by decide +kernel)) (fa_c (pv_ok o_Sch_saidThings (by decide +kernel)) (fa_c (pv_ok o_Sch_countLast (by decide +kernel)) (fa_c (pv_ok o_SO_lead (by decide +kernel)) (fa_c (pv_ok o_Se_bestCaller (by decide +kernel)) (fa_c (pv_ok o_Se_worthOfCalling (by decide +kernel)) (fa_c (pv_ok o_Sch_tryTerm (by decide +kernel)) (fa_c (pv_ok o_Log_rowBefore (by decide +kernel)) (fa_c (pv_ok o_Log_taughtBy (by decide +kernel)) (fa_c (pv_ok o_Sta_isKnown (by decide +kernel)) (fa_c (pv_ok o_Log_chainBegin (by decide +kernel)) (fa_c (pv_ok o_Log_chainLength (by decide +kernel)) (fa_c (pv_ok o_Se_spotFor (by decide +kernel)) (fa_c (pv_ok o_Se_fewestSpeakers (by decide +kernel)) (fa_c (pv_ok o_SO_rowAgo (by decide +kernel)) (fa_c (pv_ok o_Log_learntBy (by decide +kernel)) (fa_c (pv_ok o_Sta_copyFrom (by decide +kernel)) (fa_c (pv_ok o_Sch_copyFrom (by decide +kernel)) (fa_c (pv_ok o_Sch_countLeftOf (by decide +kernel)) (fa_n)))))))))))))))))))))))))))))))))))))))))))))))))))))), fa_c (ps_ok o_Int_bitCount (by decide +kernel)) (fa_c (ps_ok o_SO_needTerm (by decide +kernel)) (fa_c (ps_ok o_SO_numberOf (by decide +kernel)) (fa_c (ps_ok o_Int_numberOfTrailingZeros (by decide +kernel)) (fa_c (ps_ok o_Lng_bitCount (by decide +kernel)) (fa_n))))), fa_n, fa_c (pu_ok o_LineR_readLines (by decide +kernel)) (fa_c (pu_ok o_LineR_readLines (by decide +kernel)) (fa_n)), by decide +kernel, by decide +kernel, by decide +kernel, by decide +kernel, fa_n⟩
def P_Mo : Pool := ([(3, 11, 0, 0, 17069, 0), (13, 11, 1, 0, 17070, 0), (17, 11, 2, 0, 17071, 0), (20, 11, 3, 0, 17072, 0), (23, 11, 4, 0, 17073, 0), (26, 11, 5, 0, 17074, 0), (29, 11, 10, 0, 17079, 0), (33, 11, 13, 0, 17082, 0), (37, 11, 19, 0, 17088, 0), (40, 11, 20, 0, 17089, 0), (43, 11, 22, 0, 17091, 0), (46, 11, 23, 0, 17092, 0), (49, 11, 24, 0, 17093, 0), (53, 11, 25, 0, 17094, 0), (56, 11, 26, 0, 17095, 0), (59, 11, 6, 0, 17075, 0), (63, 11, 7, 0, 17076, 0), (66, 11, 11, 0, 17080, 0), (70, 11, 12, 0, 17081, 0), (104, 11, 14, 0, 17083, 0), (107, 11, 15, 0, 17084, 0), (110, 11, 16, 0, 17085, 0), (116, 11, 17, 0, 17086, 0), (191, 11, 21, 0, 17090, 0), (214, 11, 18, 0, 17087, 0), (258, 11, 8, 0, 17077, 0), (428, 11, 9, 0, 17078, 0)], [(77, i_Mo_of, false, 2, [17239, 18001, 4006, 11013, 11]), (84, i_Mo_things, false, 0, [17218, 17220, 4001, 11013, 11]), (92, i_Mo_noThing, false, 1, [18113, 18115, 5010, 11013, 11]), (96, i_Mo_wordings, false, 1, [18039, 18041, 4014, 11013, 11]), (100, i_Mo_people, false, 0, [17231, 17233, 4004, 11013, 11]), (113, i_Mo_isAt, false, 2, [17191, 17193, 3011, 11013, 11]), (119, i_Mo_blanks, false, 0, [17187, 17189, 3010, 11013, 11]), (131, i_Mo_letters, false, 0, [17199, 17201, 3013, 11013, 11]), (134, i_Mo_isWord, false, 1, [17208, 17210, 3015, 11013, 11]), (138, i_Mo_number, false, 2, [17222, 17224, 4002, 11013, 11]), (141, i_Mo_sitter, false, 2, [17235, 17237, 4005, 11013, 11]), (146, i_Mo_after, false, 3, [18007, 18009, 4007, 11013, 11]), (154, i_Mo_passes, false, 1, [18013, 18015, 4008, 11013, 11]), (157, i_Mo_thingTold, false, 0, [18017, 18019, 4009, 11013, 11]), (160, i_Mo_isFigure, false, 0, [18021, 18023, 4010, 11013, 11]), (164, i_Mo_rules, false, 0, [18030, 18032, 4012, 11013, 11]), (169, i_Mo_readThing, false, 0, [17214, 17216, 4000, 11013, 11]), (174, i_Mo_readPerson, false, 0, [17227, 17229, 4003, 11013, 11]), (179, i_Mo_readRule, false, 0, [18026, 18028, 4011, 11013, 11]), (184, i_Mo_readSaid, false, 0, [18035, 18037, 4013, 11013, 11]), (194, i_Mo_emits, false, 2, [18070, 18072, 5004, 11013, 11]), (208, i_Mo_readPart, false, 0, [18079, 18081, 5006, 11013, 11]), (211, i_Mo_sign, false, 1, [18065, 18067, 5003, 11013, 11]), (217, i_Mo_readCond, true, 0, [18053, 18055, 5000, 11013, 11]), (222, i_Mo_readAtom, true, 0, [18061, 18063, 5002, 11013, 11]), (227, i_Mo_readSum, false, 0, [18075, 18077, 5005, 11013, 11]), (232, i_Mo_readAllOf, true, 0, [18057, 18059, 5001, 11013, 11]), (245, i_Mo_readSchoolLine, false, 0, [17203, 17205, 3014, 11013, 11]), (248, i_Mo_readLawLine, false, 1, [18045, 18047, 4015, 11013, 11]), (251, i_Mo_uses, false, 0, [17183, 17185, 3009, 11013, 11]), (254, i_Mo_readLine, false, 2, [17195, 17197, 3012, 11013, 11]), (261, i_Mo_readAll, false, 1, [17179, 17181, 3008, 11013, 11]), (265, i_Mo_throwsIf, false, 2, [18090, 18092, 5007, 11013, 11]), (276, i_Mo_apartOf, false, 2, [18144, 18146, 6001, 11013, 11]), (279, i_Mo_knows, false, 2, [18150, 18152, 6002, 11013, 11]), (281, i_Mo_factOf, false, 5, [18140, 18142, 6000, 11013, 11]), (285, i_Mo_holdsLine, false, 4, [18136, 18138, 5015, 11013, 11]), (289, i_Mo_sumOf, false, 4, [18132, 18134, 5014, 11013, 11]), (293, i_Mo_isHere, false, 1, [18124, 18126, 5012, 11013, 11]), (296, i_Mo_isHeard, false, 3, [18128, 18130, 5013, 11013, 11]), (299, i_Mo_takenAs, false, 3, [18157, 18159, 6003, 11013, 11]), (303, i_Mo_takes, false, 3, [18120, 18122, 5011, 11013, 11]), (306, i_Mo_noPerson, false, 1, [18102, 18104, 5008, 11013, 11]), (309, i_Mo_noWording, false, 2, [18109, 18111, 5009, 11013, 11]), (315, i_Mo_hearers, false, 3, [18165, 18167, 6004, 11013, 11]), (319, i_Mo_isSaid, false, 2, [18177, 18179, 6006, 11013, 11]), (322, i_Mo_ofRule, false, 2, [18194, 18196, 6010, 11013, 11]), (330, i_Mo_closes, false, 1, [18190, 18192, 6009, 11013, 11]), (333, i_Mo_leftOf, false, 1, [18173, 18175, 6005, 11013, 11]), (336, i_Mo_knowers, false, 1, [18181, 18183, 6007, 11013, 11]), (339, i_Mo_sourcesOf, false, 1, [18185, 18187, 6008, 11013, 11]), (342, i_Mo_lostBy, false, 1, [18202, 18204, 6011, 11013, 11]), (348, i_Mo_draw, false, 1, [18234, 18236, 6015, 11013, 11]), (351, i_Mo_tells, false, 3, [18239, 19001, 7000, 11013, 11]), (355, i_Mo_learns, false, 2, [19004, 19006, 7001, 11013, 11]), (358, i_Mo_ofLog, false, 2, [19008, 19010, 7002, 11013, 11]), (361, i_Mo_canSay, false, 3, [18222, 18224, 6012, 11013, 11]), (364, i_Mo_remembers, false, 0, [18226, 18228, 6013, 11013, 11]), (367, i_Mo_says, false, 2, [18230, 18232, 6014, 11013, 11]), (370, i_Mo_trades, false, 2, [19024, 19026, 7003, 11013, 11]), (373, i_Mo_here, false, 0, [19032, 19034, 7004, 11013, 11]), (376, i_Mo_firstLeft, false, 1, [19044, 19046, 7006, 11013, 11]), (379, i_Mo_sayings, false, 1, [19040, 19042, 7005, 11013, 11]), (382, i_Mo_knownHere, false, 0, [19052, 19054, 7007, 11013, 11]), (385, i_Mo_silentThings, false, 0, [19056, 19058, 7008, 11013, 11]), (394, i_Mo_canStep, false, 4, [19094, 19096, 7013, 11013, 11]), (397, i_Mo_byStep, false, 4, [19098, 19100, 7014, 11013, 11]), (400, i_Mo_laysRight, false, 1, [19076, 19078, 7010, 11013, 11]), (404, i_Mo_saidOf, false, 1, [19083, 19085, 7011, 11013, 11]), (407, i_Mo_leastStep, false, 2, [19090, 19092, 7012, 11013, 11]), (410, i_Mo_plans, false, 1, [19072, 19074, 7009, 11013, 11]), (413, i_Mo_firstStep, false, 1, [19102, 19104, 7015, 11013, 11]), (416, i_Mo_laysTeaches, false, 1, [19110, 19112, 8000, 11013, 11]), (419, i_Mo_spreads, false, 2, [19114, 19116, 8001, 11013, 11]), (422, i_Mo_comesSo, false, 2, [19126, 19128, 8002, 11013, 11]), (425, i_Mo_nothingSaid, false, 1, [19134, 19136, 8003, 11013, 11]), (431, i_Mo_saysAll, false, 2, [19150, 19152, 8006, 11013, 11]), (434, i_Mo_keepsAll, false, 0, [19142, 19144, 8004, 11013, 11]), (437, i_Mo_goesThrough, false, 0, [19146, 19148, 8005, 11013, 11]), (440, i_Mo_bringsBack, false, 0, [19154, 19156, 8007, 11013, 11]), (443, i_Mo_alikeOf, false, 2, [19162, 19164, 8008, 11013, 11]), (449, i_Mo_groupOf, false, 1, [19175, 19177, 8009, 11013, 11]), (452, i_Mo_leftIn, false, 1, [19187, 19189, 8011, 11013, 11]), (455, i_Mo_marginOf, false, 2, [19183, 19185, 8010, 11013, 11]), (458, i_Mo_mostBy, false, 2, [19199, 19201, 8012, 11013, 11]), (461, i_Mo_rowOf, false, 3, [19215, 19217, 8013, 11013, 11]), (464, i_Mo_taught, false, 1, [19223, 19225, 8014, 11013, 11]), (467, i_Mo_isHeardAt, false, 5, [19235, 19237, 8015, 11013, 11]), (471, i_Mo_reached, false, 2, [20003, 20005, 9000, 11013, 11]), (474, i_Mo_takenBy, false, 3, [20015, 20017, 9001, 11013, 11])], [(73, i_Mo_at, false, 2, [18003, 18004, 11013]), (80, i_Mo_has, false, 2, [18154, 18155, 11013]), (88, i_Mo_in, false, 3, [18106, 18107, 11013]), (312, i_Mo_sayingOf, false, 2, [18117, 18118, 11013]), (325, i_Int_bitCount, false, 1, [18189, 12231, 11025]), (388, i_Mo_rightAt, false, 2, [19080, 19081, 11013]), (391, i_Mo_planAt, false, 2, [19087, 19088, 11013]), (446, i_Int_numberOfTrailingZeros, false, 1, [19170, 15238, 11025]), (477, i_Lng_bitCount, false, 1, [20035, 13160, 11030])], [], [], [(103, 1103515245, 18238)], [], [(144, 41), (150, 42), (152, 43), (167, 39), (172, 40), (177, 44), (182, 45), (187, 46), (189, 47), (198, 54), (200, 55), (202, 56), (204, 57), (206, 58), (220, 52), (225, 53), (230, 59), (235, 60), (237, 48), (239, 49), (241, 50), (243, 51)], [], [(268, 0, [18148, 13079, 13080, 11027]), (273, 1, [18149, 13082, 13083, 11027]), (345, 2, [19003, 16204, 16205, 11027])], [], [], [(122, i_Str_length, false, 0, [17212, 13215, 13216, 11015]), (127, i_Str_charAt, false, 1, [17213, 13225, 13226, 11015])])
theorem po_Mo : PoolOK "SaidOnceModel" P_Mo := ⟨by decide +kernel, by decide +kernel, by decide +kernel, by decide +kernel, fa_c (pv_ok o_Mo_of (by decide +kernel)) (fa_c (pv_ok o_Mo_things (by decide +kernel)) (fa_c (pv_ok o_Mo_noThing (by decide +kernel)) (fa_c (pv_ok o_Mo_wordings (by decide +kernel)) (fa_c (pv_ok o_Mo_people (by decide +kernel)) (fa_c (pv_ok o_Mo_isAt (by decide +kernel)) (fa_c (pv_ok o_Mo_blanks (by decide +kernel)) (fa_c (pv_ok o_Mo_letters (by decide +kernel)) (fa_c (pv_ok o_Mo_isWord (by decide +kernel)) (fa_c (pv_ok o_Mo_number (by decide +kernel)) (fa_c (pv_ok o_Mo_sitter (by decide +kernel)) (fa_c (pv_ok o_Mo_after (by decide +kernel)) (fa_c (pv_ok o_Mo_passes (by decide +kernel)) (fa_c (pv_ok o_Mo_thingTold (by decide +kernel)) (fa_c (pv_ok o_Mo_isFigure (by decide +kernel)) (fa_c (pv_ok o_Mo_rules (by decide +kernel)) (fa_c (pv_ok o_Mo_readThing (by decide +kernel)) (fa_c (pv_ok o_Mo_readPerson (by decide +kernel)) (fa_c (pv_ok o_Mo_readRule (by decide +kernel)) (fa_c (pv_ok o_Mo_readSaid (by decide +kernel)) (fa_c (pv_ok o_Mo_emits (by decide +kernel)) (fa_c (pv_ok o_Mo_readPart (by decide +kernel)) (fa_c (pv_ok o_Mo_sign (by decide +kernel)) (fa_c (pv_ok o_Mo_readCond (by decide +kernel)) (fa_c (pv_ok o_Mo_readAtom (by decide +kernel)) (fa_c (pv_ok o_Mo_readSum (by decide +kernel)) (fa_c (pv_ok o_Mo_readAllOf (by decide +kernel)) (fa_c (pv_ok o_Mo_readSchoolLine (by decide +kernel)) (fa_c (pv_ok o_Mo_readLawLine (by decide +kernel)) (fa_c (pv_ok o_Mo_uses (by decide +kernel)) (fa_c (pv_ok o_Mo_readLine (by decide +kernel)) (fa_c (pv_ok o_Mo_readAll (by decide +kernel)) (fa_c (pv_ok o_Mo_throwsIf (by decide +kernel)) (fa_c (pv_ok o_Mo_apartOf (by decide +kernel)) (fa_c (pv_ok o_Mo_knows (by decide +kernel)) (fa_c (pv_ok o_Mo_factOf (by decide +kernel)) (fa_c (pv_ok o_Mo_holdsLine (by decide +kernel)) (fa_c (pv_ok o_Mo_sumOf (by decide +kernel)) (fa_c (pv_ok o_Mo_isHere (by decide +kernel)) (fa_c (pv_ok o_Mo_isHeard (by decide +kernel)) (fa_c (pv_ok o_Mo_takenAs (by decide +kernel)) (fa_c (pv_ok o_Mo_takes (by decide +kernel)) (fa_c (pv_ok o_Mo_noPerson (by decide +kernel)) (fa_c (pv_ok o_Mo_noWording (by decide +kernel)) (fa_c (pv_ok o_Mo_hearers (by decide +kernel)) (fa_c (pv_ok o_Mo_isSaid (by decide +kernel)) (fa_c (pv_ok o_Mo_ofRule (by decide +kernel)) (fa_c (pv_ok o_Mo_closes (by decide +kernel)) (fa_c (pv_ok o_Mo_leftOf (by decide +kernel)) (fa_c (pv_ok o_Mo_knowers (by decide +kernel)) (fa_c (pv_ok o_Mo_sourcesOf (by decide +kernel)) (fa_c (pv_ok o_Mo_lostBy (by decide +kernel)) (fa_c (pv_ok o_Mo_draw (by decide +kernel)) (fa_c (pv_ok o_Mo_tells (by decide +kernel)) (fa_c (pv_ok o_Mo_learns (by decide +kernel)) (fa_c (pv_ok o_Mo_ofLog (by decide +kernel)) (fa_c (pv_ok o_Mo_canSay (by decide +kernel)) (fa_c (pv_ok o_Mo_remembers (by decide +kernel)) (fa_c (pv_ok o_Mo_says (by decide +kernel)) (fa_c (pv_ok o_Mo_trades (by decide +kernel)) (fa_c (pv_ok o_Mo_here (by decide +kernel)) (fa_c (pv_ok o_Mo_firstLeft (by decide +kernel)) (fa_c (pv_ok o_Mo_sayings (by decide +kernel)) (fa_c (pv_ok o_Mo_knownHere (by decide +kernel)) (fa_c (pv_ok o_Mo_silentThings (by decide +kernel)) (fa_c (pv_ok o_Mo_canStep (by decide +kernel)) (fa_c (pv_ok o_Mo_byStep (by decide +kernel)) (fa_c (pv_ok o_Mo_laysRight (by decide +kernel)) (fa_c (pv_ok o_Mo_saidOf (by decide +kernel)) (fa_c (pv_ok o_Mo_leastStep (by decide +kernel)) (fa_c (pv_ok o_Mo_plans (by decide +kernel)) (fa_c (pv_ok o_Mo_firstStep (by decide +kernel)) (fa_c (pv_ok o_Mo_laysTeaches (by decide +kernel)) (fa_c (pv_ok o_Mo_spreads (by decide +kernel)) (fa_c (pv_ok o_Mo_comesSo (by decide +kernel)) (fa_c (pv_ok o_Mo_nothingSaid (by decide +kernel)) (fa_c (pv_ok o_Mo_saysAll (by decide +kernel)) (fa_c (pv_ok o_Mo_keepsAll (by decide +kernel)) (fa_c (pv_ok o_Mo_goesThrough (by decide +kernel)) (fa_c (pv_ok o_Mo_bringsBack (by decide +kernel)) (fa_c (pv_ok o_Mo_alikeOf (by decide +kernel)) (fa_c (pv_ok o_Mo_groupOf (by decide +kernel)) (fa_c (pv_ok o_Mo_leftIn (by decide +kernel)) (fa_c (pv_ok o_Mo_marginOf (by decide +kernel)) (fa_c (pv_ok o_Mo_mostBy (by decide +kernel)) (fa_c (pv_ok o_Mo_rowOf (by decide +kernel)) (fa_c (pv_ok o_Mo_taught (by decide +kernel)) (fa_c (pv_ok o_Mo_isHeardAt (by decide +kernel)) (fa_c (pv_ok o_Mo_reached (by decide +kernel)) (fa_c (pv_ok o_Mo_takenBy (by decide +kernel)) (fa_n)))))))))))))))))))))))))))))))))))))))))))))))))))))))))))))))))))))))))))))))))))))))))), fa_c (ps_ok o_Mo_at (by decide +kernel)) (fa_c (ps_ok o_Mo_has (by decide +kernel)) (fa_c (ps_ok o_Mo_in (by decide +kernel)) (fa_c (ps_ok o_Mo_sayingOf (by decide +kernel)) (fa_c (ps_ok o_Int_bitCount (by decide +kernel)) (fa_c (ps_ok o_Mo_rightAt (by decide +kernel)) (fa_c (ps_ok o_Mo_planAt (by decide +kernel)) (fa_c (ps_ok o_Int_numberOfTrailingZeros (by decide +kernel)) (fa_c (ps_ok o_Lng_bitCount (by decide +kernel)) (fa_n))))))))), fa_n, fa_n, by decide +kernel, by decide +kernel, by decide +kernel, by decide +kernel, fa_c (pw_ok o_Str_length (by decide +kernel)) (fa_c (pw_ok o_Str_charAt (by decide +kernel)) (fa_n))⟩
def P_L : Pool := ([], [(7, i_SO_school, false, 0, [13171, 13172, 13173, 11001, 10]), (17, i_SO_law, false, 0, [15009, 15010, 15011, 11001, 10]), (20, i_SO_thing, false, 2, [15031, 15032, 15033, 11001, 10]), (28, i_SO_person, false, 2, [15093, 15094, 15095, 11001, 10]), (31, i_SO_rule, false, 2, [15106, 15107, 15108, 11001, 10]), (34, i_SO_apart, false, 2, [15114, 15115, 15116, 11001, 10]), (37, i_SO_hears, false, 4, [15127, 15128, 15129, 11001, 10]), (41, i_SO_audience, false, 4, [15143, 15144, 15145, 11001, 10]), (45, i_SO_say, false, 3, [15160, 15161, 15162, 11001, 10]), (51, i_SO_think, false, 1, [15198, 15199, 15200, 11001, 10]), (55, i_SO_away, false, 2, [15205, 15206, 15207, 11001, 10]), (59, i_SO_change, false, 2, [15212, 15213, 15214, 11001, 10]), (62, i_SO_term, false, 1, [15224, 15225, 15226, 11001, 10]), (65, i_SO_plan, false, 2, [16005, 16006, 16007, 11001, 10]), (69, i_SO_kept, false, 2, [16070, 16071, 16072, 11001, 10]), (72, i_SO_seats, false, 4, [16097, 16098, 16099, 11001, 10]), (75, i_SO_what, false, 1, [16115, 16116, 16117, 11001, 10]), (79, i_SO_alike, false, 2, [16133, 16134, 16135, 11001, 10]), (82, i_SO_ask, false, 2, [16140, 16141, 16142, 11001, 10]), (85, i_SO_keeps, false, 2, [16148, 16149, 16150, 11001, 10]), (89, i_SO_margin, false, 2, [16159, 16160, 16161, 11001, 10]), (92, i_SO_call, false, 2, [16166, 16167, 16168, 11001, 10]), (95, i_SO_trial, false, 2, [16186, 16187, 16188, 11001, 10]), (98, i_SO_span, false, 2, [16199, 16200, 16201, 11001, 10]), (101, i_SO_how, false, 2, [16209, 16210, 16211, 11001, 10]), (104, i_SO_chain, false, 3, [16224, 16225, 16226, 11001, 10]), (108, i_SO_spot, false, 4, [17001, 17002, 17003, 11001, 10]), (111, i_SO_speakers, false, 1, [17015, 17016, 17017, 11001, 10]), (114, i_SO_between, false, 2, [17027, 17028, 17029, 11001, 10]), (117, i_SO_echo, false, 4, [17034, 17035, 17036, 11001, 10]), (120, i_SO_learnt, false, 2, [17041, 17042, 17043, 11001, 10]), (123, i_SO_log, false, 2, [17053, 17054, 17055, 11001, 10])], [], [], [], [], [], [], [], [], [], [], [])
theorem po_L : PoolOK "SaidOnceLaw" P_L := ⟨by decide +kernel, by decide +kernel, by decide +kernel, by decide +kernel, fa_c (pv_ok o_SO_school (by decide +kernel)) (fa_c (pv_ok o_SO_law (by decide +kernel)) (fa_c (pv_ok o_SO_thing (by decide +kernel)) (fa_c (pv_ok o_SO_person (by decide +kernel)) (fa_c (pv_ok o_SO_rule (by decide +kernel)) (fa_c (pv_ok o_SO_apart (by decide +kernel)) (fa_c (pv_ok o_SO_hears (by decide +kernel)) (fa_c (pv_ok o_SO_audience (by decide +kernel)) (fa_c (pv_ok o_SO_say (by decide +kernel)) (fa_c (pv_ok o_SO_think (by decide +kernel)) (fa_c (pv_ok o_SO_away (by decide +kernel)) (fa_c (pv_ok o_SO_change (by decide +kernel)) (fa_c (pv_ok o_SO_term (by decide +kernel)) (fa_c (pv_ok o_SO_plan (by decide +kernel)) (fa_c (pv_ok o_SO_kept (by decide +kernel)) (fa_c (pv_ok o_SO_seats (by decide +kernel)) (fa_c (pv_ok o_SO_what (by decide +kernel)) (fa_c (pv_ok o_SO_alike (by decide +kernel)) (fa_c (pv_ok o_SO_ask (by decide +kernel)) (fa_c (pv_ok o_SO_keeps (by decide +kernel)) (fa_c (pv_ok o_SO_margin (by decide +kernel)) (fa_c (pv_ok o_SO_call (by decide +kernel)) (fa_c (pv_ok o_SO_trial (by decide +kernel)) (fa_c (pv_ok o_SO_span (by decide +kernel)) (fa_c (pv_ok o_SO_how (by decide +kernel)) (fa_c (pv_ok o_SO_chain (by decide +kernel)) (fa_c (pv_ok o_SO_spot (by decide +kernel)) (fa_c (pv_ok o_SO_speakers (by decide +kernel)) (fa_c (pv_ok o_SO_between (by decide +kernel)) (fa_c (pv_ok o_SO_echo (by decide +kernel)) (fa_c (pv_ok o_SO_learnt (by decide +kernel)) (fa_c (pv_ok o_SO_log (by decide +kernel)) (fa_n)))))))))))))))))))))))))))))))), fa_n, fa_n, fa_n, by decide +kernel, by decide +kernel, by decide +kernel, by decide +kernel, fa_n⟩
def P_Int : Pool := ([], [], [], [], [], [(264, 65536, 16000), (265, 1431655765, 12233), (266, 858993459, 12234), (267, 252645135, 12235)], [], [], [], [], [], [], [])
theorem po_Int : PoolOK "java/lang/Integer" P_Int := ⟨by decide +kernel, by decide +kernel, by decide +kernel, by decide +kernel, fa_n, fa_n, fa_n, fa_n, by decide +kernel, by decide +kernel, by decide +kernel, by decide +kernel, fa_n⟩
def P_Lng : Pool := ([], [], [], [], [], [], [(314, 6148914691236517205, 13162), (316, 3689348814741910323, 13163), (318, 1085102592571150095, 13164)], [], [], [], [], [], [])
theorem po_Lng : PoolOK "java/lang/Long" P_Lng := ⟨by decide +kernel, by decide +kernel, by decide +kernel, by decide +kernel, fa_n, fa_n, fa_n, fa_n, by decide +kernel, by decide +kernel, by decide +kernel, by decide +kernel, fa_n⟩
def P_Arr : Pool := ([], [], [], [], [], [], [], [], [], [], [], [], [])
theorem po_Arr : PoolOK "java/util/Arrays" P_Arr := ⟨by decide +kernel, by decide +kernel, by decide +kernel, by decide +kernel, fa_n, fa_n, fa_n, fa_n, by decide +kernel, by decide +kernel, by decide +kernel, by decide +kernel, fa_n⟩
def P_Str : Pool := ([], [], [(495, i_StrL_charAt, false, 2, [13232, 13233, 11016]), (1059, i_Pre_checkIndex, false, 3, [14000, 14001, 11017])], [], [], [], [], [], [], [], [(38, 0, 13222), (1053, 1, 13238)], [(9, 0, 20056), (15, 1, 20057)], [(335, i_Str_coder, false, 0, [13218, 13219, 13220, 11015]), (492, i_Str_isLatin1, false, 0, [13228, 13229, 13230, 11015])])
theorem po_Str : PoolOK "java/lang/String" P_Str := ⟨by decide +kernel, by decide +kernel, by decide +kernel, by decide +kernel, fa_n, fa_c (ps_ok o_StrL_charAt (by decide +kernel)) (fa_c (ps_ok o_Pre_checkIndex (by decide +kernel)) (fa_n)), fa_n, fa_n, by decide +kernel, by decide +kernel, by decide +kernel, by decide +kernel, fa_c (pw_ok o_Str_coder (by decide +kernel)) (fa_c (pw_ok o_Str_isLatin1 (by decide +kernel)) (fa_n))⟩
def P_StrL : Pool := ([], [], [(9, i_Str_checkIndex, false, 2, [13235, 13236, 11015])], [], [], [], [], [], [], [], [], [], [])
theorem po_StrL : PoolOK "java/lang/StringLatin1" P_StrL := ⟨by decide +kernel, by decide +kernel, by decide +kernel, by decide +kernel, fa_n, fa_c (ps_ok o_Str_checkIndex (by decide +kernel)) (fa_n), fa_n, fa_n, by decide +kernel, by decide +kernel, by decide +kernel, by decide +kernel, fa_n⟩
def P_Pre : Pool := ([], [], [], [], [], [], [], [], [], [], [], [], [])
theorem po_Pre : PoolOK "jdk/internal/util/Preconditions" P_Pre := ⟨by decide +kernel, by decide +kernel, by decide +kernel, by decide +kernel, fa_n, fa_n, fa_n, fa_n, by decide +kernel, by decide +kernel, by decide +kernel, by decide +kernel, fa_n⟩
def P_LineRS : Pool := ([(9, 5, 0, 0, 12123, 0), (31, 9, 4, 1, 11053, 0), (35, 9, 2, 1, 11049, 0)], [(15, i_Tape_open, false, 0, [13187, 13188, 13189, 11002, 9]), (20, i_Tape_atEnd, false, 0, [13199, 13200, 13201, 11002, 9]), (27, i_Tape_takeSign, false, 1, [14152, 14086, 14087, 11002, 9])], [], [], [(24, i_SchR_readLine, false, 0, [13203, 13205, 14096, 14097, 11011, 13204], ⟨"SaidOnce$LineReader", "readLine", "()Z"⟩, "SaidOnce$LineReader", 5)], [], [], [], [], [], [], [], [])
theorem po_LineRS : PoolOK "SaidOnce$LineReader" P_LineRS := ⟨by decide +kernel, by decide +kernel, by decide +kernel, by decide +kernel, fa_c (pv_ok o_Tape_open (by decide +kernel)) (fa_c (pv_ok o_Tape_atEnd (by decide +kernel)) (fa_c (pv_ok o_Tape_takeSign (by decide +kernel)) (fa_n))), fa_n, fa_n, fa_c (pu_ok o_SchR_readLine (by decide +kernel)) (fa_n), by decide +kernel, by decide +kernel, by decide +kernel, by decide +kernel, fa_n⟩
def P_LineRL : Pool := ([(9, 1, 0, 0, 12123, 0), (31, 9, 4, 1, 11053, 0), (35, 9, 2, 1, 11049, 0)], [(15, i_Tape_open, false, 0, [13187, 13188, 13189, 11002, 9]), (20, i_Tape_atEnd, false, 0, [13199, 13200, 13201, 11002, 9]), (27, i_Tape_takeSign, false, 1, [14152, 14086, 14087, 11002, 9])], [], [], [(24, i_LawR_readLine, false, 0, [13203, 13205, 13206, 13207, 11012, 13204], ⟨"SaidOnce$LineReader", "readLine", "()Z"⟩, "SaidOnce$LineReader", 1)], [], [], [], [], [], [], [], [])
theorem po_LineRL : PoolOK "SaidOnce$LineReader" P_LineRL := ⟨by decide +kernel, by decide +kernel, by decide +kernel, by decide +kernel, fa_c (pv_ok o_Tape_open (by decide +kernel)) (fa_c (pv_ok o_Tape_atEnd (by decide +kernel)) (fa_c (pv_ok o_Tape_takeSign (by decide +kernel)) (fa_n))), fa_n, fa_n, fa_c (pu_ok o_LawR_readLine (by decide +kernel)) (fa_n), by decide +kernel, by decide +kernel, by decide +kernel, by decide +kernel, fa_n⟩
/-! a table held against the code -/
def tabB (mi : MI) (t : List (Nat × Instr × Nat)) : Bool := t.all (fun q => decide (decode (miC mi) q.1 = .ok q.2) && okI mi q.1 q.2.1 q.2.2)
theorem tab_ok {mi : MI} {M : MT} (h : tabB mi M.1 = true) : TabOK mi M := by
  intro q hq
  have := List.all_eq_true.mp h q hq
  simp only [Bool.and_eq_true, decide_eq_true_eq] at this
  exact this
end
section
/-! tables, by program (wip/whole/gen_tab.py) -/
def t_Tape_put : List (Nat × Instr × Nat) := [(0, .bipush 24, 2), (2, .istore_n 2, 1), (3, .iload_n 2, 1), (4, .ifCond .lt 42, 3), (7, .aload_n 0, 1), (8, .getfield 19, 3), (11, .sipush 400, 3), (14, .if_icmp .ge 26, 3), (17, .aload_n 0, 1), (18, .getfield 9, 3), (21, .aload_n 0, 1), (22, .getfield 19, 3), (25, .iload_n 1, 1), (26, .iload_n 2, 1), (27, .ishr, 1), (28, .i2b, 1), (29, .bastore, 1), (30, .aload_n 0, 1), (31, .dup, 1), (32, .getfield 19, 3), (35, .iconst 1, 1), (36, .iadd, 1), (37, .putfield 19, 3), (40, .iinc 2 (-8), 3), (43, .goto (-40), 3), (46, .return_, 1)]
def M_Tape_put : MT := (t_Tape_put, P_Tape, [], [])
theorem T_Tape_put : TabOK i_Tape_put M_Tape_put := tab_ok (by decide +kernel)
theorem H_Tape_put : ThrOK i_Tape_put M_Tape_put := ⟨fa_n, rfl, fa_n⟩
def t_Sta_copyFrom : List (Nat × Instr × Nat) := [(0, .aload_n 0, 1), (1, .aload_n 1, 1), (2, .getfield 25, 3), (5, .putfield 25, 3), (8, .aload_n 0, 1), (9, .aload_n 1, 1), (10, .getfield 29, 3), (13, .putfield 29, 3), (16, .aload_n 0, 1), (17, .aload_n 1, 1), (18, .getfield 32, 3), (21, .putfield 32, 3), (24, .aload_n 0, 1), (25, .aload_n 1, 1), (26, .getfield 21, 3), (29, .putfield 21, 3), (32, .aload_n 0, 1), (33, .aload_n 1, 1), (34, .getfield 35, 3), (37, .putfield 35, 3), (40, .aload_n 1, 1), (41, .getfield 9, 3), (44, .iconst 0, 1), (45, .aload_n 0, 1), (46, .getfield 9, 3), (49, .iconst 0, 1), (50, .bipush 10, 2), (52, .invokestatic 38, 3), (55, .aload_n 1, 1), (56, .getfield 15, 3), (59, .iconst 0, 1), (60, .aload_n 0, 1), (61, .getfield 15, 3), (64, .iconst 0, 1), (65, .bipush 10, 2), (67, .invokestatic 38, 3), (70, .aload_n 1, 1), (71, .getfield 18, 3), (74, .iconst 0, 1), (75, .aload_n 0, 1), (76, .getfield 18, 3), (79, .iconst 0, 1), (80, .bipush 10, 2), (82, .invokestatic 38, 3), (85, .return_, 1)]
def M_Sta_copyFrom : MT := (t_Sta_copyFrom, P_Sta, [], [])
theorem T_Sta_copyFrom : TabOK i_Sta_copyFrom M_Sta_copyFrom := tab_ok (by decide +kernel)
theorem H_Sta_copyFrom : ThrOK i_Sta_copyFrom M_Sta_copyFrom := ⟨fa_n, rfl, fa_n⟩
def t_Int_bitCount : List (Nat × Instr × Nat) := [(0, .iload_n 0, 1), (1, .iload_n 0, 1), (2, .iconst 1, 1), (3, .iushr, 1), (4, .ldc_w 265, 3), (7, .iand, 1), (8, .isub, 1), (9, .istore_n 0, 1), (10, .iload_n 0, 1), (11, .ldc_w 266, 3), (14, .iand, 1), (15, .iload_n 0, 1), (16, .iconst 2, 1), (17, .iushr, 1), (18, .ldc_w 266, 3), (21, .iand, 1), (22, .iadd, 1), (23, .istore_n 0, 1), (24, .iload_n 0, 1), (25, .iload_n 0, 1), (26, .iconst 4, 1), (27, .iushr, 1), (28, .iadd, 1), (29, .ldc_w 267, 3), (32, .iand, 1), (33, .istore_n 0, 1), (34, .iload_n 0, 1), (35, .iload_n 0, 1), (36, .bipush 8, 2), (38, .iushr, 1), (39, .iadd, 1), (40, .istore_n 0, 1), (41, .iload_n 0, 1), (42, .iload_n 0, 1), (43, .bipush 16, 2), (45, .iushr, 1), (46, .iadd, 1), (47, .istore_n 0, 1), (48, .iload_n 0, 1), (49, .bipush 63, 2), (51, .iand, 1), (52, .ireturn, 1)]
def M_Int_bitCount : MT := (t_Int_bitCount, P_Int, [], [])
theorem T_Int_bitCount : TabOK i_Int_bitCount M_Int_bitCount := tab_ok (by decide +kernel)
theorem H_Int_bitCount : ThrOK i_Int_bitCount M_Int_bitCount := ⟨fa_n, rfl, fa_n⟩
def t_Sta_isAbsent : List (Nat × Instr × Nat) := [(0, .aload_n 0, 1), (1, .getfield 29, 3), (4, .iload_n 1, 1), (5, .ishr, 1), (6, .iconst 1, 1), (7, .iand, 1), (8, .ifCond .eq 7, 3), (11, .iconst 1, 1), (12, .goto 4, 3), (15, .iconst 0, 1), (16, .ireturn, 1)]
def M_Sta_isAbsent : MT := (t_Sta_isAbsent, P_Sta, [], [])
theorem T_Sta_isAbsent : TabOK i_Sta_isAbsent M_Sta_isAbsent := tab_ok (by decide +kernel)
theorem H_Sta_isAbsent : ThrOK i_Sta_isAbsent M_Sta_isAbsent := ⟨fa_n, rfl, fa_n⟩
def t_Set_following : List (Nat × Instr × Nat) := [(0, .iload_n 1, 1), (1, .istore_n 2, 1), (2, .iconst 0, 1), (3, .istore_n 3, 1), (4, .iload_n 3, 1), (5, .bipush 10, 2), (7, .if_icmp .ge 85, 3), (10, .iload_n 2, 1), (11, .istore 4, 2), (13, .iconst 0, 1), (14, .istore 5, 2), (16, .iload 5, 2), (18, .aload_n 0, 1), (19, .getfield 40, 3), (22, .if_icmp .ge 55, 3), (25, .iconst 1, 1), (26, .aload_n 0, 1), (27, .getfield 21, 3), (30, .iload 5, 2), (32, .iaload, 1), (33, .ishl, 1), (34, .iconst 1, 1), (35, .aload_n 0, 1), (36, .getfield 24, 3), (39, .iload 5, 2), (41, .iaload, 1), (42, .ishl, 1), (43, .ior, 1), (44, .istore 6, 2), (46, .iload_n 2, 1), (47, .iload_n 2, 1), (48, .iload 6, 2), (50, .iand, 1), (51, .iload 6, 2), (53, .if_icmp .ne 15, 3), (56, .iconst 1, 1), (57, .aload_n 0, 1), (58, .getfield 27, 3), (61, .iload 5, 2), (63, .iaload, 1), (64, .ishl, 1), (65, .goto 4, 3), (68, .iconst 0, 1), (69, .ior, 1), (70, .istore_n 2, 1), (71, .iinc 5 1, 3), (74, .goto (-58), 3), (77, .iload_n 2, 1), (78, .iload 4, 2), (80, .if_icmp .ne 6, 3), (83, .goto 9, 3), (86, .iinc 3 1, 3), (89, .goto (-85), 3), (92, .iload_n 2, 1), (93, .ireturn, 1)]
def M_Set_following : MT := (t_Set_following, P_Set, [], [])
theorem T_Set_following : TabOK i_Set_following M_Set_following := tab_ok (by decide +kernel)
theorem H_Set_following : ThrOK i_Set_following M_Set_following := ⟨fa_n, rfl, fa_n⟩
def t_Sta_distance : List (Nat × Instr × Nat) := [(0, .aload_n 0, 1), (1, .getfield 15, 3), (4, .iload_n 1, 1), (5, .iaload, 1), (6, .aload_n 0, 1), (7, .getfield 15, 3), (10, .iload_n 2, 1), (11, .iaload, 1), (12, .isub, 1), (13, .invokestatic 44, 3), (16, .aload_n 0, 1), (17, .getfield 18, 3), (20, .iload_n 1, 1), (21, .iaload, 1), (22, .aload_n 0, 1), (23, .getfield 18, 3), (26, .iload_n 2, 1), (27, .iaload, 1), (28, .isub, 1), (29, .invokestatic 44, 3), (32, .invokestatic 50, 3), (35, .ireturn, 1)]
def M_Sta_distance : MT := (t_Sta_distance, P_Sta, [], [])
theorem T_Sta_distance : TabOK i_Sta_distance M_Sta_distance := tab_ok (by decide +kernel)
theorem H_Sta_distance : ThrOK i_Sta_distance M_Sta_distance := ⟨fa_n, rfl, fa_n⟩
def t_Law_tell : List (Nat × Instr × Nat) := [(0, .aload_n 0, 1), (1, .getfield 28, 3), (4, .iconst 0, 1), (5, .iload_n 2, 1), (6, .iastore, 1), (7, .aload_n 0, 1), (8, .getfield 28, 3), (11, .iconst 1, 1), (12, .iload_n 3, 1), (13, .iastore, 1), (14, .aload_n 0, 1), (15, .getfield 28, 3), (18, .iconst 2, 1), (19, .iload_n 1, 1), (20, .iastore, 1), (21, .aload_n 0, 1), (22, .getfield 28, 3), (25, .iconst 3, 1), (26, .iload 4, 2), (28, .iastore, 1), (29, .return_, 1)]
def M_Law_tell : MT := (t_Law_tell, P_Law, [], [])
theorem T_Law_tell : TabOK i_Law_tell M_Law_tell := tab_ok (by decide +kernel)
theorem H_Law_tell : ThrOK i_Law_tell M_Law_tell := ⟨fa_n, rfl, fa_n⟩
def t_Law_judge : List (Nat × Instr × Nat) := [(0, .aload_n 0, 1), (1, .getfield 28, 3), (4, .iconst 4, 1), (5, .iload_n 1, 1), (6, .iastore, 1), (7, .aload_n 0, 1), (8, .getfield 28, 3), (11, .iconst 5, 1), (12, .iload_n 2, 1), (13, .iastore, 1), (14, .aload_n 0, 1), (15, .getfield 28, 3), (18, .bipush 6, 2), (20, .iload_n 3, 1), (21, .iastore, 1), (22, .aload_n 0, 1), (23, .getfield 28, 3), (26, .bipush 7, 2), (28, .iload 4, 2), (30, .ifCond .eq 7, 3), (33, .iconst 1, 1), (34, .goto 4, 3), (37, .iconst 0, 1), (38, .iastore, 1), (39, .aload_n 0, 1), (40, .iconst 0, 1), (41, .putfield 43, 3), (44, .aload_n 0, 1), (45, .iconst 0, 1), (46, .putfield 46, 3), (49, .iconst 0, 1), (50, .istore 5, 2), (52, .iload 5, 2), (54, .aload_n 0, 1), (55, .getfield 9, 3), (58, .if_icmp .ge 101, 3), (61, .aload_n 0, 1), (62, .iload 5, 2), (64, .invokevirtual 49, 3), (67, .ifCond .eq 86, 3), (70, .aload_n 0, 1), (71, .dup, 1), (72, .getfield 43, 3), (75, .aload_n 0, 1), (76, .getfield 15, 3), (79, .iload 5, 2), (81, .iaload, 1), (82, .ifCond .ne 13, 3), (85, .aload_n 0, 1), (86, .getfield 19, 3), (89, .iload 5, 2), (91, .iaload, 1), (92, .goto 26, 3), (95, .aload_n 0, 1), (96, .getfield 15, 3), (99, .iload 5, 2), (101, .iaload, 1), (102, .iconst 1, 1), (103, .if_icmp .ne 14, 3), (106, .aload_n 0, 1), (107, .getfield 19, 3), (110, .iload 5, 2), (112, .iaload, 1), (113, .ineg, 1), (114, .goto 4, 3), (117, .iconst 0, 1), (118, .iadd, 1), (119, .putfield 43, 3), (122, .aload_n 0, 1), (123, .dup, 1), (124, .getfield 46, 3), (127, .aload_n 0, 1), (128, .getfield 15, 3), (131, .iload 5, 2), (133, .iaload, 1), (134, .iconst 2, 1), (135, .if_icmp .ne 13, 3), (138, .aload_n 0, 1), (139, .getfield 19, 3), (142, .iload 5, 2), (144, .iaload, 1), (145, .goto 4, 3), (148, .iconst 0, 1), (149, .iadd, 1), (150, .putfield 46, 3), (153, .iinc 5 1, 3), (156, .goto (-104), 3), (159, .return_, 1)]
def M_Law_judge : MT := (t_Law_judge, P_Law, [], [])
theorem T_Law_judge : TabOK i_Law_judge M_Law_judge := tab_ok (by decide +kernel)
theorem H_Law_judge : ThrOK i_Law_judge M_Law_judge := ⟨fa_n, rfl, fa_n⟩
def t_Law_holds : List (Nat × Instr × Nat) := [(0, .iconst 0, 1), (1, .istore_n 2, 1), (2, .iload_n 1, 1), (3, .ifCond .ne 7, 3), (6, .iconst 0, 1), (7, .goto 11, 3), (10, .aload_n 0, 1), (11, .getfield 22, 3), (14, .iload_n 1, 1), (15, .iconst 1, 1), (16, .isub, 1), (17, .iaload, 1), (18, .istore_n 3, 1), (19, .iload_n 3, 1), (20, .aload_n 0, 1), (21, .getfield 22, 3), (24, .iload_n 1, 1), (25, .iaload, 1), (26, .if_icmp .ge 251, 3), (29, .aload_n 0, 1), (30, .getfield 25, 3), (33, .iload_n 3, 1), (34, .iaload, 1), (35, .istore 4, 2), (37, .iload 4, 2), (39, .bipush (-8), 2), (41, .if_icmp .lt 43, 3), (44, .iload_n 2, 1), (45, .aload_n 0, 1), (46, .getfield 31, 3), (49, .arraylength, 1), (50, .if_icmp .ge 221, 3), (53, .aload_n 0, 1), (54, .getfield 31, 3), (57, .iload_n 2, 1), (58, .iload 4, 2), (60, .ifCond .lt 8, 3), (63, .iload 4, 2), (65, .goto 12, 3), (68, .aload_n 0, 1), (69, .getfield 28, 3), (72, .iconst (-1), 1), (73, .iload 4, 2), (75, .isub, 1), (76, .iaload, 1), (77, .iastore, 1), (78, .iinc 2 1, 3), (81, .goto 190, 3), (84, .iload 4, 2), (86, .bipush (-12), 2), (88, .if_icmp .ne 28, 3), (91, .iload_n 2, 1), (92, .ifCond .le 179, 3), (95, .aload_n 0, 1), (96, .getfield 31, 3), (99, .iload_n 2, 1), (100, .iconst 1, 1), (101, .isub, 1), (102, .iconst 1, 1), (103, .aload_n 0, 1), (104, .getfield 31, 3), (107, .iload_n 2, 1), (108, .iconst 1, 1), (109, .isub, 1), (110, .iaload, 1), (111, .isub, 1), (112, .iastore, 1), (113, .goto 158, 3), (116, .iload_n 2, 1), (117, .iconst 1, 1), (118, .if_icmp .le 153, 3), (121, .iinc 2 (-1), 3), (124, .aload_n 0, 1), (125, .getfield 31, 3), (128, .iload_n 2, 1), (129, .iconst 1, 1), (130, .isub, 1), (131, .iaload, 1), (132, .istore 5, 2), (134, .aload_n 0, 1), (135, .getfield 31, 3), (138, .iload_n 2, 1), (139, .iaload, 1), (140, .istore 6, 2), (142, .iload 4, 2), (144, .tableswitch 114 (-13) (-9) #[98, 114, 75, 52, 36], 36), (180, .aload_n 0, 1), (181, .getfield 31, 3), (184, .iload_n 2, 1), (185, .iconst 1, 1), (186, .isub, 1), (187, .iload 5, 2), (189, .iload 6, 2), (191, .iadd, 1), (192, .iastore, 1), (193, .goto 78, 3), (196, .aload_n 0, 1), (197, .getfield 31, 3), (200, .iload_n 2, 1), (201, .iconst 1, 1), (202, .isub, 1), (203, .iload 5, 2), (205, .iload 6, 2), (207, .if_icmp .ge 7, 3), (210, .iconst 1, 1), (211, .goto 4, 3), (214, .iconst 0, 1), (215, .iastore, 1), (216, .goto 55, 3), (219, .aload_n 0, 1), (220, .getfield 31, 3), (223, .iload_n 2, 1), (224, .iconst 1, 1), (225, .isub, 1), (226, .iload 5, 2), (228, .iload 6, 2), (230, .if_icmp .le 7, 3), (233, .iconst 1, 1), (234, .goto 4, 3), (237, .iconst 0, 1), (238, .iastore, 1), (239, .goto 32, 3), (242, .aload_n 0, 1), (243, .getfield 31, 3), (246, .iload_n 2, 1), (247, .iconst 1, 1), (248, .isub, 1), (249, .iload 5, 2), (251, .iload 6, 2), (253, .iand, 1), (254, .iastore, 1), (255, .goto 16, 3), (258, .aload_n 0, 1), (259, .getfield 31, 3), (262, .iload_n 2, 1), (263, .iconst 1, 1), (264, .isub, 1), (265, .iload 5, 2), (267, .iload 6, 2), (269, .ior, 1), (270, .iastore, 1), (271, .iinc 3 1, 3), (274, .goto (-255), 3), (277, .iload_n 2, 1), (278, .ifCond .eq 12, 3), (281, .aload_n 0, 1), (282, .getfield 31, 3), (285, .iconst 0, 1), (286, .iaload, 1), (287, .ifCond .eq 7, 3), (290, .iconst 1, 1), (291, .goto 4, 3), (294, .iconst 0, 1), (295, .ireturn, 1)]
def M_Law_holds : MT := (t_Law_holds, P_Law, [], [])
theorem T_Law_holds : TabOK i_Law_holds M_Law_holds := tab_ok (by decide +kernel)
theorem H_Law_holds : ThrOK i_Law_holds M_Law_holds := ⟨fa_n, rfl, fa_n⟩
def t_Log_taughtBy : List (Nat × Instr × Nat) := [(0, .iconst 0, 1), (1, .istore_n 3, 1), (2, .iconst 0, 1), (3, .istore 4, 2), (5, .iload 4, 2), (7, .iload_n 2, 1), (8, .if_icmp .ge 37, 3), (11, .iload_n 3, 1), (12, .aload_n 0, 1), (13, .getfield 15, 3), (16, .iload 4, 2), (18, .iaload, 1), (19, .iload_n 1, 1), (20, .if_icmp .ne 16, 3), (23, .aload_n 0, 1), (24, .getfield 21, 3), (27, .iload 4, 2), (29, .iaload, 1), (30, .invokestatic 42, 3), (33, .goto 4, 3), (36, .iconst 0, 1), (37, .iadd, 1), (38, .istore_n 3, 1), (39, .iinc 4 1, 3), (42, .goto (-37), 3), (45, .iload_n 3, 1), (46, .ireturn, 1)]
def M_Log_taughtBy : MT := (t_Log_taughtBy, P_Log, [], [])
theorem T_Log_taughtBy : TabOK i_Log_taughtBy M_Log_taughtBy := tab_ok (by decide +kernel)
theorem H_Log_taughtBy : ThrOK i_Log_taughtBy M_Log_taughtBy := ⟨fa_n, rfl, fa_n⟩
def t_Set_copyFrom : List (Nat × Instr × Nat) := [(0, .aload_n 0, 1), (1, .aload_n 1, 1), (2, .getfield 34, 3), (5, .putfield 34, 3), (8, .aload_n 0, 1), (9, .aload_n 1, 1), (10, .getfield 37, 3), (13, .putfield 37, 3), (16, .aload_n 0, 1), (17, .aload_n 1, 1), (18, .getfield 40, 3), (21, .putfield 40, 3), (24, .aload_n 0, 1), (25, .aload_n 1, 1), (26, .getfield 30, 3), (29, .putfield 30, 3), (32, .aload_n 0, 1), (33, .aload_n 1, 1), (34, .getfield 43, 3), (37, .putfield 43, 3), (40, .aload_n 1, 1), (41, .getfield 9, 3), (44, .iconst 0, 1), (45, .aload_n 0, 1), (46, .getfield 9, 3), (49, .iconst 0, 1), (50, .bipush 10, 2), (52, .invokestatic 46, 3), (55, .aload_n 1, 1), (56, .getfield 15, 3), (59, .iconst 0, 1), (60, .aload_n 0, 1), (61, .getfield 15, 3), (64, .iconst 0, 1), (65, .bipush 10, 2), (67, .invokestatic 46, 3), (70, .aload_n 1, 1), (71, .getfield 18, 3), (74, .iconst 0, 1), (75, .aload_n 0, 1), (76, .getfield 18, 3), (79, .iconst 0, 1), (80, .bipush 10, 2), (82, .invokestatic 46, 3), (85, .aload_n 1, 1), (86, .getfield 21, 3), (89, .iconst 0, 1), (90, .aload_n 0, 1), (91, .getfield 21, 3), (94, .iconst 0, 1), (95, .bipush 12, 2), (97, .invokestatic 46, 3), (100, .aload_n 1, 1), (101, .getfield 24, 3), (104, .iconst 0, 1), (105, .aload_n 0, 1), (106, .getfield 24, 3), (109, .iconst 0, 1), (110, .bipush 12, 2), (112, .invokestatic 46, 3), (115, .aload_n 1, 1), (116, .getfield 27, 3), (119, .iconst 0, 1), (120, .aload_n 0, 1), (121, .getfield 27, 3), (124, .iconst 0, 1), (125, .bipush 12, 2), (127, .invokestatic 46, 3), (130, .return_, 1)]
def M_Set_copyFrom : MT := (t_Set_copyFrom, P_Set, [], [])
theorem T_Set_copyFrom : TabOK i_Set_copyFrom M_Set_copyFrom := tab_ok (by decide +kernel)
theorem H_Set_copyFrom : ThrOK i_Set_copyFrom M_Set_copyFrom := ⟨fa_n, rfl, fa_n⟩
def t_Law_copyFrom : List (Nat × Instr × Nat) := [(0, .aload_n 0, 1), (1, .aload_n 1, 1), (2, .getfield 9, 3), (5, .putfield 9, 3), (8, .aload_n 0, 1), (9, .aload_n 1, 1), (10, .getfield 34, 3), (13, .putfield 34, 3), (16, .aload_n 1, 1), (17, .getfield 15, 3), (20, .iconst 0, 1), (21, .aload_n 0, 1), (22, .getfield 15, 3), (25, .iconst 0, 1), (26, .bipush 12, 2), (28, .invokestatic 37, 3), (31, .aload_n 1, 1), (32, .getfield 19, 3), (35, .iconst 0, 1), (36, .aload_n 0, 1), (37, .getfield 19, 3), (40, .iconst 0, 1), (41, .bipush 12, 2), (43, .invokestatic 37, 3), (46, .aload_n 1, 1), (47, .getfield 22, 3), (50, .iconst 0, 1), (51, .aload_n 0, 1), (52, .getfield 22, 3), (55, .iconst 0, 1), (56, .bipush 12, 2), (58, .invokestatic 37, 3), (61, .aload_n 1, 1), (62, .getfield 25, 3), (65, .iconst 0, 1), (66, .aload_n 0, 1), (67, .getfield 25, 3), (70, .iconst 0, 1), (71, .aload_n 0, 1), (72, .getfield 34, 3), (75, .invokestatic 37, 3), (78, .return_, 1)]
def M_Law_copyFrom : MT := (t_Law_copyFrom, P_Law, [], [])
theorem T_Law_copyFrom : TabOK i_Law_copyFrom M_Law_copyFrom := tab_ok (by decide +kernel)
theorem H_Law_copyFrom : ThrOK i_Law_copyFrom M_Law_copyFrom := ⟨fa_n, rfl, fa_n⟩
def t_Log_copyFrom : List (Nat × Instr × Nat) := [(0, .aload_n 1, 1), (1, .getfield 9, 3), (4, .iconst 0, 1), (5, .aload_n 0, 1), (6, .getfield 9, 3), (9, .iconst 0, 1), (10, .bipush 60, 2), (12, .invokestatic 32, 3), (15, .aload_n 1, 1), (16, .getfield 15, 3), (19, .iconst 0, 1), (20, .aload_n 0, 1), (21, .getfield 15, 3), (24, .iconst 0, 1), (25, .bipush 60, 2), (27, .invokestatic 32, 3), (30, .aload_n 1, 1), (31, .getfield 18, 3), (34, .iconst 0, 1), (35, .aload_n 0, 1), (36, .getfield 18, 3), (39, .iconst 0, 1), (40, .bipush 60, 2), (42, .invokestatic 32, 3), (45, .aload_n 1, 1), (46, .getfield 21, 3), (49, .iconst 0, 1), (50, .aload_n 0, 1), (51, .getfield 21, 3), (54, .iconst 0, 1), (55, .bipush 60, 2), (57, .invokestatic 32, 3), (60, .aload_n 1, 1), (61, .getfield 24, 3), (64, .iconst 0, 1), (65, .aload_n 0, 1), (66, .getfield 24, 3), (69, .iconst 0, 1), (70, .bipush 60, 2), (72, .invokestatic 32, 3), (75, .aload_n 1, 1), (76, .getfield 28, 3), (79, .iconst 0, 1), (80, .aload_n 0, 1), (81, .getfield 28, 3), (84, .iconst 0, 1), (85, .bipush 60, 2), (87, .invokestatic 32, 3), (90, .return_, 1)]
def M_Log_copyFrom : MT := (t_Log_copyFrom, P_Log, [], [])
theorem T_Log_copyFrom : TabOK i_Log_copyFrom M_Log_copyFrom := tab_ok (by decide +kernel)
theorem H_Log_copyFrom : ThrOK i_Log_copyFrom M_Log_copyFrom := ⟨fa_n, rfl, fa_n⟩
def t_Lng_bitCount : List (Nat × Instr × Nat) := [(0, .lload_n 0, 1), (1, .lload_n 0, 1), (2, .iconst 1, 1), (3, .lushr, 1), (4, .ldc2_w 314, 3), (7, .land, 1), (8, .lsub, 1), (9, .lstore_n 0, 1), (10, .lload_n 0, 1), (11, .ldc2_w 316, 3), (14, .land, 1), (15, .lload_n 0, 1), (16, .iconst 2, 1), (17, .lushr, 1), (18, .ldc2_w 316, 3), (21, .land, 1), (22, .ladd, 1), (23, .lstore_n 0, 1), (24, .lload_n 0, 1), (25, .lload_n 0, 1), (26, .iconst 4, 1), (27, .lushr, 1), (28, .ladd, 1), (29, .ldc2_w 318, 3), (32, .land, 1), (33, .lstore_n 0, 1), (34, .lload_n 0, 1), (35, .lload_n 0, 1), (36, .bipush 8, 2), (38, .lushr, 1), (39, .ladd, 1), (40, .lstore_n 0, 1), (41, .lload_n 0, 1), (42, .lload_n 0, 1), (43, .bipush 16, 2), (45, .lushr, 1), (46, .ladd, 1), (47, .lstore_n 0, 1), (48, .lload_n 0, 1), (49, .lload_n 0, 1), (50, .bipush 32, 2), (52, .lushr, 1), (53, .ladd, 1), (54, .lstore_n 0, 1), (55, .lload_n 0, 1), (56, .l2i, 1), (57, .bipush 127, 2), (59, .iand, 1), (60, .ireturn, 1)]
def M_Lng_bitCount : MT := (t_Lng_bitCount, P_Lng, [], [])
theorem T_Lng_bitCount : TabOK i_Lng_bitCount M_Lng_bitCount := tab_ok (by decide +kernel)
theorem H_Lng_bitCount : ThrOK i_Lng_bitCount M_Lng_bitCount := ⟨fa_n, rfl, fa_n⟩
def t_SchR_begin : List (Nat × Instr × Nat) := [(0, .aload_n 0, 1), (1, .getfield 14, 3), (4, .aload_n 1, 1), (5, .getfield 27, 3), (8, .invokevirtual 30, 3), (11, .aload_n 0, 1), (12, .getfield 23, 3), (15, .aload_n 1, 1), (16, .getfield 34, 3), (19, .invokevirtual 35, 3), (22, .return_, 1)]
def M_SchR_begin : MT := (t_SchR_begin, P_SchR, [], [])
theorem T_SchR_begin : TabOK i_SchR_begin M_SchR_begin := tab_ok (by decide +kernel)
theorem H_SchR_begin : ThrOK i_SchR_begin M_SchR_begin := ⟨fa_n, rfl, fa_n⟩
def t_LineR_readLines : List (Nat × Instr × Nat) := [(0, .aload_n 0, 1), (1, .getfield 9, 3), (4, .invokevirtual 15, 3), (7, .aload_n 0, 1), (8, .getfield 9, 3), (11, .invokevirtual 20, 3), (14, .ifCond .eq 5, 3), (17, .iconst 0, 1), (18, .ireturn, 1), (19, .iconst 1, 1), (20, .istore_n 2, 1), (21, .iload_n 2, 1), (22, .iload_n 1, 1), (23, .if_icmp .gt 46, 3), (26, .aload_n 0, 1), (27, .invokevirtual 24, 3), (30, .ifCond .ne 6, 3), (33, .goto 36, 3), (36, .aload_n 0, 1), (37, .getfield 9, 3), (40, .invokevirtual 20, 3), (43, .ifCond .eq 5, 3), (46, .iload_n 2, 1), (47, .ireturn, 1), (48, .aload_n 0, 1), (49, .getfield 9, 3), (52, .bipush 59, 2), (54, .invokevirtual 27, 3), (57, .ifCond .ne 6, 3), (60, .goto 9, 3), (63, .iinc 2 1, 3), (66, .goto (-45), 3), (69, .aload_n 0, 1), (70, .getfield 9, 3), (73, .aload_n 0, 1), (74, .getfield 9, 3), (77, .getfield 31, 3), (80, .putfield 35, 3), (83, .iconst (-1), 1), (84, .ireturn, 1)]
def M_LineR_readLines_S : MT := (t_LineR_readLines, P_LineRS, [], [])
theorem T_LineR_readLines_S : TabOK i_LineR_readLines M_LineR_readLines_S := tab_ok (by decide +kernel)
theorem H_LineR_readLines_S : ThrOK i_LineR_readLines M_LineR_readLines_S := ⟨fa_n, rfl, fa_n⟩
def M_LineR_readLines_L : MT := (t_LineR_readLines, P_LineRL, [], [])
theorem T_LineR_readLines_L : TabOK i_LineR_readLines M_LineR_readLines_L := T_LineR_readLines_S
theorem H_LineR_readLines_L : ThrOK i_LineR_readLines M_LineR_readLines_L := ⟨fa_n, rfl, fa_n⟩
def t_Tape_open : List (Nat × Instr × Nat) := [(0, .aload_n 0, 1), (1, .iconst (-1), 1), (2, .putfield 15, 3), (5, .aload_n 0, 1), (6, .iconst 0, 1), (7, .putfield 22, 3), (10, .aload_n 0, 1), (11, .invokevirtual 25, 3), (14, .return_, 1)]
def M_Tape_open : MT := (t_Tape_open, P_Tape, [], [])
theorem T_Tape_open : TabOK i_Tape_open M_Tape_open := tab_ok (by decide +kernel)
theorem H_Tape_open : ThrOK i_Tape_open M_Tape_open := ⟨fa_n, rfl, fa_n⟩
def t_Tape_next : List (Nat × Instr × Nat) := [(0, .aload_n 0, 1), (1, .getfield 22, 3), (4, .istore_n 1, 1), (5, .iload_n 1, 1), (6, .aload_n 0, 1), (7, .getfield 19, 3), (10, .if_icmp .ge 20, 3), (13, .aload_n 0, 1), (14, .getfield 9, 3), (17, .iload_n 1, 1), (18, .baload, 1), (19, .bipush 32, 2), (21, .if_icmp .ne 9, 3), (24, .iinc 1 1, 3), (27, .goto (-22), 3), (30, .aload_n 0, 1), (31, .iload_n 1, 1), (32, .putfield 28, 3), (35, .aload_n 0, 1), (36, .iconst 0, 1), (37, .putfield 31, 3), (40, .iload_n 1, 1), (41, .aload_n 0, 1), (42, .getfield 19, 3), (45, .if_icmp .lt 11, 3), (48, .aload_n 0, 1), (49, .iconst 0, 1), (50, .putfield 34, 3), (53, .goto 134, 3), (56, .aload_n 0, 1), (57, .iload_n 1, 1), (58, .bipush 97, 2), (60, .bipush 122, 2), (62, .invokevirtual 37, 3), (65, .ifCond .eq 34, 3), (68, .aload_n 0, 1), (69, .iconst 1, 1), (70, .putfield 34, 3), (73, .iload_n 1, 1), (74, .aload_n 0, 1), (75, .getfield 19, 3), (78, .if_icmp .ge 109, 3), (81, .aload_n 0, 1), (82, .iload_n 1, 1), (83, .bipush 97, 2), (85, .bipush 122, 2), (87, .invokevirtual 37, 3), (90, .ifCond .eq 97, 3), (93, .iinc 1 1, 3), (96, .goto (-23), 3), (99, .aload_n 0, 1), (100, .iload_n 1, 1), (101, .bipush 48, 2), (103, .bipush 57, 2), (105, .invokevirtual 37, 3), (108, .ifCond .eq 71, 3), (111, .aload_n 0, 1), (112, .iconst 2, 1), (113, .putfield 34, 3), (116, .iload_n 1, 1), (117, .aload_n 0, 1), (118, .getfield 19, 3), (121, .if_icmp .ge 66, 3), (124, .aload_n 0, 1), (125, .iload_n 1, 1), (126, .bipush 48, 2), (128, .bipush 57, 2), (130, .invokevirtual 37, 3), (133, .ifCond .eq 54, 3), (136, .aload_n 0, 1), (137, .iload_n 1, 1), (138, .aload_n 0, 1), (139, .getfield 28, 3), (142, .isub, 1), (143, .iconst 3, 1), (144, .if_icmp .ge 23, 3), (147, .bipush 10, 2), (149, .aload_n 0, 1), (150, .getfield 31, 3), (153, .imul, 1), (154, .aload_n 0, 1), (155, .getfield 9, 3), (158, .iload_n 1, 1), (159, .baload, 1), (160, .iadd, 1), (161, .bipush 48, 2), (163, .isub, 1), (164, .goto 6, 3), (167, .sipush 1000, 3), (170, .putfield 31, 3), (173, .iinc 1 1, 3), (176, .goto (-60), 3), (179, .aload_n 0, 1), (180, .iconst 3, 1), (181, .putfield 34, 3), (184, .iinc 1 1, 3), (187, .aload_n 0, 1), (188, .iload_n 1, 1), (189, .putfield 22, 3), (192, .return_, 1)]
def M_Tape_next : MT := (t_Tape_next, P_Tape, [], [])
theorem T_Tape_next : TabOK i_Tape_next M_Tape_next := tab_ok (by decide +kernel)
theorem H_Tape_next : ThrOK i_Tape_next M_Tape_next := ⟨fa_n, rfl, fa_n⟩
def t_Tape_isWithin : List (Nat × Instr × Nat) := [(0, .aload_n 0, 1), (1, .getfield 9, 3), (4, .iload_n 1, 1), (5, .baload, 1), (6, .iload_n 2, 1), (7, .if_icmp .lt 17, 3), (10, .aload_n 0, 1), (11, .getfield 9, 3), (14, .iload_n 1, 1), (15, .baload, 1), (16, .iload_n 3, 1), (17, .if_icmp .gt 7, 3), (20, .iconst 1, 1), (21, .goto 4, 3), (24, .iconst 0, 1), (25, .ireturn, 1)]
def M_Tape_isWithin : MT := (t_Tape_isWithin, P_Tape, [], [])
theorem T_Tape_isWithin : TabOK i_Tape_isWithin M_Tape_isWithin := tab_ok (by decide +kernel)
theorem H_Tape_isWithin : ThrOK i_Tape_isWithin M_Tape_isWithin := ⟨fa_n, rfl, fa_n⟩
def t_Tape_atEnd : List (Nat × Instr × Nat) := [(0, .aload_n 0, 1), (1, .getfield 34, 3), (4, .ifCond .ne 7, 3), (7, .iconst 1, 1), (8, .goto 4, 3), (11, .iconst 0, 1), (12, .ireturn, 1)]
def M_Tape_atEnd : MT := (t_Tape_atEnd, P_Tape, [], [])
theorem T_Tape_atEnd : TabOK i_Tape_atEnd M_Tape_atEnd := tab_ok (by decide +kernel)
theorem H_Tape_atEnd : ThrOK i_Tape_atEnd M_Tape_atEnd := ⟨fa_n, rfl, fa_n⟩
def t_LawR_readLine : List (Nat × Instr × Nat) := [(0, .aload_n 0, 1), (1, .getfield 27, 3), (4, .ldc 31, 2), (6, .invokevirtual 33, 3), (9, .ifCond .eq 7, 3), (12, .iconst 0, 1), (13, .goto 36, 3), (16, .aload_n 0, 1), (17, .getfield 27, 3), (20, .ldc 39, 2), (22, .invokevirtual 33, 3), (25, .ifCond .eq 7, 3), (28, .iconst 1, 1), (29, .goto 20, 3), (32, .aload_n 0, 1), (33, .getfield 27, 3), (36, .ldc 41, 2), (38, .invokevirtual 33, 3), (41, .ifCond .eq 7, 3), (44, .iconst 2, 1), (45, .goto 4, 3), (48, .iconst (-1), 1), (49, .istore_n 1, 1), (50, .iload_n 1, 1), (51, .iconst (-1), 1), (52, .if_icmp .ne 5, 3), (55, .iconst 0, 1), (56, .ireturn, 1), (57, .aload_n 0, 1), (58, .getfield 27, 3), (61, .invokevirtual 43, 3), (64, .aload_n 0, 1), (65, .getfield 27, 3), (68, .iconst 0, 1), (69, .bipush 99, 2), (71, .invokevirtual 46, 3), (74, .istore_n 2, 1), (75, .iload_n 2, 1), (76, .iconst (-1), 1), (77, .if_icmp .eq 22, 3), (80, .aload_n 0, 1), (81, .getfield 27, 3), (84, .ldc 50, 2), (86, .invokevirtual 52, 3), (89, .ifCond .eq 12, 3), (92, .aload_n 0, 1), (93, .invokevirtual 55, 3), (96, .ifCond .ne 5, 3), (99, .iconst 0, 1), (100, .ireturn, 1), (101, .aload_n 0, 1), (102, .getfield 14, 3), (105, .iload_n 1, 1), (106, .iload_n 2, 1), (107, .invokevirtual 59, 3), (110, .iconst 1, 1), (111, .ireturn, 1)]
def M_LawR_readLine : MT := (t_LawR_readLine, P_LawR, [], [])
theorem T_LawR_readLine : TabOK i_LawR_readLine M_LawR_readLine := tab_ok (by decide +kernel)
theorem H_LawR_readLine : ThrOK i_LawR_readLine M_LawR_readLine := ⟨fa_n, rfl, fa_n⟩
def t_Tape_atWord : List (Nat × Instr × Nat) := [(0, .aload_n 0, 1), (1, .getfield 34, 3), (4, .iconst 1, 1), (5, .if_icmp .ne 19, 3), (8, .aload_n 0, 1), (9, .getfield 22, 3), (12, .aload_n 0, 1), (13, .getfield 28, 3), (16, .isub, 1), (17, .aload_n 1, 1), (18, .invokevirtual 41, 3), (21, .if_icmp .eq 5, 3), (24, .iconst 0, 1), (25, .ireturn, 1), (26, .iconst 0, 1), (27, .istore_n 2, 1), (28, .iload_n 2, 1), (29, .aload_n 1, 1), (30, .invokevirtual 41, 3), (33, .if_icmp .ge 30, 3), (36, .aload_n 0, 1), (37, .getfield 9, 3), (40, .aload_n 0, 1), (41, .getfield 28, 3), (44, .iload_n 2, 1), (45, .iadd, 1), (46, .baload, 1), (47, .aload_n 1, 1), (48, .iload_n 2, 1), (49, .invokevirtual 46, 3), (52, .if_icmp .eq 5, 3), (55, .iconst 0, 1), (56, .ireturn, 1), (57, .iinc 2 1, 3), (60, .goto (-32), 3), (63, .iconst 1, 1), (64, .ireturn, 1)]
def M_Tape_atWord : MT := (t_Tape_atWord, P_Tape, [], [])
theorem T_Tape_atWord : TabOK i_Tape_atWord M_Tape_atWord := tab_ok (by decide +kernel)
theorem H_Tape_atWord : ThrOK i_Tape_atWord M_Tape_atWord := ⟨fa_n, rfl, fa_n⟩
def t_Str_length : List (Nat × Instr × Nat) := [(0, .aload_n 0, 1), (1, .getfield 9, 3), (4, .arraylength, 1), (5, .aload_n 0, 1), (6, .invokevirtual 335, 3), (9, .ishr, 1), (10, .ireturn, 1)]
def M_Str_length : MT := (t_Str_length, P_Str, [], [])
theorem T_Str_length : TabOK i_Str_length M_Str_length := tab_ok (by decide +kernel)
theorem H_Str_length : ThrOK i_Str_length M_Str_length := ⟨fa_n, rfl, fa_n⟩
def t_Str_coder : List (Nat × Instr × Nat) := [(0, .getstatic 38, 3), (3, .ifCond .eq 10, 3), (6, .aload_n 0, 1), (7, .getfield 15, 3), (10, .goto 4, 3), (13, .iconst 1, 1), (14, .ireturn, 1)]
def M_Str_coder : MT := (t_Str_coder, P_Str, [], [])
theorem T_Str_coder : TabOK i_Str_coder M_Str_coder := tab_ok (by decide +kernel)
theorem H_Str_coder : ThrOK i_Str_coder M_Str_coder := ⟨fa_n, rfl, fa_n⟩
def t_Str_charAt : List (Nat × Instr × Nat) := [(0, .aload_n 0, 1), (1, .invokevirtual 492, 3), (4, .ifCond .eq 12, 3), (7, .aload_n 0, 1), (8, .getfield 9, 3), (11, .iload_n 1, 1), (12, .invokestatic 495, 3), (15, .ireturn, 1), (16, .aload_n 0, 1), (17, .getfield 9, 3), (20, .iload_n 1, 1), (21, .invokestatic 498, 3), (24, .ireturn, 1)]
def M_Str_charAt : MT := (t_Str_charAt, P_Str, [], [])
theorem T_Str_charAt : TabOK i_Str_charAt M_Str_charAt := tab_ok (by decide +kernel)
theorem H_Str_charAt : ThrOK i_Str_charAt M_Str_charAt := ⟨fa_n, rfl, fa_n⟩
def t_Str_isLatin1 : List (Nat × Instr × Nat) := [(0, .getstatic 38, 3), (3, .ifCond .eq 14, 3), (6, .aload_n 0, 1), (7, .getfield 15, 3), (10, .ifCond .ne 7, 3), (13, .iconst 1, 1), (14, .goto 4, 3), (17, .iconst 0, 1), (18, .ireturn, 1)]
def M_Str_isLatin1 : MT := (t_Str_isLatin1, P_Str, [], [])
theorem T_Str_isLatin1 : TabOK i_Str_isLatin1 M_Str_isLatin1 := tab_ok (by decide +kernel)
theorem H_Str_isLatin1 : ThrOK i_Str_isLatin1 M_Str_isLatin1 := ⟨fa_n, rfl, fa_n⟩
def t_StrL_charAt : List (Nat × Instr × Nat) := [(0, .iload_n 1, 1), (1, .aload_n 0, 1), (2, .arraylength, 1), (3, .invokestatic 9, 3), (6, .aload_n 0, 1), (7, .iload_n 1, 1), (8, .baload, 1), (9, .sipush 255, 3), (12, .iand, 1), (13, .i2c, 1), (14, .ireturn, 1)]
def M_StrL_charAt : MT := (t_StrL_charAt, P_StrL, [], [])
theorem T_StrL_charAt : TabOK i_StrL_charAt M_StrL_charAt := tab_ok (by decide +kernel)
theorem H_StrL_charAt : ThrOK i_StrL_charAt M_StrL_charAt := ⟨fa_n, rfl, fa_n⟩
def t_Str_checkIndex : List (Nat × Instr × Nat) := [(0, .iload_n 0, 1), (1, .iload_n 1, 1), (2, .getstatic 1053, 3), (5, .invokestatic 1059, 3), (8, .pop, 1), (9, .return_, 1)]
def M_Str_checkIndex : MT := (t_Str_checkIndex, P_Str, [], [])
theorem T_Str_checkIndex : TabOK i_Str_checkIndex M_Str_checkIndex := tab_ok (by decide +kernel)
theorem H_Str_checkIndex : ThrOK i_Str_checkIndex M_Str_checkIndex := ⟨fa_n, rfl, fa_n⟩
def t_Pre_checkIndex : List (Nat × Instr × Nat) := [(0, .iload_n 0, 1), (1, .ifCond .lt 8, 3), (4, .iload_n 0, 1), (5, .iload_n 1, 1), (6, .if_icmp .lt 10, 3), (9, .aload_n 2, 1), (10, .iload_n 0, 1), (11, .iload_n 1, 1), (12, .invokestatic 95, 3), (15, .athrow, 1), (16, .iload_n 0, 1), (17, .ireturn, 1)]
def M_Pre_checkIndex : MT := (t_Pre_checkIndex, P_Pre, [], [])
theorem T_Pre_checkIndex : TabOK i_Pre_checkIndex M_Pre_checkIndex := tab_ok (by decide +kernel)
theorem H_Pre_checkIndex : ThrOK i_Pre_checkIndex M_Pre_checkIndex := ⟨fa_n, rfl, fa_n⟩
def t_Tape_takeNumber : List (Nat × Instr × Nat) := [(0, .aload_n 0, 1), (1, .iload_n 1, 1), (2, .iload_n 2, 1), (3, .invokevirtual 50, 3), (6, .ifCond .ne 5, 3), (9, .iconst (-1), 1), (10, .ireturn, 1), (11, .aload_n 0, 1), (12, .getfield 31, 3), (15, .istore_n 3, 1), (16, .aload_n 0, 1), (17, .invokevirtual 25, 3), (20, .iload_n 3, 1), (21, .ireturn, 1)]
def M_Tape_takeNumber : MT := (t_Tape_takeNumber, P_Tape, [], [])
theorem T_Tape_takeNumber : TabOK i_Tape_takeNumber M_Tape_takeNumber := tab_ok (by decide +kernel)
theorem H_Tape_takeNumber : ThrOK i_Tape_takeNumber M_Tape_takeNumber := ⟨fa_n, rfl, fa_n⟩
def t_Tape_atNumber : List (Nat × Instr × Nat) := [(0, .aload_n 0, 1), (1, .getfield 34, 3), (4, .iconst 2, 1), (5, .if_icmp .ne 23, 3), (8, .aload_n 0, 1), (9, .getfield 31, 3), (12, .iload_n 1, 1), (13, .if_icmp .lt 15, 3), (16, .aload_n 0, 1), (17, .getfield 31, 3), (20, .iload_n 2, 1), (21, .if_icmp .gt 7, 3), (24, .iconst 1, 1), (25, .goto 4, 3), (28, .iconst 0, 1), (29, .ireturn, 1)]
def M_Tape_atNumber : MT := (t_Tape_atNumber, P_Tape, [], [])
theorem T_Tape_atNumber : TabOK i_Tape_atNumber M_Tape_atNumber := tab_ok (by decide +kernel)
theorem H_Tape_atNumber : ThrOK i_Tape_atNumber M_Tape_atNumber := ⟨fa_n, rfl, fa_n⟩
def t_Tape_takeWord : List (Nat × Instr × Nat) := [(0, .aload_n 0, 1), (1, .aload_n 1, 1), (2, .invokevirtual 58, 3), (5, .ifCond .ne 5, 3), (8, .iconst 0, 1), (9, .ireturn, 1), (10, .aload_n 0, 1), (11, .invokevirtual 25, 3), (14, .iconst 1, 1), (15, .ireturn, 1)]
def M_Tape_takeWord : MT := (t_Tape_takeWord, P_Tape, [], [])
theorem T_Tape_takeWord : TabOK i_Tape_takeWord M_Tape_takeWord := tab_ok (by decide +kernel)
theorem H_Tape_takeWord : ThrOK i_Tape_takeWord M_Tape_takeWord := ⟨fa_n, rfl, fa_n⟩
def t_LawR_readCondition : List (Nat × Instr × Nat) := [(0, .aload_n 0, 1), (1, .iconst 0, 1), (2, .putfield 63, 3), (5, .aload_n 0, 1), (6, .iconst 0, 1), (7, .putfield 67, 3), (10, .aload_n 0, 1), (11, .iconst 0, 1), (12, .putfield 70, 3), (15, .iconst 0, 1), (16, .istore_n 1, 1), (17, .iload_n 1, 1), (18, .sipush 400, 3), (21, .if_icmp .ge 83, 3), (24, .aload_n 0, 1), (25, .invokevirtual 73, 3), (28, .ifCond .eq 10, 3), (31, .aload_n 0, 1), (32, .invokevirtual 76, 3), (35, .ifCond .ne 5, 3), (38, .iconst 0, 1), (39, .ireturn, 1), (40, .aload_n 0, 1), (41, .invokevirtual 79, 3), (44, .aload_n 0, 1), (45, .getfield 27, 3), (48, .ldc 82, 2), (50, .invokevirtual 52, 3), (53, .ifCond .eq 8, 3), (56, .bipush (-13), 2), (58, .goto 21, 3), (61, .aload_n 0, 1), (62, .getfield 27, 3), (65, .ldc 84, 2), (67, .invokevirtual 52, 3), (70, .ifCond .eq 8, 3), (73, .bipush (-14), 2), (75, .goto 4, 3), (78, .iconst (-1), 1), (79, .istore_n 2, 1), (80, .iload_n 2, 1), (81, .iconst (-1), 1), (82, .if_icmp .ne 6, 3), (85, .goto 19, 3), (88, .aload_n 0, 1), (89, .iload_n 2, 1), (90, .invokevirtual 86, 3), (93, .aload_n 0, 1), (94, .iload_n 2, 1), (95, .invokevirtual 90, 3), (98, .iinc 1 1, 3), (101, .goto (-84), 3), (104, .aload_n 0, 1), (105, .bipush (-14), 2), (107, .invokevirtual 86, 3), (110, .aload_n 0, 1), (111, .getfield 70, 3), (114, .ifCond .ne 7, 3), (117, .iconst 1, 1), (118, .goto 4, 3), (121, .iconst 0, 1), (122, .ireturn, 1)]
def M_LawR_readCondition : MT := (t_LawR_readCondition, P_LawR, [], [])
theorem T_LawR_readCondition : TabOK i_LawR_readCondition M_LawR_readCondition := tab_ok (by decide +kernel)
theorem H_LawR_readCondition : ThrOK i_LawR_readCondition M_LawR_readCondition := ⟨fa_n, rfl, fa_n⟩
def t_LawR_readOpenings : List (Nat × Instr × Nat) := [(0, .iconst 0, 1), (1, .istore_n 1, 1), (2, .iload_n 1, 1), (3, .sipush 400, 3), (6, .if_icmp .ge 98, 3), (9, .aload_n 0, 1), (10, .getfield 27, 3), (13, .bipush 40, 2), (15, .invokevirtual 93, 3), (18, .istore_n 2, 1), (19, .iload_n 2, 1), (20, .ifCond .ne 17, 3), (23, .aload_n 0, 1), (24, .getfield 27, 3), (27, .ldc 97, 2), (29, .invokevirtual 33, 3), (32, .ifCond .ne 5, 3), (35, .iconst 1, 1), (36, .ireturn, 1), (37, .aload_n 0, 1), (38, .getfield 67, 3), (41, .bipush 6, 2), (43, .if_icmp .ne 5, 3), (46, .iconst 0, 1), (47, .ireturn, 1), (48, .aload_n 0, 1), (49, .getfield 27, 3), (52, .invokevirtual 43, 3), (55, .aload_n 0, 1), (56, .dup, 1), (57, .getfield 67, 3), (60, .iconst 1, 1), (61, .iadd, 1), (62, .putfield 67, 3), (65, .aload_n 0, 1), (66, .dup, 1), (67, .getfield 70, 3), (70, .iload_n 2, 1), (71, .ifCond .eq 7, 3), (74, .iconst 1, 1), (75, .goto 4, 3), (78, .iconst 0, 1), (79, .iadd, 1), (80, .putfield 70, 3), (83, .aload_n 0, 1), (84, .iload_n 2, 1), (85, .ifCond .eq 8, 3), (88, .bipush (-15), 2), (90, .goto 5, 3), (93, .bipush (-12), 2), (95, .invokevirtual 90, 3), (98, .iinc 1 1, 3), (101, .goto (-99), 3), (104, .iconst 0, 1), (105, .ireturn, 1)]
def M_LawR_readOpenings : MT := (t_LawR_readOpenings, P_LawR, [], [])
theorem T_LawR_readOpenings : TabOK i_LawR_readOpenings M_LawR_readOpenings := tab_ok (by decide +kernel)
theorem H_LawR_readOpenings : ThrOK i_LawR_readOpenings M_LawR_readOpenings := ⟨fa_n, rfl, fa_n⟩
def t_Tape_atSign : List (Nat × Instr × Nat) := [(0, .aload_n 0, 1), (1, .getfield 34, 3), (4, .iconst 3, 1), (5, .if_icmp .ne 20, 3), (8, .aload_n 0, 1), (9, .getfield 9, 3), (12, .aload_n 0, 1), (13, .getfield 28, 3), (16, .baload, 1), (17, .iload_n 1, 1), (18, .if_icmp .ne 7, 3), (21, .iconst 1, 1), (22, .goto 4, 3), (25, .iconst 0, 1), (26, .ireturn, 1)]
def M_Tape_atSign : MT := (t_Tape_atSign, P_Tape, [], [])
theorem T_Tape_atSign : TabOK i_Tape_atSign M_Tape_atSign := tab_ok (by decide +kernel)
theorem H_Tape_atSign : ThrOK i_Tape_atSign M_Tape_atSign := ⟨fa_n, rfl, fa_n⟩
def t_LawR_await : List (Nat × Instr × Nat) := [(0, .aload_n 0, 1), (1, .getfield 63, 3), (4, .aload_n 0, 1), (5, .getfield 20, 3), (8, .arraylength, 1), (9, .if_icmp .ge 23, 3), (12, .aload_n 0, 1), (13, .getfield 20, 3), (16, .aload_n 0, 1), (17, .getfield 63, 3), (20, .iload_n 1, 1), (21, .iastore, 1), (22, .aload_n 0, 1), (23, .dup, 1), (24, .getfield 63, 3), (27, .iconst 1, 1), (28, .iadd, 1), (29, .putfield 63, 3), (32, .return_, 1)]
def M_LawR_await : MT := (t_LawR_await, P_LawR, [], [])
theorem T_LawR_await : TabOK i_LawR_await M_LawR_await := tab_ok (by decide +kernel)
theorem H_LawR_await : ThrOK i_LawR_await M_LawR_await := ⟨fa_n, rfl, fa_n⟩
def t_LawR_readFact : List (Nat × Instr × Nat) := [(0, .aload_n 0, 1), (1, .getfield 27, 3), (4, .ldc 102, 2), (6, .invokevirtual 52, 3), (9, .ifCond .eq 14, 3), (12, .aload_n 0, 1), (13, .getfield 14, 3), (16, .bipush (-8), 2), (18, .invokevirtual 104, 3), (21, .iconst 1, 1), (22, .ireturn, 1), (23, .iconst (-1), 1), (24, .istore_n 1, 1), (25, .iconst 0, 1), (26, .istore_n 2, 1), (27, .iconst 0, 1), (28, .istore_n 3, 1), (29, .iload_n 3, 1), (30, .sipush 400, 3), (33, .if_icmp .ge 140, 3), (36, .aload_n 0, 1), (37, .invokevirtual 107, 3), (40, .istore 4, 2), (42, .iload 4, 2), (44, .bipush (-16), 2), (46, .if_icmp .ne 5, 3), (49, .iconst 0, 1), (50, .ireturn, 1), (51, .aload_n 0, 1), (52, .getfield 27, 3), (55, .invokevirtual 43, 3), (58, .aload_n 0, 1), (59, .getfield 14, 3), (62, .iload 4, 2), (64, .invokevirtual 104, 3), (67, .iload_n 2, 1), (68, .ifCond .eq 12, 3), (71, .aload_n 0, 1), (72, .getfield 14, 3), (75, .bipush (-9), 2), (77, .invokevirtual 104, 3), (80, .aload_n 0, 1), (81, .getfield 27, 3), (84, .bipush 43, 2), (86, .invokevirtual 93, 3), (89, .istore_n 2, 1), (90, .iload_n 2, 1), (91, .ifCond .ne 18, 3), (94, .iload_n 1, 1), (95, .iconst (-1), 1), (96, .if_icmp .eq 13, 3), (99, .aload_n 0, 1), (100, .getfield 14, 3), (103, .iload_n 1, 1), (104, .invokevirtual 104, 3), (107, .iconst 1, 1), (108, .ireturn, 1), (109, .iload_n 2, 1), (110, .ifCond .ne 39, 3), (113, .aload_n 0, 1), (114, .getfield 27, 3), (117, .bipush 60, 2), (119, .invokevirtual 93, 3), (122, .ifCond .eq 8, 3), (125, .bipush (-10), 2), (127, .goto 21, 3), (130, .aload_n 0, 1), (131, .getfield 27, 3), (134, .bipush 62, 2), (136, .invokevirtual 93, 3), (139, .ifCond .eq 8, 3), (142, .bipush (-11), 2), (144, .goto 4, 3), (147, .iconst (-1), 1), (148, .istore_n 1, 1), (149, .iload_n 2, 1), (150, .ifCond .ne 10, 3), (153, .iload_n 1, 1), (154, .iconst (-1), 1), (155, .if_icmp .ne 5, 3), (158, .iconst 0, 1), (159, .ireturn, 1), (160, .aload_n 0, 1), (161, .getfield 27, 3), (164, .invokevirtual 43, 3), (167, .iinc 3 1, 3), (170, .goto (-141), 3), (173, .iconst 0, 1), (174, .ireturn, 1)]
def M_LawR_readFact : MT := (t_LawR_readFact, P_LawR, [], [])
theorem T_LawR_readFact : TabOK i_LawR_readFact M_LawR_readFact := tab_ok (by decide +kernel)
theorem H_LawR_readFact : ThrOK i_LawR_readFact M_LawR_readFact := ⟨fa_n, rfl, fa_n⟩
def t_Law_addCode : List (Nat × Instr × Nat) := [(0, .aload_n 0, 1), (1, .getfield 34, 3), (4, .sipush 400, 3), (7, .if_icmp .ge 23, 3), (10, .aload_n 0, 1), (11, .getfield 25, 3), (14, .aload_n 0, 1), (15, .getfield 34, 3), (18, .iload_n 1, 1), (19, .iastore, 1), (20, .aload_n 0, 1), (21, .dup, 1), (22, .getfield 34, 3), (25, .iconst 1, 1), (26, .iadd, 1), (27, .putfield 34, 3), (30, .return_, 1)]
def M_Law_addCode : MT := (t_Law_addCode, P_Law, [], [])
theorem T_Law_addCode : TabOK i_Law_addCode M_Law_addCode := tab_ok (by decide +kernel)
theorem H_Law_addCode : ThrOK i_Law_addCode M_Law_addCode := ⟨fa_n, rfl, fa_n⟩
def t_LawR_partHere : List (Nat × Instr × Nat) := [(0, .aload_n 0, 1), (1, .getfield 27, 3), (4, .iconst 0, 1), (5, .sipush 999, 3), (8, .invokevirtual 111, 3), (11, .ifCond .eq 11, 3), (14, .aload_n 0, 1), (15, .getfield 27, 3), (18, .getfield 115, 3), (21, .ireturn, 1), (22, .aload_n 0, 1), (23, .getfield 27, 3), (26, .ldc 118, 2), (28, .invokevirtual 33, 3), (31, .ifCond .eq 5, 3), (34, .iconst (-1), 1), (35, .ireturn, 1), (36, .aload_n 0, 1), (37, .getfield 27, 3), (40, .ldc 120, 2), (42, .invokevirtual 33, 3), (45, .ifCond .eq 6, 3), (48, .bipush (-2), 2), (50, .ireturn, 1), (51, .aload_n 0, 1), (52, .getfield 27, 3), (55, .ldc 122, 2), (57, .invokevirtual 33, 3), (60, .ifCond .eq 6, 3), (63, .bipush (-3), 2), (65, .ireturn, 1), (66, .aload_n 0, 1), (67, .getfield 27, 3), (70, .ldc 124, 2), (72, .invokevirtual 33, 3), (75, .ifCond .eq 6, 3), (78, .bipush (-4), 2), (80, .ireturn, 1), (81, .aload_n 0, 1), (82, .getfield 27, 3), (85, .ldc 126, 2), (87, .invokevirtual 33, 3), (90, .ifCond .eq 6, 3), (93, .bipush (-5), 2), (95, .ireturn, 1), (96, .aload_n 0, 1), (97, .getfield 27, 3), (100, .ldc 128, 2), (102, .invokevirtual 33, 3), (105, .ifCond .eq 6, 3), (108, .bipush (-6), 2), (110, .ireturn, 1), (111, .aload_n 0, 1), (112, .getfield 27, 3), (115, .ldc 130, 2), (117, .invokevirtual 33, 3), (120, .ifCond .eq 8, 3), (123, .bipush (-7), 2), (125, .goto 5, 3), (128, .bipush (-16), 2), (130, .ireturn, 1)]
def M_LawR_partHere : MT := (t_LawR_partHere, P_LawR, [], [])
theorem T_LawR_partHere : TabOK i_LawR_partHere M_LawR_partHere := tab_ok (by decide +kernel)
theorem H_LawR_partHere : ThrOK i_LawR_partHere M_LawR_partHere := ⟨fa_n, rfl, fa_n⟩
def t_LawR_readClosings : List (Nat × Instr × Nat) := [(0, .aload_n 0, 1), (1, .bipush (-12), 2), (3, .invokevirtual 86, 3), (6, .iconst 0, 1), (7, .istore_n 1, 1), (8, .iload_n 1, 1), (9, .bipush 6, 2), (11, .if_icmp .ge 70, 3), (14, .aload_n 0, 1), (15, .getfield 70, 3), (18, .ifCond .le 63, 3), (21, .aload_n 0, 1), (22, .getfield 27, 3), (25, .bipush 41, 2), (27, .invokevirtual 99, 3), (30, .ifCond .eq 51, 3), (33, .aload_n 0, 1), (34, .bipush (-14), 2), (36, .invokevirtual 86, 3), (39, .aload_n 0, 1), (40, .dup, 1), (41, .getfield 63, 3), (44, .iconst 1, 1), (45, .isub, 1), (46, .putfield 63, 3), (49, .aload_n 0, 1), (50, .dup, 1), (51, .getfield 70, 3), (54, .iconst 1, 1), (55, .isub, 1), (56, .putfield 70, 3), (59, .aload_n 0, 1), (60, .dup, 1), (61, .getfield 67, 3), (64, .iconst 1, 1), (65, .isub, 1), (66, .putfield 67, 3), (69, .aload_n 0, 1), (70, .bipush (-12), 2), (72, .invokevirtual 86, 3), (75, .iinc 1 1, 3), (78, .goto (-70), 3), (81, .return_, 1)]
def M_LawR_readClosings : MT := (t_LawR_readClosings, P_LawR, [], [])
theorem T_LawR_readClosings : TabOK i_LawR_readClosings M_LawR_readClosings := tab_ok (by decide +kernel)
theorem H_LawR_readClosings : ThrOK i_LawR_readClosings M_LawR_readClosings := ⟨fa_n, rfl, fa_n⟩
def t_LawR_settle : List (Nat × Instr × Nat) := [(0, .aload_n 0, 1), (1, .getfield 63, 3), (4, .iconst 1, 1), (5, .isub, 1), (6, .istore_n 2, 1), (7, .iload_n 2, 1), (8, .ifCond .lt 62, 3), (11, .aload_n 0, 1), (12, .getfield 20, 3), (15, .iload_n 2, 1), (16, .iaload, 1), (17, .iload_n 1, 1), (18, .if_icmp .lt 52, 3), (21, .aload_n 0, 1), (22, .getfield 14, 3), (25, .aload_n 0, 1), (26, .getfield 20, 3), (29, .iload_n 2, 1), (30, .iaload, 1), (31, .invokevirtual 104, 3), (34, .aload_n 0, 1), (35, .dup, 1), (36, .getfield 67, 3), (39, .aload_n 0, 1), (40, .getfield 20, 3), (43, .iload_n 2, 1), (44, .iaload, 1), (45, .bipush (-12), 2), (47, .if_icmp .ne 7, 3), (50, .iconst 1, 1), (51, .goto 4, 3), (54, .iconst 0, 1), (55, .isub, 1), (56, .putfield 67, 3), (59, .aload_n 0, 1), (60, .iload_n 2, 1), (61, .putfield 63, 3), (64, .iinc 2 (-1), 3), (67, .goto (-60), 3), (70, .return_, 1)]
def M_LawR_settle : MT := (t_LawR_settle, P_LawR, [], [])
theorem T_LawR_settle : TabOK i_LawR_settle M_LawR_settle := tab_ok (by decide +kernel)
theorem H_LawR_settle : ThrOK i_LawR_settle M_LawR_settle := ⟨fa_n, rfl, fa_n⟩
def t_Tape_takeSign : List (Nat × Instr × Nat) := [(0, .aload_n 0, 1), (1, .iload_n 1, 1), (2, .invokevirtual 54, 3), (5, .ifCond .ne 5, 3), (8, .iconst 0, 1), (9, .ireturn, 1), (10, .aload_n 0, 1), (11, .invokevirtual 25, 3), (14, .iconst 1, 1), (15, .ireturn, 1)]
def M_Tape_takeSign : MT := (t_Tape_takeSign, P_Tape, [], [])
theorem T_Tape_takeSign : TabOK i_Tape_takeSign M_Tape_takeSign := tab_ok (by decide +kernel)
theorem H_Tape_takeSign : ThrOK i_Tape_takeSign M_Tape_takeSign := ⟨fa_n, rfl, fa_n⟩
def t_Law_addLine : List (Nat × Instr × Nat) := [(0, .aload_n 0, 1), (1, .getfield 9, 3), (4, .ifCond .lt 55, 3), (7, .aload_n 0, 1), (8, .getfield 9, 3), (11, .bipush 12, 2), (13, .if_icmp .ge 46, 3), (16, .aload_n 0, 1), (17, .getfield 15, 3), (20, .aload_n 0, 1), (21, .getfield 9, 3), (24, .iload_n 1, 1), (25, .iastore, 1), (26, .aload_n 0, 1), (27, .getfield 19, 3), (30, .aload_n 0, 1), (31, .getfield 9, 3), (34, .iload_n 2, 1), (35, .iastore, 1), (36, .aload_n 0, 1), (37, .getfield 22, 3), (40, .aload_n 0, 1), (41, .getfield 9, 3), (44, .aload_n 0, 1), (45, .getfield 34, 3), (48, .iastore, 1), (49, .aload_n 0, 1), (50, .dup, 1), (51, .getfield 9, 3), (54, .iconst 1, 1), (55, .iadd, 1), (56, .putfield 9, 3), (59, .return_, 1)]
def M_Law_addLine : MT := (t_Law_addLine, P_Law, [], [])
theorem T_Law_addLine : TabOK i_Law_addLine M_Law_addLine := tab_ok (by decide +kernel)
theorem H_Law_addLine : ThrOK i_Law_addLine M_Law_addLine := ⟨fa_n, rfl, fa_n⟩
def t_SchR_readLine : List (Nat × Instr × Nat) := [(0, .aload_n 0, 1), (1, .getfield 38, 3), (4, .ldc 42, 2), (6, .invokevirtual 44, 3), (9, .ifCond .eq 28, 3), (12, .aload_n 0, 1), (13, .getfield 14, 3), (16, .getfield 50, 3), (19, .bipush 10, 2), (21, .if_icmp .ge 14, 3), (24, .aload_n 0, 1), (25, .invokevirtual 54, 3), (28, .ifCond .eq 7, 3), (31, .iconst 1, 1), (32, .goto 4, 3), (35, .iconst 0, 1), (36, .ireturn, 1), (37, .aload_n 0, 1), (38, .getfield 38, 3), (41, .ldc 58, 2), (43, .invokevirtual 44, 3), (46, .ifCond .eq 28, 3), (49, .aload_n 0, 1), (50, .getfield 14, 3), (53, .getfield 60, 3), (56, .bipush 10, 2), (58, .if_icmp .ge 14, 3), (61, .aload_n 0, 1), (62, .invokevirtual 63, 3), (65, .ifCond .eq 7, 3), (68, .iconst 1, 1), (69, .goto 4, 3), (72, .iconst 0, 1), (73, .ireturn, 1), (74, .aload_n 0, 1), (75, .getfield 38, 3), (78, .ldc 66, 2), (80, .invokevirtual 44, 3), (83, .ifCond .eq 28, 3), (86, .aload_n 0, 1), (87, .getfield 14, 3), (90, .getfield 68, 3), (93, .bipush 12, 2), (95, .if_icmp .ge 14, 3), (98, .aload_n 0, 1), (99, .invokevirtual 71, 3), (102, .ifCond .eq 7, 3), (105, .iconst 1, 1), (106, .goto 4, 3), (109, .iconst 0, 1), (110, .ireturn, 1), (111, .aload_n 0, 1), (112, .getfield 38, 3), (115, .ldc 74, 2), (117, .invokevirtual 76, 3), (120, .ifCond .eq 8, 3), (123, .aload_n 0, 1), (124, .invokevirtual 79, 3), (127, .ireturn, 1), (128, .aload_n 0, 1), (129, .getfield 38, 3), (132, .ldc 82, 2), (134, .invokevirtual 76, 3), (137, .ifCond .eq 8, 3), (140, .aload_n 0, 1), (141, .invokevirtual 84, 3), (144, .ireturn, 1), (145, .aload_n 0, 1), (146, .getfield 38, 3), (149, .ldc 87, 2), (151, .invokevirtual 76, 3), (154, .ifCond .eq 14, 3), (157, .aload_n 0, 1), (158, .invokevirtual 89, 3), (161, .ifCond .eq 7, 3), (164, .iconst 1, 1), (165, .goto 4, 3), (168, .iconst 0, 1), (169, .ireturn, 1)]
def M_SchR_readLine : MT := (t_SchR_readLine, P_SchR, [], [])
theorem T_SchR_readLine : TabOK i_SchR_readLine M_SchR_readLine := tab_ok (by decide +kernel)
theorem H_SchR_readLine : ThrOK i_SchR_readLine M_SchR_readLine := ⟨fa_n, rfl, fa_n⟩
def t_SchR_readThing : List (Nat × Instr × Nat) := [(0, .aload_n 0, 1), (1, .getfield 38, 3), (4, .invokevirtual 92, 3), (7, .aload_n 0, 1), (8, .getfield 38, 3), (11, .iconst 1, 1), (12, .bipush 6, 2), (14, .invokevirtual 95, 3), (17, .istore_n 1, 1), (18, .iload_n 1, 1), (19, .iconst (-1), 1), (20, .if_icmp .ne 5, 3), (23, .iconst 0, 1), (24, .ireturn, 1), (25, .aload_n 0, 1), (26, .getfield 14, 3), (29, .getfield 99, 3), (32, .aload_n 0, 1), (33, .getfield 14, 3), (36, .getfield 50, 3), (39, .iload_n 1, 1), (40, .iastore, 1), (41, .aload_n 0, 1), (42, .getfield 14, 3), (45, .dup, 1), (46, .getfield 50, 3), (49, .iconst 1, 1), (50, .iadd, 1), (51, .putfield 50, 3), (54, .iconst 1, 1), (55, .ireturn, 1)]
def M_SchR_readThing : MT := (t_SchR_readThing, P_SchR, [], [])
theorem T_SchR_readThing : TabOK i_SchR_readThing M_SchR_readThing := tab_ok (by decide +kernel)
theorem H_SchR_readThing : ThrOK i_SchR_readThing M_SchR_readThing := ⟨fa_n, rfl, fa_n⟩
def t_SchR_readPerson : List (Nat × Instr × Nat) := [(0, .aload_n 0, 1), (1, .getfield 38, 3), (4, .invokevirtual 92, 3), (7, .aload_n 0, 1), (8, .getfield 38, 3), (11, .iconst 0, 1), (12, .bipush 9, 2), (14, .invokevirtual 95, 3), (17, .istore_n 1, 1), (18, .iload_n 1, 1), (19, .iconst (-1), 1), (20, .if_icmp .eq 42, 3), (23, .aload_n 0, 1), (24, .getfield 38, 3), (27, .iconst 0, 1), (28, .bipush 9, 2), (30, .invokevirtual 103, 3), (33, .ifCond .eq 29, 3), (36, .aload_n 0, 1), (37, .getfield 23, 3), (40, .iload_n 1, 1), (41, .aload_n 0, 1), (42, .getfield 38, 3), (45, .getfield 107, 3), (48, .aload_n 0, 1), (49, .getfield 14, 3), (52, .getfield 60, 3), (55, .invokevirtual 110, 3), (58, .iconst (-1), 1), (59, .if_icmp .eq 5, 3), (62, .iconst 0, 1), (63, .ireturn, 1), (64, .aload_n 0, 1), (65, .getfield 38, 3), (68, .iconst 0, 1), (69, .bipush 9, 2), (71, .invokevirtual 95, 3), (74, .istore_n 2, 1), (75, .aload_n 0, 1), (76, .getfield 38, 3), (79, .ldc 114, 2), (81, .invokevirtual 76, 3), (84, .ifCond .eq 16, 3), (87, .aload_n 0, 1), (88, .getfield 38, 3), (91, .iconst 0, 1), (92, .bipush 9, 2), (94, .invokevirtual 95, 3), (97, .goto 4, 3), (100, .iconst (-1), 1), (101, .istore_n 3, 1), (102, .iload_n 3, 1), (103, .iconst (-1), 1), (104, .if_icmp .ne 5, 3), (107, .iconst 0, 1), (108, .ireturn, 1), (109, .aload_n 0, 1), (110, .getfield 38, 3), (113, .ldc 116, 2), (115, .invokevirtual 76, 3), (118, .ifCond .eq 16, 3), (121, .aload_n 0, 1), (122, .getfield 38, 3), (125, .iconst 0, 1), (126, .bipush 100, 2), (128, .invokevirtual 95, 3), (131, .goto 4, 3), (134, .iconst (-1), 1), (135, .istore 4, 2), (137, .iload 4, 2), (139, .iconst (-1), 1), (140, .if_icmp .ne 5, 3), (143, .iconst 0, 1), (144, .ireturn, 1), (145, .aload_n 0, 1), (146, .getfield 38, 3), (149, .ldc 118, 2), (151, .invokevirtual 76, 3), (154, .ifCond .eq 10, 3), (157, .aload_n 0, 1), (158, .invokevirtual 120, 3), (161, .goto 4, 3), (164, .iconst 0, 1), (165, .istore 5, 2), (167, .iload 5, 2), (169, .iconst (-1), 1), (170, .if_icmp .ne 5, 3), (173, .iconst 0, 1), (174, .ireturn, 1), (175, .aload_n 0, 1), (176, .getfield 14, 3), (179, .getfield 60, 3), (182, .istore 6, 2), (184, .aload_n 0, 1), (185, .getfield 23, 3), (188, .iload 6, 2), (190, .iload_n 1, 1), (191, .iload_n 2, 1), (192, .invokevirtual 124, 3), (195, .aload_n 0, 1), (196, .getfield 23, 3), (199, .getfield 128, 3), (202, .iload 6, 2), (204, .iload 5, 2), (206, .iastore, 1), (207, .aload_n 0, 1), (208, .getfield 14, 3), (211, .getfield 130, 3), (214, .iload 6, 2), (216, .iload_n 3, 1), (217, .iastore, 1), (218, .aload_n 0, 1), (219, .getfield 14, 3), (222, .getfield 133, 3), (225, .iload 6, 2), (227, .iload 4, 2), (229, .iastore, 1), (230, .aload_n 0, 1), (231, .getfield 14, 3), (234, .dup, 1), (235, .getfield 60, 3), (238, .iconst 1, 1), (239, .iadd, 1), (240, .putfield 60, 3), (243, .iconst 1, 1), (244, .ireturn, 1)]
def M_SchR_readPerson : MT := (t_SchR_readPerson, P_SchR, [], [])
theorem T_SchR_readPerson : TabOK i_SchR_readPerson M_SchR_readPerson := tab_ok (by decide +kernel)
theorem H_SchR_readPerson : ThrOK i_SchR_readPerson M_SchR_readPerson := ⟨fa_n, rfl, fa_n⟩
def t_Sta_seatedAt : List (Nat × Instr × Nat) := [(0, .iconst 0, 1), (1, .istore 4, 2), (3, .iload 4, 2), (5, .iload_n 3, 1), (6, .if_icmp .ge 34, 3), (9, .aload_n 0, 1), (10, .getfield 15, 3), (13, .iload 4, 2), (15, .iaload, 1), (16, .iload_n 1, 1), (17, .if_icmp .ne 17, 3), (20, .aload_n 0, 1), (21, .getfield 18, 3), (24, .iload 4, 2), (26, .iaload, 1), (27, .iload_n 2, 1), (28, .if_icmp .ne 6, 3), (31, .iload 4, 2), (33, .ireturn, 1), (34, .iinc 4 1, 3), (37, .goto (-34), 3), (40, .iconst (-1), 1), (41, .ireturn, 1)]
def M_Sta_seatedAt : MT := (t_Sta_seatedAt, P_Sta, [], [])
theorem T_Sta_seatedAt : TabOK i_Sta_seatedAt M_Sta_seatedAt := tab_ok (by decide +kernel)
theorem H_Sta_seatedAt : ThrOK i_Sta_seatedAt M_Sta_seatedAt := ⟨fa_n, rfl, fa_n⟩
def t_SchR_readThings : List (Nat × Instr × Nat) := [(0, .iconst 0, 1), (1, .istore_n 1, 1), (2, .iconst 0, 1), (3, .istore_n 2, 1), (4, .iload_n 2, 1), (5, .sipush 400, 3), (8, .if_icmp .ge 54, 3), (11, .aload_n 0, 1), (12, .getfield 38, 3), (15, .iconst 0, 1), (16, .aload_n 0, 1), (17, .getfield 14, 3), (20, .getfield 50, 3), (23, .iconst 1, 1), (24, .isub, 1), (25, .invokevirtual 95, 3), (28, .istore_n 3, 1), (29, .iload_n 3, 1), (30, .iconst (-1), 1), (31, .if_icmp .ne 5, 3), (34, .iconst (-1), 1), (35, .ireturn, 1), (36, .iload_n 1, 1), (37, .iconst 1, 1), (38, .iload_n 3, 1), (39, .ishl, 1), (40, .ior, 1), (41, .istore_n 1, 1), (42, .aload_n 0, 1), (43, .getfield 38, 3), (46, .getfield 136, 3), (49, .iconst 2, 1), (50, .if_icmp .eq 6, 3), (53, .goto 9, 3), (56, .iinc 2 1, 3), (59, .goto (-55), 3), (62, .iload_n 1, 1), (63, .ireturn, 1)]
def M_SchR_readThings : MT := (t_SchR_readThings, P_SchR, [], [])
theorem T_SchR_readThings : TabOK i_SchR_readThings M_SchR_readThings := tab_ok (by decide +kernel)
theorem H_SchR_readThings : ThrOK i_SchR_readThings M_SchR_readThings := ⟨fa_n, rfl, fa_n⟩
def t_Sta_seat : List (Nat × Instr × Nat) := [(0, .aload_n 0, 1), (1, .getfield 15, 3), (4, .iload_n 1, 1), (5, .iload_n 2, 1), (6, .iastore, 1), (7, .aload_n 0, 1), (8, .getfield 18, 3), (11, .iload_n 1, 1), (12, .iload_n 3, 1), (13, .iastore, 1), (14, .return_, 1)]
def M_Sta_seat : MT := (t_Sta_seat, P_Sta, [], [])
theorem T_Sta_seat : TabOK i_Sta_seat M_Sta_seat := tab_ok (by decide +kernel)
theorem H_Sta_seat : ThrOK i_Sta_seat M_Sta_seat := ⟨fa_n, rfl, fa_n⟩
def t_SchR_readRule : List (Nat × Instr × Nat) := [(0, .aload_n 0, 1), (1, .getfield 38, 3), (4, .invokevirtual 92, 3), (7, .aload_n 0, 1), (8, .getfield 38, 3), (11, .iconst 0, 1), (12, .aload_n 0, 1), (13, .getfield 14, 3), (16, .getfield 50, 3), (19, .iconst 1, 1), (20, .isub, 1), (21, .invokevirtual 95, 3), (24, .istore_n 1, 1), (25, .iload_n 1, 1), (26, .iconst (-1), 1), (27, .if_icmp .ne 7, 3), (30, .iconst (-1), 1), (31, .goto 20, 3), (34, .aload_n 0, 1), (35, .getfield 38, 3), (38, .iconst 0, 1), (39, .aload_n 0, 1), (40, .getfield 14, 3), (43, .getfield 50, 3), (46, .iconst 1, 1), (47, .isub, 1), (48, .invokevirtual 95, 3), (51, .istore_n 2, 1), (52, .iload_n 2, 1), (53, .iconst (-1), 1), (54, .if_icmp .ne 7, 3), (57, .iconst (-1), 1), (58, .goto 20, 3), (61, .aload_n 0, 1), (62, .getfield 38, 3), (65, .iconst 0, 1), (66, .aload_n 0, 1), (67, .getfield 14, 3), (70, .getfield 50, 3), (73, .iconst 1, 1), (74, .isub, 1), (75, .invokevirtual 95, 3), (78, .istore_n 3, 1), (79, .iload_n 3, 1), (80, .iconst (-1), 1), (81, .if_icmp .ne 5, 3), (84, .iconst 0, 1), (85, .ireturn, 1), (86, .aload_n 0, 1), (87, .getfield 14, 3), (90, .getfield 139, 3), (93, .aload_n 0, 1), (94, .getfield 14, 3), (97, .getfield 68, 3), (100, .iload_n 1, 1), (101, .iastore, 1), (102, .aload_n 0, 1), (103, .getfield 14, 3), (106, .getfield 142, 3), (109, .aload_n 0, 1), (110, .getfield 14, 3), (113, .getfield 68, 3), (116, .iload_n 2, 1), (117, .iastore, 1), (118, .aload_n 0, 1), (119, .getfield 14, 3), (122, .getfield 145, 3), (125, .aload_n 0, 1), (126, .getfield 14, 3), (129, .getfield 68, 3), (132, .iload_n 3, 1), (133, .iastore, 1), (134, .aload_n 0, 1), (135, .getfield 14, 3), (138, .dup, 1), (139, .getfield 68, 3), (142, .iconst 1, 1), (143, .iadd, 1), (144, .putfield 68, 3), (147, .iconst 1, 1), (148, .ireturn, 1)]
def M_SchR_readRule : MT := (t_SchR_readRule, P_SchR, [], [])
theorem T_SchR_readRule : TabOK i_SchR_readRule M_SchR_readRule := tab_ok (by decide +kernel)
theorem H_SchR_readRule : ThrOK i_SchR_readRule M_SchR_readRule := ⟨fa_n, rfl, fa_n⟩
def t_SchR_readSaid : List (Nat × Instr × Nat) := [(0, .aload_n 0, 1), (1, .getfield 38, 3), (4, .iconst 0, 1), (5, .aload_n 0, 1), (6, .getfield 14, 3), (9, .getfield 50, 3), (12, .iconst 1, 1), (13, .isub, 1), (14, .invokevirtual 95, 3), (17, .istore_n 1, 1), (18, .iload_n 1, 1), (19, .iconst (-1), 1), (20, .if_icmp .ne 7, 3), (23, .iconst (-1), 1), (24, .goto 22, 3), (27, .aload_n 0, 1), (28, .getfield 38, 3), (31, .iconst 0, 1), (32, .aload_n 0, 1), (33, .getfield 14, 3), (36, .getfield 99, 3), (39, .iload_n 1, 1), (40, .iaload, 1), (41, .iconst 1, 1), (42, .isub, 1), (43, .invokevirtual 95, 3), (46, .istore_n 2, 1), (47, .iload_n 2, 1), (48, .iconst (-1), 1), (49, .if_icmp .ne 5, 3), (52, .iconst 0, 1), (53, .ireturn, 1), (54, .aload_n 0, 1), (55, .getfield 23, 3), (58, .dup, 1), (59, .getfield 148, 3), (62, .lconst 1, 1), (63, .iload_n 1, 1), (64, .iload_n 2, 1), (65, .invokestatic 152, 3), (68, .lshl, 1), (69, .lor, 1), (70, .putfield 148, 3), (73, .iconst 1, 1), (74, .ireturn, 1)]
def M_SchR_readSaid : MT := (t_SchR_readSaid, P_SchR, [], [])
theorem T_SchR_readSaid : TabOK i_SchR_readSaid M_SchR_readSaid := tab_ok (by decide +kernel)
theorem H_SchR_readSaid : ThrOK i_SchR_readSaid M_SchR_readSaid := ⟨fa_n, rfl, fa_n⟩
def t_SchR_readAbsent : List (Nat × Instr × Nat) := [(0, .aload_n 0, 1), (1, .getfield 38, 3), (4, .iconst 0, 1), (5, .aload_n 0, 1), (6, .getfield 14, 3), (9, .getfield 60, 3), (12, .iconst 1, 1), (13, .isub, 1), (14, .invokevirtual 95, 3), (17, .istore_n 1, 1), (18, .iload_n 1, 1), (19, .iconst (-1), 1), (20, .if_icmp .ne 5, 3), (23, .iconst 0, 1), (24, .ireturn, 1), (25, .aload_n 0, 1), (26, .getfield 23, 3), (29, .dup, 1), (30, .getfield 155, 3), (33, .iconst 1, 1), (34, .iload_n 1, 1), (35, .ishl, 1), (36, .ior, 1), (37, .putfield 155, 3), (40, .iconst 1, 1), (41, .ireturn, 1)]
def M_SchR_readAbsent : MT := (t_SchR_readAbsent, P_SchR, [], [])
theorem T_SchR_readAbsent : TabOK i_SchR_readAbsent M_SchR_readAbsent := tab_ok (by decide +kernel)
theorem H_SchR_readAbsent : ThrOK i_SchR_readAbsent M_SchR_readAbsent := ⟨fa_n, rfl, fa_n⟩
def t_SchR_readLoud : List (Nat × Instr × Nat) := [(0, .aload_n 0, 1), (1, .getfield 38, 3), (4, .iconst 0, 1), (5, .bipush 9, 2), (7, .invokevirtual 95, 3), (10, .istore_n 1, 1), (11, .iload_n 1, 1), (12, .iconst (-1), 1), (13, .if_icmp .ne 5, 3), (16, .iconst 0, 1), (17, .ireturn, 1), (18, .aload_n 0, 1), (19, .getfield 14, 3), (22, .iload_n 1, 1), (23, .putfield 157, 3), (26, .iconst 1, 1), (27, .ireturn, 1)]
def M_SchR_readLoud : MT := (t_SchR_readLoud, P_SchR, [], [])
theorem T_SchR_readLoud : TabOK i_SchR_readLoud M_SchR_readLoud := tab_ok (by decide +kernel)
theorem H_SchR_readLoud : ThrOK i_SchR_readLoud M_SchR_readLoud := ⟨fa_n, rfl, fa_n⟩
def t_Tape_useUp : List (Nat × Instr × Nat) := [(0, .aload_n 0, 1), (1, .getfield 19, 3), (4, .istore_n 1, 1), (5, .aload_n 0, 1), (6, .iconst 0, 1), (7, .putfield 19, 3), (10, .iload_n 1, 1), (11, .ireturn, 1)]
def M_Tape_useUp : MT := (t_Tape_useUp, P_Tape, [], [])
theorem T_Tape_useUp : TabOK i_Tape_useUp M_Tape_useUp := tab_ok (by decide +kernel)
theorem H_Tape_useUp : ThrOK i_Tape_useUp M_Tape_useUp := ⟨fa_n, rfl, fa_n⟩
def t_SchR_deliver : List (Nat × Instr × Nat) := [(0, .aload_n 1, 1), (1, .getfield 27, 3), (4, .aload_n 0, 1), (5, .getfield 14, 3), (8, .invokevirtual 30, 3), (11, .aload_n 1, 1), (12, .getfield 34, 3), (15, .aload_n 0, 1), (16, .getfield 23, 3), (19, .invokevirtual 35, 3), (22, .return_, 1)]
def M_SchR_deliver : MT := (t_SchR_deliver, P_SchR, [], [])
theorem T_SchR_deliver : TabOK i_SchR_deliver M_SchR_deliver := tab_ok (by decide +kernel)
theorem H_SchR_deliver : ThrOK i_SchR_deliver M_SchR_deliver := ⟨fa_n, rfl, fa_n⟩
def t_LawR_begin : List (Nat × Instr × Nat) := [(0, .aload_n 0, 1), (1, .getfield 14, 3), (4, .invokevirtual 24, 3), (7, .return_, 1)]
def M_LawR_begin : MT := (t_LawR_begin, P_LawR, [], [])
theorem T_LawR_begin : TabOK i_LawR_begin M_LawR_begin := tab_ok (by decide +kernel)
theorem H_LawR_begin : ThrOK i_LawR_begin M_LawR_begin := ⟨fa_n, rfl, fa_n⟩
def t_Law_clear : List (Nat × Instr × Nat) := [(0, .aload_n 0, 1), (1, .iconst 0, 1), (2, .putfield 9, 3), (5, .aload_n 0, 1), (6, .iconst 0, 1), (7, .putfield 34, 3), (10, .return_, 1)]
def M_Law_clear : MT := (t_Law_clear, P_Law, [], [])
theorem T_Law_clear : TabOK i_Law_clear M_Law_clear := tab_ok (by decide +kernel)
theorem H_Law_clear : ThrOK i_Law_clear M_Law_clear := ⟨fa_n, rfl, fa_n⟩
def t_Sta_isKnown : List (Nat × Instr × Nat) := [(0, .aload_n 0, 1), (1, .getfield 9, 3), (4, .iload_n 1, 1), (5, .iaload, 1), (6, .iload_n 2, 1), (7, .ishr, 1), (8, .iconst 1, 1), (9, .iand, 1), (10, .ifCond .eq 7, 3), (13, .iconst 1, 1), (14, .goto 4, 3), (17, .iconst 0, 1), (18, .ireturn, 1)]
def M_Sta_isKnown : MT := (t_Sta_isKnown, P_Sta, [], [])
theorem T_Sta_isKnown : TabOK i_Sta_isKnown M_Sta_isKnown := tab_ok (by decide +kernel)
theorem H_Sta_isKnown : ThrOK i_Sta_isKnown M_Sta_isKnown := ⟨fa_n, rfl, fa_n⟩
def t_Sta_draw : List (Nat × Instr × Nat) := [(0, .aload_n 0, 1), (1, .ldc 58, 2), (3, .aload_n 0, 1), (4, .getfield 21, 3), (7, .imul, 1), (8, .sipush 12345, 3), (11, .iadd, 1), (12, .putfield 21, 3), (15, .aload_n 0, 1), (16, .getfield 21, 3), (19, .bipush 16, 2), (21, .iushr, 1), (22, .sipush 32767, 3), (25, .iand, 1), (26, .ireturn, 1)]
def M_Sta_draw : MT := (t_Sta_draw, P_Sta, [], [])
theorem T_Sta_draw : TabOK i_Sta_draw M_Sta_draw := tab_ok (by decide +kernel)
theorem H_Sta_draw : ThrOK i_Sta_draw M_Sta_draw := ⟨fa_n, rfl, fa_n⟩
def t_Sta_swapSeats : List (Nat × Instr × Nat) := [(0, .aload_n 0, 1), (1, .getfield 15, 3), (4, .iload_n 1, 1), (5, .iaload, 1), (6, .istore_n 3, 1), (7, .aload_n 0, 1), (8, .getfield 18, 3), (11, .iload_n 1, 1), (12, .iaload, 1), (13, .istore 4, 2), (15, .aload_n 0, 1), (16, .iload_n 1, 1), (17, .aload_n 0, 1), (18, .getfield 15, 3), (21, .iload_n 2, 1), (22, .iaload, 1), (23, .aload_n 0, 1), (24, .getfield 18, 3), (27, .iload_n 2, 1), (28, .iaload, 1), (29, .invokevirtual 54, 3), (32, .aload_n 0, 1), (33, .iload_n 2, 1), (34, .iload_n 3, 1), (35, .iload 4, 2), (37, .invokevirtual 54, 3), (40, .return_, 1)]
def M_Sta_swapSeats : MT := (t_Sta_swapSeats, P_Sta, [], [])
theorem T_Sta_swapSeats : TabOK i_Sta_swapSeats M_Sta_swapSeats := tab_ok (by decide +kernel)
theorem H_Sta_swapSeats : ThrOK i_Sta_swapSeats M_Sta_swapSeats := ⟨fa_n, rfl, fa_n⟩
def t_Int_numberOfTrailingZeros : List (Nat × Instr × Nat) := [(0, .iload_n 0, 1), (1, .iconst (-1), 1), (2, .ixor, 1), (3, .iload_n 0, 1), (4, .iconst 1, 1), (5, .isub, 1), (6, .iand, 1), (7, .istore_n 0, 1), (8, .iload_n 0, 1), (9, .ifCond .gt 8, 3), (12, .iload_n 0, 1), (13, .bipush 32, 2), (15, .iand, 1), (16, .ireturn, 1), (17, .iconst 1, 1), (18, .istore_n 1, 1), (19, .iload_n 0, 1), (20, .ldc_w 264, 3), (23, .if_icmp .le 11, 3), (26, .iinc 1 16, 3), (29, .iload_n 0, 1), (30, .bipush 16, 2), (32, .iushr, 1), (33, .istore_n 0, 1), (34, .iload_n 0, 1), (35, .sipush 256, 3), (38, .if_icmp .le 11, 3), (41, .iinc 1 8, 3), (44, .iload_n 0, 1), (45, .bipush 8, 2), (47, .iushr, 1), (48, .istore_n 0, 1), (49, .iload_n 0, 1), (50, .bipush 16, 2), (52, .if_icmp .le 10, 3), (55, .iinc 1 4, 3), (58, .iload_n 0, 1), (59, .iconst 4, 1), (60, .iushr, 1), (61, .istore_n 0, 1), (62, .iload_n 0, 1), (63, .iconst 4, 1), (64, .if_icmp .le 10, 3), (67, .iinc 1 2, 3), (70, .iload_n 0, 1), (71, .iconst 2, 1), (72, .iushr, 1), (73, .istore_n 0, 1), (74, .iload_n 1, 1), (75, .iload_n 0, 1), (76, .iconst 1, 1), (77, .iushr, 1), (78, .iadd, 1), (79, .ireturn, 1)]
def M_Int_numberOfTrailingZeros : MT := (t_Int_numberOfTrailingZeros, P_Int, [], [])
theorem T_Int_numberOfTrailingZeros : TabOK i_Int_numberOfTrailingZeros M_Int_numberOfTrailingZeros := tab_ok (by decide +kernel)
theorem H_Int_numberOfTrailingZeros : ThrOK i_Int_numberOfTrailingZeros M_Int_numberOfTrailingZeros := ⟨fa_n, rfl, fa_n⟩
def t_Arr_fill : List (Nat × Instr × Nat) := [(0, .iconst 0, 1), (1, .istore_n 3, 1), (2, .aload_n 0, 1), (3, .arraylength, 1), (4, .istore 4, 2), (6, .iload_n 3, 1), (7, .iload 4, 2), (9, .if_icmp .ge 13, 3), (12, .aload_n 0, 1), (13, .iload_n 3, 1), (14, .lload_n 1, 1), (15, .lastore, 1), (16, .iinc 3 1, 3), (19, .goto (-13), 3), (22, .return_, 1)]
def M_Arr_fill : MT := (t_Arr_fill, P_Arr, [], [])
theorem T_Arr_fill : TabOK i_Arr_fill M_Arr_fill := tab_ok (by decide +kernel)
theorem H_Arr_fill : ThrOK i_Arr_fill M_Arr_fill := ⟨fa_n, rfl, fa_n⟩
def t_Tape_byteAt : List (Nat × Instr × Nat) := [(0, .iload_n 1, 1), (1, .ifCond .lt 23, 3), (4, .iload_n 1, 1), (5, .sipush 400, 3), (8, .if_icmp .ge 16, 3), (11, .aload_n 0, 1), (12, .getfield 9, 3), (15, .iload_n 1, 1), (16, .baload, 1), (17, .sipush 255, 3), (20, .iand, 1), (21, .goto 6, 3), (24, .sipush 255, 3), (27, .ireturn, 1)]
def M_Tape_byteAt : MT := (t_Tape_byteAt, P_Tape, [], [])
theorem T_Tape_byteAt : TabOK i_Tape_byteAt M_Tape_byteAt := tab_ok (by decide +kernel)
theorem H_Tape_byteAt : ThrOK i_Tape_byteAt M_Tape_byteAt := ⟨fa_n, rfl, fa_n⟩
def t_Log_rowBefore : List (Nat × Instr × Nat) := [(0, .iload_n 1, 1), (1, .iconst 1, 1), (2, .isub, 1), (3, .istore 4, 2), (5, .iload 4, 2), (7, .ifCond .lt 23, 3), (10, .aload_n 0, 1), (11, .iload 4, 2), (13, .iload_n 2, 1), (14, .invokevirtual 38, 3), (17, .iload_n 3, 1), (18, .if_icmp .ne 6, 3), (21, .iload 4, 2), (23, .ireturn, 1), (24, .iinc 4 (-1), 3), (27, .goto (-22), 3), (30, .iconst (-1), 1), (31, .ireturn, 1)]
def M_Log_rowBefore : MT := (t_Log_rowBefore, P_Log, [], [])
theorem T_Log_rowBefore : TabOK i_Log_rowBefore M_Log_rowBefore := tab_ok (by decide +kernel)
theorem H_Log_rowBefore : ThrOK i_Log_rowBefore M_Log_rowBefore := ⟨fa_n, rfl, fa_n⟩
def t_Log_learntBy : List (Nat × Instr × Nat) := [(0, .aload_n 0, 1), (1, .getfield 21, 3), (4, .iload_n 1, 1), (5, .iaload, 1), (6, .iload_n 2, 1), (7, .ishr, 1), (8, .iconst 1, 1), (9, .iand, 1), (10, .ifCond .ne 7, 3), (13, .iconst (-1), 1), (14, .goto 17, 3), (17, .aload_n 0, 1), (18, .getfield 24, 3), (21, .iload_n 1, 1), (22, .laload, 1), (23, .iconst 4, 1), (24, .iload_n 2, 1), (25, .imul, 1), (26, .lushr, 1), (27, .l2i, 1), (28, .bipush 15, 2), (30, .iand, 1), (31, .ireturn, 1)]
def M_Log_learntBy : MT := (t_Log_learntBy, P_Log, [], [])
theorem T_Log_learntBy : TabOK i_Log_learntBy M_Log_learntBy := tab_ok (by decide +kernel)
theorem H_Log_learntBy : ThrOK i_Log_learntBy M_Log_learntBy := ⟨fa_n, rfl, fa_n⟩
def t_Log_chainBegin : List (Nat × Instr × Nat) := [(0, .iload_n 2, 1), (1, .istore 4, 2), (3, .aload_n 0, 1), (4, .iload_n 1, 1), (5, .iload_n 2, 1), (6, .iload_n 3, 1), (7, .invokevirtual 48, 3), (10, .istore 5, 2), (12, .iconst 0, 1), (13, .istore 6, 2), (15, .iload 6, 2), (17, .bipush 60, 2), (19, .if_icmp .ge 43, 3), (22, .iload 5, 2), (24, .ifCond .lt 38, 3), (27, .aload_n 0, 1), (28, .getfield 15, 3), (31, .iload 5, 2), (33, .iaload, 1), (34, .istore 4, 2), (36, .aload_n 0, 1), (37, .iload 5, 2), (39, .iload 4, 2), (41, .aload_n 0, 1), (42, .getfield 18, 3), (45, .iload 5, 2), (47, .iaload, 1), (48, .bipush 6, 2), (50, .idiv, 1), (51, .invokevirtual 48, 3), (54, .istore 5, 2), (56, .iinc 6 1, 3), (59, .goto (-44), 3), (62, .iload 4, 2), (64, .ireturn, 1)]
def M_Log_chainBegin : MT := (t_Log_chainBegin, P_Log, [], [])
theorem T_Log_chainBegin : TabOK i_Log_chainBegin M_Log_chainBegin := tab_ok (by decide +kernel)
theorem H_Log_chainBegin : ThrOK i_Log_chainBegin M_Log_chainBegin := ⟨fa_n, rfl, fa_n⟩
def t_Log_chainLength : List (Nat × Instr × Nat) := [(0, .iconst 0, 1), (1, .istore 4, 2), (3, .aload_n 0, 1), (4, .iload_n 1, 1), (5, .iload_n 2, 1), (6, .iload_n 3, 1), (7, .invokevirtual 48, 3), (10, .istore 5, 2), (12, .iload 5, 2), (14, .ifCond .lt 41, 3), (17, .iload 4, 2), (19, .bipush 60, 2), (21, .if_icmp .ge 34, 3), (24, .iinc 4 1, 3), (27, .aload_n 0, 1), (28, .iload 5, 2), (30, .aload_n 0, 1), (31, .getfield 15, 3), (34, .iload 5, 2), (36, .iaload, 1), (37, .aload_n 0, 1), (38, .getfield 18, 3), (41, .iload 5, 2), (43, .iaload, 1), (44, .bipush 6, 2), (46, .idiv, 1), (47, .invokevirtual 48, 3), (50, .istore 5, 2), (52, .goto (-40), 3), (55, .iload 4, 2), (57, .ireturn, 1)]
def M_Log_chainLength : MT := (t_Log_chainLength, P_Log, [], [])
theorem T_Log_chainLength : TabOK i_Log_chainLength M_Log_chainLength := tab_ok (by decide +kernel)
theorem H_Log_chainLength : ThrOK i_Log_chainLength M_Log_chainLength := ⟨fa_n, rfl, fa_n⟩
end
section
/-! tables, by program (wip/whole/gen_tab.py) -/
theorem x_84_88_0 : thrW "SaidOnce" 84 88 0 = true := by decide +kernel
theorem x_100_104_1 : thrW "SaidOnce" 100 104 1 = true := by decide +kernel
theorem x_146_150_3 : thrW "SaidOnce" 146 150 3 = true := by decide +kernel
theorem x_235_239_4 : thrW "SaidOnce" 235 239 4 = true := by decide +kernel
theorem x_417_421_2 : thrW "SaidOnce" 417 421 2 = true := by decide +kernel
def t_SO_feed : List (Nat × Instr × Nat) := [(0, .aload_n 0, 1), (1, .getfield 10, 3), (4, .getfield 65, 3), (7, .sipush 380, 3), (10, .if_icmp .le 5, 3), (13, .iconst (-1), 1), (14, .ireturn, 1), (15, .aload_n 0, 1), (16, .getfield 10, 3), (19, .iload_n 1, 1), (20, .invokevirtual 69, 3), (23, .aload_n 0, 1), (24, .getfield 10, 3), (27, .iload_n 2, 1), (28, .invokevirtual 69, 3), (31, .aload_n 0, 1), (32, .getfield 10, 3), (35, .iload_n 3, 1), (36, .invokevirtual 69, 3), (39, .aload_n 0, 1), (40, .getfield 10, 3), (43, .iload 4, 2), (45, .invokevirtual 69, 3), (48, .aload_n 0, 1), (49, .getfield 10, 3), (52, .iload 5, 2), (54, .invokevirtual 69, 3), (57, .aload_n 0, 1), (58, .getfield 10, 3), (61, .getfield 65, 3), (64, .ireturn, 1)]
def M_SO_feed : MT := (t_SO_feed, P_SO, [], [])
theorem T_SO_feed : TabOK i_SO_feed M_SO_feed := tab_ok (by decide +kernel)
theorem H_SO_feed : ThrOK i_SO_feed M_SO_feed := ⟨fa_n, rfl, fa_n⟩
def t_SO_end : List (Nat × Instr × Nat) := [(0, .iload_n 1, 1), (1, .ifCond .lt 14, 3), (4, .iload_n 1, 1), (5, .aload_n 0, 1), (6, .getfield 10, 3), (9, .getfield 65, 3), (12, .if_icmp .le 5, 3), (15, .iconst 0, 1), (16, .ireturn, 1), (17, .aload_n 0, 1), (18, .getfield 10, 3), (21, .iload_n 1, 1), (22, .putfield 65, 3), (25, .iconst 1, 1), (26, .ireturn, 1)]
def M_SO_end : MT := (t_SO_end, P_SO, [], [])
theorem T_SO_end : TabOK i_SO_end M_SO_end := tab_ok (by decide +kernel)
theorem H_SO_end : ThrOK i_SO_end M_SO_end := ⟨fa_n, rfl, fa_n⟩
def t_SO_fault : List (Nat × Instr × Nat) := [(0, .aload_n 0, 1), (1, .getfield 10, 3), (4, .getfield 127, 3), (7, .ireturn, 1)]
def M_SO_fault : MT := (t_SO_fault, P_SO, [], [])
theorem T_SO_fault : TabOK i_SO_fault M_SO_fault := tab_ok (by decide +kernel)
theorem H_SO_fault : ThrOK i_SO_fault M_SO_fault := ⟨fa_n, rfl, fa_n⟩
def t_SO_store : List (Nat × Instr × Nat) := [(0, .aload_n 0, 1), (1, .getfield 19, 3), (4, .getfield 154, 3), (7, .getfield 202, 3), (10, .lreturn, 1)]
def M_SO_store : MT := (t_SO_store, P_SO, [], [])
theorem T_SO_store : TabOK i_SO_store M_SO_store := tab_ok (by decide +kernel)
theorem H_SO_store : ThrOK i_SO_store M_SO_store := ⟨fa_n, rfl, fa_n⟩
def t_SO_day : List (Nat × Instr × Nat) := [(0, .aload_n 0, 1), (1, .invokevirtual 240, 3), (4, .aload_n 0, 1), (5, .getfield 19, 3), (8, .getfield 154, 3), (11, .getfield 246, 3), (14, .invokestatic 252, 3), (17, .istore_n 1, 1), (18, .aload_n 0, 1), (19, .getfield 19, 3), (22, .getfield 154, 3), (25, .iconst 0, 1), (26, .putfield 246, 3), (29, .aload_n 0, 1), (30, .getfield 19, 3), (33, .getfield 154, 3), (36, .dup, 1), (37, .getfield 257, 3), (40, .iconst 1, 1), (41, .iadd, 1), (42, .putfield 257, 3), (45, .iload_n 1, 1), (46, .ireturn, 1)]
def M_SO_day : MT := (t_SO_day, P_SO, [], [])
theorem T_SO_day : TabOK i_SO_day M_SO_day := tab_ok (by decide +kernel)
theorem H_SO_day : ThrOK i_SO_day M_SO_day := ⟨fa_n, rfl, fa_n⟩
def t_SO_remember : List (Nat × Instr × Nat) := [(0, .aload_n 0, 1), (1, .getfield 108, 3), (4, .bipush 12, 2), (6, .if_icmp .ne 56, 3), (9, .aload_n 0, 1), (10, .getfield 60, 3), (13, .iconst 0, 1), (14, .aaload, 1), (15, .astore_n 1, 1), (16, .iconst 1, 1), (17, .istore_n 2, 1), (18, .iload_n 2, 1), (19, .bipush 12, 2), (21, .if_icmp .ge 23, 3), (24, .aload_n 0, 1), (25, .getfield 60, 3), (28, .iload_n 2, 1), (29, .iconst 1, 1), (30, .isub, 1), (31, .aload_n 0, 1), (32, .getfield 60, 3), (35, .iload_n 2, 1), (36, .aaload, 1), (37, .aastore, 1), (38, .iinc 2 1, 3), (41, .goto (-23), 3), (44, .aload_n 0, 1), (45, .getfield 60, 3), (48, .bipush 11, 2), (50, .aload_n 1, 1), (51, .aastore, 1), (52, .aload_n 0, 1), (53, .dup, 1), (54, .getfield 108, 3), (57, .iconst 1, 1), (58, .isub, 1), (59, .putfield 108, 3), (62, .aload_n 0, 1), (63, .getfield 60, 3), (66, .aload_n 0, 1), (67, .getfield 108, 3), (70, .aaload, 1), (71, .aload_n 0, 1), (72, .getfield 19, 3), (75, .getfield 154, 3), (78, .invokevirtual 394, 3), (81, .aload_n 0, 1), (82, .dup, 1), (83, .getfield 108, 3), (86, .iconst 1, 1), (87, .iadd, 1), (88, .putfield 108, 3), (91, .return_, 1)]
def M_SO_remember : MT := (t_SO_remember, P_SO, [], [])
theorem T_SO_remember : TabOK i_SO_remember M_SO_remember := tab_ok (by decide +kernel)
theorem H_SO_remember : ThrOK i_SO_remember M_SO_remember := ⟨fa_n, rfl, fa_n⟩
def t_SO_sayable : List (Nat × Instr × Nat) := [(0, .aload_n 0, 1), (1, .getfield 19, 3), (4, .aload_n 0, 1), (5, .getfield 19, 3), (8, .invokevirtual 180, 3), (11, .invokevirtual 183, 3), (14, .aload_n 0, 1), (15, .getfield 19, 3), (18, .invokevirtual 266, 3), (21, .iand, 1), (22, .ireturn, 1)]
def M_SO_sayable : MT := (t_SO_sayable, P_SO, [], [])
theorem T_SO_sayable : TabOK i_SO_sayable M_SO_sayable := tab_ok (by decide +kernel)
theorem H_SO_sayable : ThrOK i_SO_sayable M_SO_sayable := ⟨fa_n, rfl, fa_n⟩
def t_Sch_present : List (Nat × Instr × Nat) := [(0, .iconst 1, 1), (1, .aload_n 0, 1), (2, .getfield 12, 3), (5, .getfield 63, 3), (8, .ishl, 1), (9, .iconst 1, 1), (10, .isub, 1), (11, .aload_n 0, 1), (12, .getfield 21, 3), (15, .getfield 66, 3), (18, .iconst (-1), 1), (19, .ixor, 1), (20, .iand, 1), (21, .ireturn, 1)]
def M_Sch_present : MT := (t_Sch_present, P_Sch, [], [])
theorem T_Sch_present : TabOK i_Sch_present M_Sch_present := tab_ok (by decide +kernel)
theorem H_Sch_present : ThrOK i_Sch_present M_Sch_present := ⟨fa_n, rfl, fa_n⟩
def t_Sch_knownBy : List (Nat × Instr × Nat) := [(0, .iconst 0, 1), (1, .istore_n 2, 1), (2, .iconst 0, 1), (3, .istore_n 3, 1), (4, .iload_n 3, 1), (5, .aload_n 0, 1), (6, .getfield 12, 3), (9, .getfield 63, 3), (12, .if_icmp .ge 33, 3), (15, .iload_n 2, 1), (16, .iload_n 1, 1), (17, .iload_n 3, 1), (18, .ishr, 1), (19, .iconst 1, 1), (20, .iand, 1), (21, .ifCond .eq 15, 3), (24, .aload_n 0, 1), (25, .getfield 21, 3), (28, .getfield 95, 3), (31, .iload_n 3, 1), (32, .iaload, 1), (33, .goto 4, 3), (36, .iconst 0, 1), (37, .ior, 1), (38, .istore_n 2, 1), (39, .iinc 3 1, 3), (42, .goto (-38), 3), (45, .iload_n 2, 1), (46, .ireturn, 1)]
def M_Sch_knownBy : MT := (t_Sch_knownBy, P_Sch, [], [])
theorem T_Sch_knownBy : TabOK i_Sch_knownBy M_Sch_knownBy := tab_ok (by decide +kernel)
theorem H_Sch_knownBy : ThrOK i_Sch_knownBy M_Sch_knownBy := ⟨fa_n, rfl, fa_n⟩
def t_Sch_leftThings : List (Nat × Instr × Nat) := [(0, .iconst 0, 1), (1, .istore_n 1, 1), (2, .iconst 0, 1), (3, .istore_n 2, 1), (4, .iload_n 2, 1), (5, .aload_n 0, 1), (6, .getfield 12, 3), (9, .getfield 59, 3), (12, .if_icmp .ge 27, 3), (15, .iload_n 1, 1), (16, .aload_n 0, 1), (17, .iload_n 2, 1), (18, .invokevirtual 80, 3), (21, .ifCond .eq 9, 3), (24, .iconst 1, 1), (25, .iload_n 2, 1), (26, .ishl, 1), (27, .goto 4, 3), (30, .iconst 0, 1), (31, .ior, 1), (32, .istore_n 1, 1), (33, .iinc 2 1, 3), (36, .goto (-32), 3), (39, .iload_n 1, 1), (40, .ireturn, 1)]
def M_Sch_leftThings : MT := (t_Sch_leftThings, P_Sch, [], [])
theorem T_Sch_leftThings : TabOK i_Sch_leftThings M_Sch_leftThings := tab_ok (by decide +kernel)
theorem H_Sch_leftThings : ThrOK i_Sch_leftThings M_Sch_leftThings := ⟨fa_n, rfl, fa_n⟩
def t_Sch_leftWordings : List (Nat × Instr × Nat) := [(0, .iconst 1, 1), (1, .aload_n 0, 1), (2, .getfield 12, 3), (5, .getfield 73, 3), (8, .iload_n 1, 1), (9, .iaload, 1), (10, .ishl, 1), (11, .iconst 1, 1), (12, .isub, 1), (13, .aload_n 0, 1), (14, .iload_n 1, 1), (15, .invokevirtual 76, 3), (18, .iconst (-1), 1), (19, .ixor, 1), (20, .iand, 1), (21, .ireturn, 1)]
def M_Sch_leftWordings : MT := (t_Sch_leftWordings, P_Sch, [], [])
theorem T_Sch_leftWordings : TabOK i_Sch_leftWordings M_Sch_leftWordings := tab_ok (by decide +kernel)
theorem H_Sch_leftWordings : ThrOK i_Sch_leftWordings M_Sch_leftWordings := ⟨fa_n, rfl, fa_n⟩
def t_Sch_saidWordings : List (Nat × Instr × Nat) := [(0, .aload_n 0, 1), (1, .getfield 21, 3), (4, .getfield 69, 3), (7, .bipush 6, 2), (9, .iload_n 1, 1), (10, .imul, 1), (11, .lushr, 1), (12, .l2i, 1), (13, .bipush 63, 2), (15, .iand, 1), (16, .ireturn, 1)]
def M_Sch_saidWordings : MT := (t_Sch_saidWordings, P_Sch, [], [])
theorem T_Sch_saidWordings : TabOK i_Sch_saidWordings M_Sch_saidWordings := tab_ok (by decide +kernel)
theorem H_Sch_saidWordings : ThrOK i_Sch_saidWordings M_Sch_saidWordings := ⟨fa_n, rfl, fa_n⟩
def t_SO_dumb : List (Nat × Instr × Nat) := [(0, .iconst 0, 1), (1, .istore_n 1, 1), (2, .iconst 0, 1), (3, .istore_n 2, 1), (4, .iload_n 2, 1), (5, .aload_n 0, 1), (6, .getfield 19, 3), (9, .getfield 91, 3), (12, .getfield 269, 3), (15, .if_icmp .ge 52, 3), (18, .aload_n 0, 1), (19, .getfield 19, 3), (22, .getfield 154, 3), (25, .iload_n 2, 1), (26, .invokevirtual 173, 3), (29, .ifCond .ne 26, 3), (32, .aload_n 0, 1), (33, .getfield 19, 3), (36, .getfield 154, 3), (39, .getfield 170, 3), (42, .iload_n 2, 1), (43, .iaload, 1), (44, .aload_n 0, 1), (45, .getfield 19, 3), (48, .invokevirtual 266, 3), (51, .iand, 1), (52, .ifCond .ne 9, 3), (55, .iload_n 1, 1), (56, .iconst 1, 1), (57, .iload_n 2, 1), (58, .ishl, 1), (59, .ior, 1), (60, .istore_n 1, 1), (61, .iinc 2 1, 3), (64, .goto (-60), 3), (67, .iload_n 1, 1), (68, .ireturn, 1)]
def M_SO_dumb : MT := (t_SO_dumb, P_SO, [], [])
theorem T_SO_dumb : TabOK i_SO_dumb M_SO_dumb := tab_ok (by decide +kernel)
theorem H_SO_dumb : ThrOK i_SO_dumb M_SO_dumb := ⟨fa_n, rfl, fa_n⟩
def t_SO_silent : List (Nat × Instr × Nat) := [(0, .aload_n 0, 1), (1, .getfield 19, 3), (4, .invokevirtual 272, 3), (7, .aload_n 0, 1), (8, .getfield 19, 3), (11, .invokevirtual 266, 3), (14, .iconst (-1), 1), (15, .ixor, 1), (16, .iand, 1), (17, .ireturn, 1)]
def M_SO_silent : MT := (t_SO_silent, P_SO, [], [])
theorem T_SO_silent : TabOK i_SO_silent M_SO_silent := tab_ok (by decide +kernel)
theorem H_SO_silent : ThrOK i_SO_silent M_SO_silent := ⟨fa_n, rfl, fa_n⟩
def t_Sch_allThings : List (Nat × Instr × Nat) := [(0, .iconst 1, 1), (1, .aload_n 0, 1), (2, .getfield 12, 3), (5, .getfield 59, 3), (8, .ishl, 1), (9, .iconst 1, 1), (10, .isub, 1), (11, .ireturn, 1)]
def M_Sch_allThings : MT := (t_Sch_allThings, P_Sch, [], [])
theorem T_Sch_allThings : TabOK i_Sch_allThings M_Sch_allThings := tab_ok (by decide +kernel)
theorem H_Sch_allThings : ThrOK i_Sch_allThings M_Sch_allThings := ⟨fa_n, rfl, fa_n⟩
def t_SO_exam : List (Nat × Instr × Nat) := [(0, .iconst 0, 1), (1, .istore_n 1, 1), (2, .iconst 0, 1), (3, .istore_n 2, 1), (4, .iload_n 2, 1), (5, .aload_n 0, 1), (6, .getfield 19, 3), (9, .getfield 91, 3), (12, .getfield 269, 3), (15, .if_icmp .ge 63, 3), (18, .aload_n 0, 1), (19, .getfield 19, 3), (22, .getfield 154, 3), (25, .iload_n 2, 1), (26, .invokevirtual 173, 3), (29, .ifCond .ne 43, 3), (32, .iload_n 1, 1), (33, .aload_n 0, 1), (34, .getfield 19, 3), (37, .getfield 91, 3), (40, .aload_n 0, 1), (41, .getfield 19, 3), (44, .getfield 154, 3), (47, .getfield 170, 3), (50, .iload_n 2, 1), (51, .iaload, 1), (52, .invokevirtual 177, 3), (55, .aload_n 0, 1), (56, .getfield 19, 3), (59, .getfield 154, 3), (62, .getfield 170, 3), (65, .iload_n 2, 1), (66, .iaload, 1), (67, .iconst (-1), 1), (68, .ixor, 1), (69, .iand, 1), (70, .ior, 1), (71, .istore_n 1, 1), (72, .iinc 2 1, 3), (75, .goto (-71), 3), (78, .iload_n 1, 1), (79, .aload_n 0, 1), (80, .getfield 19, 3), (83, .invokevirtual 308, 3), (86, .iconst (-1), 1), (87, .ixor, 1), (88, .iand, 1), (89, .ireturn, 1)]
def M_SO_exam : MT := (t_SO_exam, P_SO, [], [])
theorem T_SO_exam : TabOK i_SO_exam M_SO_exam := tab_ok (by decide +kernel)
theorem H_SO_exam : ThrOK i_SO_exam M_SO_exam := ⟨fa_n, rfl, fa_n⟩
def t_Sch_saidThings : List (Nat × Instr × Nat) := [(0, .iconst 0, 1), (1, .istore_n 1, 1), (2, .iconst 0, 1), (3, .istore_n 2, 1), (4, .iload_n 2, 1), (5, .aload_n 0, 1), (6, .getfield 12, 3), (9, .getfield 59, 3), (12, .if_icmp .ge 27, 3), (15, .iload_n 1, 1), (16, .aload_n 0, 1), (17, .iload_n 2, 1), (18, .invokevirtual 76, 3), (21, .ifCond .eq 9, 3), (24, .iconst 1, 1), (25, .iload_n 2, 1), (26, .ishl, 1), (27, .goto 4, 3), (30, .iconst 0, 1), (31, .ior, 1), (32, .istore_n 1, 1), (33, .iinc 2 1, 3), (36, .goto (-32), 3), (39, .iload_n 1, 1), (40, .ireturn, 1)]
def M_Sch_saidThings : MT := (t_Sch_saidThings, P_Sch, [], [])
theorem T_Sch_saidThings : TabOK i_Sch_saidThings M_Sch_saidThings := tab_ok (by decide +kernel)
theorem H_Sch_saidThings : ThrOK i_Sch_saidThings M_Sch_saidThings := ⟨fa_n, rfl, fa_n⟩
def t_SO_last : List (Nat × Instr × Nat) := [(0, .aload_n 0, 1), (1, .getfield 19, 3), (4, .invokevirtual 311, 3), (7, .ireturn, 1)]
def M_SO_last : MT := (t_SO_last, P_SO, [], [])
theorem T_SO_last : TabOK i_SO_last M_SO_last := tab_ok (by decide +kernel)
theorem H_SO_last : ThrOK i_SO_last M_SO_last := ⟨fa_n, rfl, fa_n⟩
def t_Sch_countLast : List (Nat × Instr × Nat) := [(0, .aload_n 0, 1), (1, .getfield 21, 3), (4, .getfield 95, 3), (7, .iconst 0, 1), (8, .aload_n 0, 1), (9, .getfield 42, 3), (12, .iconst 0, 1), (13, .bipush 10, 2), (15, .invokestatic 189, 3), (18, .iconst 1, 1), (19, .istore_n 1, 1), (20, .iconst 0, 1), (21, .istore_n 2, 1), (22, .iload_n 2, 1), (23, .bipush 100, 2), (25, .if_icmp .gt 61, 3), (28, .iload_n 1, 1), (29, .ifCond .eq 57, 3), (32, .iconst 0, 1), (33, .istore_n 1, 1), (34, .iconst 0, 1), (35, .istore_n 3, 1), (36, .iload_n 3, 1), (37, .aload_n 0, 1), (38, .getfield 12, 3), (41, .getfield 63, 3), (44, .if_icmp .ge 36, 3), (47, .iload_n 1, 1), (48, .aload_n 0, 1), (49, .getfield 21, 3), (52, .iload_n 3, 1), (53, .invokevirtual 98, 3), (56, .ifCond .ne 15, 3), (59, .aload_n 0, 1), (60, .iload_n 3, 1), (61, .invokevirtual 195, 3), (64, .ifCond .eq 7, 3), (67, .iconst 1, 1), (68, .goto 4, 3), (71, .iconst 0, 1), (72, .ior, 1), (73, .istore_n 1, 1), (74, .iinc 3 1, 3), (77, .goto (-41), 3), (80, .iinc 2 1, 3), (83, .goto (-61), 3), (86, .iconst 0, 1), (87, .istore_n 2, 1), (88, .iconst 0, 1), (89, .istore_n 3, 1), (90, .iload_n 3, 1), (91, .aload_n 0, 1), (92, .getfield 12, 3), (95, .getfield 63, 3), (98, .if_icmp .ge 33, 3), (101, .iload_n 2, 1), (102, .aload_n 0, 1), (103, .getfield 21, 3), (106, .iload_n 3, 1), (107, .invokevirtual 98, 3), (110, .ifCond .eq 7, 3), (113, .iconst 0, 1), (114, .goto 9, 3), (117, .aload_n 0, 1), (118, .getfield 42, 3), (121, .iload_n 3, 1), (122, .iaload, 1), (123, .ior, 1), (124, .istore_n 2, 1), (125, .iinc 3 1, 3), (128, .goto (-38), 3), (131, .aload_n 0, 1), (132, .iload_n 2, 1), (133, .invokevirtual 198, 3), (136, .ireturn, 1)]
def M_Sch_countLast : MT := (t_Sch_countLast, P_Sch, [], [])
theorem T_Sch_countLast : TabOK i_Sch_countLast M_Sch_countLast := tab_ok (by decide +kernel)
theorem H_Sch_countLast : ThrOK i_Sch_countLast M_Sch_countLast := ⟨fa_n, rfl, fa_n⟩
def t_Sch_tellAll : List (Nat × Instr × Nat) := [(0, .iconst 0, 1), (1, .istore_n 2, 1), (2, .iconst 0, 1), (3, .istore_n 3, 1), (4, .iload_n 3, 1), (5, .aload_n 0, 1), (6, .getfield 12, 3), (9, .getfield 59, 3), (12, .if_icmp .ge 66, 3), (15, .iconst 0, 1), (16, .istore 4, 2), (18, .iload 4, 2), (20, .aload_n 0, 1), (21, .getfield 12, 3), (24, .getfield 73, 3), (27, .iload_n 3, 1), (28, .iaload, 1), (29, .if_icmp .ge 43, 3), (32, .aload_n 0, 1), (33, .getfield 42, 3), (36, .iload_n 1, 1), (37, .iaload, 1), (38, .iload_n 3, 1), (39, .ishr, 1), (40, .iconst 1, 1), (41, .iand, 1), (42, .ifCond .eq 24, 3), (45, .aload_n 0, 1), (46, .iload_n 3, 1), (47, .iload 4, 2), (49, .invokevirtual 201, 3), (52, .ifCond .eq 14, 3), (55, .iload_n 2, 1), (56, .aload_n 0, 1), (57, .iload_n 1, 1), (58, .iload_n 3, 1), (59, .iload 4, 2), (61, .invokevirtual 204, 3), (64, .ior, 1), (65, .istore_n 2, 1), (66, .iinc 4 1, 3), (69, .goto (-51), 3), (72, .iinc 3 1, 3), (75, .goto (-71), 3), (78, .iload_n 2, 1), (79, .ireturn, 1)]
def M_Sch_tellAll : MT := (t_Sch_tellAll, P_Sch, [], [])
theorem T_Sch_tellAll : TabOK i_Sch_tellAll M_Sch_tellAll := tab_ok (by decide +kernel)
theorem H_Sch_tellAll : ThrOK i_Sch_tellAll M_Sch_tellAll := ⟨fa_n, rfl, fa_n⟩
def t_Sch_isLeft : List (Nat × Instr × Nat) := [(0, .aload_n 0, 1), (1, .iload_n 1, 1), (2, .invokevirtual 80, 3), (5, .iload_n 2, 1), (6, .ishr, 1), (7, .iconst 1, 1), (8, .iand, 1), (9, .ifCond .eq 7, 3), (12, .iconst 1, 1), (13, .goto 4, 3), (16, .iconst 0, 1), (17, .ireturn, 1)]
def M_Sch_isLeft : MT := (t_Sch_isLeft, P_Sch, [], [])
theorem T_Sch_isLeft : TabOK i_Sch_isLeft M_Sch_isLeft := tab_ok (by decide +kernel)
theorem H_Sch_isLeft : ThrOK i_Sch_isLeft M_Sch_isLeft := ⟨fa_n, rfl, fa_n⟩
def t_Sch_tellOne : List (Nat × Instr × Nat) := [(0, .iconst 0, 1), (1, .istore 4, 2), (3, .iconst 0, 1), (4, .istore 5, 2), (6, .iload 5, 2), (8, .aload_n 0, 1), (9, .getfield 12, 3), (12, .getfield 63, 3), (15, .if_icmp .ge 77, 3), (18, .aload_n 0, 1), (19, .iload_n 1, 1), (20, .iload_n 2, 1), (21, .iload_n 3, 1), (22, .iload 5, 2), (24, .aload_n 0, 1), (25, .getfield 42, 3), (28, .iload 5, 2), (30, .iaload, 1), (31, .iload_n 2, 1), (32, .ishr, 1), (33, .iconst 1, 1), (34, .iand, 1), (35, .ifCond .eq 7, 3), (38, .iconst 1, 1), (39, .goto 4, 3), (42, .iconst 0, 1), (43, .invokevirtual 129, 3), (46, .istore 6, 2), (48, .iload 6, 2), (50, .iconst (-1), 1), (51, .if_icmp .eq 35, 3), (54, .aload_n 0, 1), (55, .getfield 42, 3), (58, .iload 5, 2), (60, .iaload, 1), (61, .iload 6, 2), (63, .ishr, 1), (64, .iconst 1, 1), (65, .iand, 1), (66, .ifCond .ne 20, 3), (69, .aload_n 0, 1), (70, .getfield 42, 3), (73, .iload 5, 2), (75, .dup2, 1), (76, .iaload, 1), (77, .iconst 1, 1), (78, .iload 6, 2), (80, .ishl, 1), (81, .ior, 1), (82, .iastore, 1), (83, .iconst 1, 1), (84, .istore 4, 2), (86, .iinc 5 1, 3), (89, .goto (-83), 3), (92, .iload 4, 2), (94, .ireturn, 1)]
def M_Sch_tellOne : MT := (t_Sch_tellOne, P_Sch, [], [])
theorem T_Sch_tellOne : TabOK i_Sch_tellOne M_Sch_tellOne := tab_ok (by decide +kernel)
theorem H_Sch_tellOne : ThrOK i_Sch_tellOne M_Sch_tellOne := ⟨fa_n, rfl, fa_n⟩
def t_Sch_taken : List (Nat × Instr × Nat) := [(0, .iload_n 1, 1), (1, .iload 4, 2), (3, .if_icmp .eq 36, 3), (6, .aload_n 0, 1), (7, .getfield 21, 3), (10, .iload_n 1, 1), (11, .invokevirtual 98, 3), (14, .ifCond .ne 25, 3), (17, .aload_n 0, 1), (18, .getfield 21, 3), (21, .iload 4, 2), (23, .invokevirtual 98, 3), (26, .ifCond .ne 13, 3), (29, .aload_n 0, 1), (30, .getfield 12, 3), (33, .getfield 59, 3), (36, .ifCond .gt 5, 3), (39, .iconst (-1), 1), (40, .ireturn, 1), (41, .aload_n 0, 1), (42, .getfield 21, 3), (45, .iload_n 1, 1), (46, .iload 4, 2), (48, .invokevirtual 102, 3), (51, .istore 6, 2), (53, .aload_n 0, 1), (54, .getfield 12, 3), (57, .getfield 106, 3), (60, .iload 4, 2), (62, .iaload, 1), (63, .istore 7, 2), (65, .aload_n 0, 1), (66, .getfield 28, 3), (69, .iload_n 1, 1), (70, .iload_n 2, 1), (71, .iload_n 3, 1), (72, .iload 4, 2), (74, .invokevirtual 109, 3), (77, .aload_n 0, 1), (78, .getfield 28, 3), (81, .iload 6, 2), (83, .iload 7, 2), (85, .aload_n 0, 1), (86, .getfield 21, 3), (89, .getfield 113, 3), (92, .iload 5, 2), (94, .invokevirtual 116, 3), (97, .iload 6, 2), (99, .iload 7, 2), (101, .aload_n 0, 1), (102, .getfield 12, 3), (105, .getfield 120, 3), (108, .iadd, 1), (109, .aload_n 0, 1), (110, .getfield 28, 3), (113, .getfield 123, 3), (116, .iadd, 1), (117, .if_icmp .le 5, 3), (120, .iconst (-1), 1), (121, .ireturn, 1), (122, .iload_n 2, 1), (123, .aload_n 0, 1), (124, .getfield 28, 3), (127, .getfield 126, 3), (130, .iadd, 1), (131, .aload_n 0, 1), (132, .getfield 12, 3), (135, .getfield 59, 3), (138, .irem, 1), (139, .ireturn, 1)]
def M_Sch_taken : MT := (t_Sch_taken, P_Sch, [], [])
theorem T_Sch_taken : TabOK i_Sch_taken M_Sch_taken := tab_ok (by decide +kernel)
theorem H_Sch_taken : ThrOK i_Sch_taken M_Sch_taken := ⟨fa_n, rfl, fa_n⟩
def t_Sch_countLeftOf : List (Nat × Instr × Nat) := [(0, .iconst 0, 1), (1, .istore_n 2, 1), (2, .iconst 0, 1), (3, .istore_n 3, 1), (4, .iload_n 3, 1), (5, .aload_n 0, 1), (6, .getfield 12, 3), (9, .getfield 59, 3), (12, .if_icmp .ge 29, 3), (15, .iload_n 2, 1), (16, .iload_n 1, 1), (17, .iload_n 3, 1), (18, .ishr, 1), (19, .iconst 1, 1), (20, .iand, 1), (21, .ifCond .eq 11, 3), (24, .aload_n 0, 1), (25, .iload_n 3, 1), (26, .invokevirtual 88, 3), (29, .goto 4, 3), (32, .iconst 0, 1), (33, .iadd, 1), (34, .istore_n 2, 1), (35, .iinc 3 1, 3), (38, .goto (-34), 3), (41, .iload_n 2, 1), (42, .ireturn, 1)]
def M_Sch_countLeftOf : MT := (t_Sch_countLeftOf, P_Sch, [], [])
theorem T_Sch_countLeftOf : TabOK i_Sch_countLeftOf M_Sch_countLeftOf := tab_ok (by decide +kernel)
theorem H_Sch_countLeftOf : ThrOK i_Sch_countLeftOf M_Sch_countLeftOf := ⟨fa_n, rfl, fa_n⟩
def t_Sch_countLeft : List (Nat × Instr × Nat) := [(0, .aload_n 0, 1), (1, .iload_n 1, 1), (2, .invokevirtual 80, 3), (5, .invokestatic 83, 3), (8, .ireturn, 1)]
def M_Sch_countLeft : MT := (t_Sch_countLeft, P_Sch, [], [])
theorem T_Sch_countLeft : TabOK i_Sch_countLeft M_Sch_countLeft := tab_ok (by decide +kernel)
theorem H_Sch_countLeft : ThrOK i_Sch_countLeft M_Sch_countLeft := ⟨fa_n, rfl, fa_n⟩
def t_SO_groups : List (Nat × Instr × Nat) := [(0, .iconst 0, 1), (1, .istore_n 2, 1), (2, .iconst 0, 1), (3, .istore_n 3, 1), (4, .iconst 0, 1), (5, .istore 4, 2), (7, .iload 4, 2), (9, .aload_n 0, 1), (10, .getfield 19, 3), (13, .getfield 91, 3), (16, .getfield 269, 3), (19, .if_icmp .ge 110, 3), (22, .iconst 0, 1), (23, .istore 5, 2), (25, .iconst 1, 1), (26, .istore 6, 2), (28, .iconst 0, 1), (29, .istore 7, 2), (31, .iload 7, 2), (33, .aload_n 0, 1), (34, .getfield 19, 3), (37, .getfield 91, 3), (40, .getfield 269, 3), (43, .if_icmp .ge 60, 3), (46, .aload_n 0, 1), (47, .getfield 19, 3), (50, .getfield 154, 3), (53, .getfield 170, 3), (56, .iload 4, 2), (58, .iaload, 1), (59, .aload_n 0, 1), (60, .getfield 19, 3), (63, .getfield 154, 3), (66, .getfield 170, 3), (69, .iload 7, 2), (71, .iaload, 1), (72, .if_icmp .ne 25, 3), (75, .iinc 5 1, 3), (78, .iload 6, 2), (80, .ifCond .eq 14, 3), (83, .iload 7, 2), (85, .iload 4, 2), (87, .if_icmp .lt 7, 3), (90, .iconst 1, 1), (91, .goto 4, 3), (94, .iconst 0, 1), (95, .istore 6, 2), (97, .iinc 7 1, 3), (100, .goto (-69), 3), (103, .iload_n 2, 1), (104, .iload 6, 2), (106, .ifCond .eq 7, 3), (109, .iconst 1, 1), (110, .goto 4, 3), (113, .iconst 0, 1), (114, .iadd, 1), (115, .istore_n 2, 1), (116, .iload_n 3, 1), (117, .iload 5, 2), (119, .invokestatic 317, 3), (122, .istore_n 3, 1), (123, .iinc 4 1, 3), (126, .goto (-119), 3), (129, .iload_n 1, 1), (130, .ifCond .eq 7, 3), (133, .iload_n 3, 1), (134, .goto 4, 3), (137, .iload_n 2, 1), (138, .ireturn, 1)]
def M_SO_groups : MT := (t_SO_groups, P_SO, [], [])
theorem T_SO_groups : TabOK i_SO_groups M_SO_groups := tab_ok (by decide +kernel)
theorem H_SO_groups : ThrOK i_SO_groups M_SO_groups := ⟨fa_n, rfl, fa_n⟩
def t_SO_teacher : List (Nat × Instr × Nat) := [(0, .iconst (-1), 1), (1, .istore_n 1, 1), (2, .iconst 0, 1), (3, .istore_n 2, 1), (4, .iconst 0, 1), (5, .istore_n 3, 1), (6, .iload_n 3, 1), (7, .aload_n 0, 1), (8, .getfield 19, 3), (11, .getfield 91, 3), (14, .getfield 269, 3), (17, .if_icmp .ge 43, 3), (20, .aload_n 0, 1), (21, .getfield 19, 3), (24, .getfield 340, 3), (27, .iload_n 3, 1), (28, .aload_n 0, 1), (29, .getfield 19, 3), (32, .getfield 154, 3), (35, .getfield 344, 3), (38, .invokevirtual 352, 3), (41, .istore 4, 2), (43, .iload 4, 2), (45, .iload_n 2, 1), (46, .if_icmp .le 8, 3), (49, .iload 4, 2), (51, .istore_n 2, 1), (52, .iload_n 3, 1), (53, .istore_n 1, 1), (54, .iinc 3 1, 3), (57, .goto (-51), 3), (60, .iload_n 1, 1), (61, .ireturn, 1)]
def M_SO_teacher : MT := (t_SO_teacher, P_SO, [], [])
theorem T_SO_teacher : TabOK i_SO_teacher M_SO_teacher := tab_ok (by decide +kernel)
theorem H_SO_teacher : ThrOK i_SO_teacher M_SO_teacher := ⟨fa_n, rfl, fa_n⟩
def t_SO_seed : List (Nat × Instr × Nat) := [(0, .aload_n 0, 1), (1, .getfield 19, 3), (4, .getfield 154, 3), (7, .getfield 331, 3), (10, .istore_n 2, 1), (11, .aload_n 0, 1), (12, .getfield 19, 3), (15, .getfield 154, 3), (18, .iload_n 1, 1), (19, .putfield 331, 3), (22, .iload_n 2, 1), (23, .ireturn, 1)]
def M_SO_seed : MT := (t_SO_seed, P_SO, [], [])
theorem T_SO_seed : TabOK i_SO_seed M_SO_seed := tab_ok (by decide +kernel)
theorem H_SO_seed : ThrOK i_SO_seed M_SO_seed := ⟨fa_n, rfl, fa_n⟩
def t_SO_undo : List (Nat × Instr × Nat) := [(0, .aload_n 0, 1), (1, .getfield 108, 3), (4, .ifCond .ne 5, 3), (7, .iconst 0, 1), (8, .ireturn, 1), (9, .aload_n 0, 1), (10, .dup, 1), (11, .getfield 108, 3), (14, .iconst 1, 1), (15, .isub, 1), (16, .putfield 108, 3), (19, .aload_n 0, 1), (20, .getfield 19, 3), (23, .getfield 154, 3), (26, .aload_n 0, 1), (27, .getfield 60, 3), (30, .aload_n 0, 1), (31, .getfield 108, 3), (34, .aaload, 1), (35, .invokevirtual 394, 3), (38, .iconst 1, 1), (39, .ireturn, 1)]
def M_SO_undo : MT := (t_SO_undo, P_SO, [], [])
theorem T_SO_undo : TabOK i_SO_undo M_SO_undo := tab_ok (by decide +kernel)
theorem H_SO_undo : ThrOK i_SO_undo M_SO_undo := ⟨fa_n, rfl, fa_n⟩
def t_SO_image : List (Nat × Instr × Nat) := [(0, .aload_n 0, 1), (1, .getfield 23, 3), (4, .aload_n 0, 1), (5, .getfield 19, 3), (8, .invokevirtual 397, 3), (11, .aload_n 0, 1), (12, .iconst 1, 1), (13, .putfield 399, 3), (16, .return_, 1)]
def M_SO_image : MT := (t_SO_image, P_SO, [], [])
theorem T_SO_image : TabOK i_SO_image M_SO_image := tab_ok (by decide +kernel)
theorem H_SO_image : ThrOK i_SO_image M_SO_image := ⟨fa_n, rfl, fa_n⟩
def t_Sch_copyFrom : List (Nat × Instr × Nat) := [(0, .aload_n 0, 1), (1, .getfield 12, 3), (4, .aload_n 1, 1), (5, .getfield 12, 3), (8, .invokevirtual 46, 3), (11, .aload_n 0, 1), (12, .getfield 21, 3), (15, .aload_n 1, 1), (16, .getfield 21, 3), (19, .invokevirtual 50, 3), (22, .aload_n 0, 1), (23, .getfield 28, 3), (26, .aload_n 1, 1), (27, .getfield 28, 3), (30, .invokevirtual 53, 3), (33, .aload_n 0, 1), (34, .getfield 35, 3), (37, .aload_n 1, 1), (38, .getfield 35, 3), (41, .invokevirtual 56, 3), (44, .return_, 1)]
def M_Sch_copyFrom : MT := (t_Sch_copyFrom, P_Sch, [], [])
theorem T_Sch_copyFrom : TabOK i_Sch_copyFrom M_Sch_copyFrom := tab_ok (by decide +kernel)
theorem H_Sch_copyFrom : ThrOK i_Sch_copyFrom M_Sch_copyFrom := ⟨fa_n, rfl, fa_n⟩
def t_SO_back : List (Nat × Instr × Nat) := [(0, .aload_n 0, 1), (1, .getfield 399, 3), (4, .ifCond .ne 5, 3), (7, .iconst 0, 1), (8, .ireturn, 1), (9, .aload_n 0, 1), (10, .getfield 19, 3), (13, .aload_n 0, 1), (14, .getfield 23, 3), (17, .invokevirtual 397, 3), (20, .aload_n 0, 1), (21, .iconst 0, 1), (22, .putfield 108, 3), (25, .iconst 1, 1), (26, .ireturn, 1)]
def M_SO_back : MT := (t_SO_back, P_SO, [], [])
theorem T_SO_back : TabOK i_SO_back M_SO_back := tab_ok (by decide +kernel)
theorem H_SO_back : ThrOK i_SO_back M_SO_back := ⟨fa_n, rfl, fa_n⟩
def t_SO_count : List (Nat × Instr × Nat) := [(0, .iload_n 1, 1), (1, .tableswitch 196 0 11 #[63, 74, 85, 96, 107, 118, 129, 140, 154, 169, 180, 191], 63), (64, .aload_n 0, 1), (65, .getfield 19, 3), (68, .getfield 91, 3), (71, .getfield 296, 3), (74, .ireturn, 1), (75, .aload_n 0, 1), (76, .getfield 19, 3), (79, .getfield 91, 3), (82, .getfield 269, 3), (85, .ireturn, 1), (86, .aload_n 0, 1), (87, .getfield 19, 3), (90, .getfield 91, 3), (93, .getfield 190, 3), (96, .ireturn, 1), (97, .aload_n 0, 1), (98, .getfield 19, 3), (101, .getfield 91, 3), (104, .getfield 95, 3), (107, .ireturn, 1), (108, .aload_n 0, 1), (109, .getfield 19, 3), (112, .getfield 116, 3), (115, .getfield 403, 3), (118, .ireturn, 1), (119, .aload_n 0, 1), (120, .getfield 19, 3), (123, .getfield 154, 3), (126, .getfield 257, 3), (129, .ireturn, 1), (130, .aload_n 0, 1), (131, .getfield 19, 3), (134, .getfield 91, 3), (137, .getfield 406, 3), (140, .ireturn, 1), (141, .aload_n 0, 1), (142, .getfield 19, 3), (145, .getfield 154, 3), (148, .getfield 202, 3), (151, .invokestatic 409, 3), (154, .ireturn, 1), (155, .aload_n 0, 1), (156, .getfield 19, 3), (159, .aload_n 0, 1), (160, .getfield 19, 3), (163, .invokevirtual 272, 3), (166, .invokevirtual 414, 3), (169, .ireturn, 1), (170, .aload_n 0, 1), (171, .getfield 19, 3), (174, .getfield 154, 3), (177, .getfield 246, 3), (180, .ireturn, 1), (181, .aload_n 0, 1), (182, .getfield 19, 3), (185, .getfield 154, 3), (188, .getfield 344, 3), (191, .ireturn, 1), (192, .aload_n 0, 1), (193, .getfield 108, 3), (196, .ireturn, 1), (197, .iconst (-1), 1), (198, .ireturn, 1)]
def M_SO_count : MT := (t_SO_count, P_SO, [], [])
theorem T_SO_count : TabOK i_SO_count M_SO_count := tab_ok (by decide +kernel)
theorem H_SO_count : ThrOK i_SO_count M_SO_count := ⟨fa_n, rfl, fa_n⟩
def t_SO_school : List (Nat × Instr × Nat) := [(0, .aload_n 0, 1), (1, .getfield 47, 3), (4, .aload_n 0, 1), (5, .getfield 19, 3), (8, .invokevirtual 73, 3), (11, .aload_n 0, 1), (12, .getfield 47, 3), (15, .bipush 14, 2), (17, .invokevirtual 76, 3), (20, .istore_n 1, 1), (21, .aload_n 0, 1), (22, .getfield 10, 3), (25, .invokevirtual 80, 3), (28, .pop, 1), (29, .iload_n 1, 1), (30, .iconst (-1), 1), (31, .if_icmp .ne 13, 3), (34, .new 84, 3), (37, .dup, 1), (38, .ldc 86, 2), (40, .invokespecial 88, 3), (43, .athrow, 1), (44, .aload_n 0, 1), (45, .getfield 19, 3), (48, .getfield 91, 3), (51, .getfield 95, 3), (54, .bipush 12, 2), (56, .if_icmp .lt 13, 3), (59, .new 100, 3), (62, .dup, 1), (63, .ldc 102, 2), (65, .invokespecial 104, 3), (68, .athrow, 1), (69, .aload_n 0, 1), (70, .getfield 47, 3), (73, .aload_n 0, 1), (74, .getfield 19, 3), (77, .invokevirtual 105, 3), (80, .aload_n 0, 1), (81, .getfield 19, 3), (84, .getfield 91, 3), (87, .dup, 1), (88, .getfield 95, 3), (91, .iconst 1, 1), (92, .iadd, 1), (93, .putfield 95, 3), (96, .aload_n 0, 1), (97, .iconst 0, 1), (98, .putfield 108, 3), (101, .aload_n 0, 1), (102, .getfield 19, 3), (105, .getfield 91, 3), (108, .getfield 95, 3), (111, .ireturn, 1)]
def M_SO_school : MT := (t_SO_school, P_SO, [(34, 84, 86, 24, 88, 0, false), (59, 100, 102, 25, 104, 1, false)], [])
theorem T_SO_school : TabOK i_SO_school M_SO_school := tab_ok (by decide +kernel)
theorem H_SO_school : ThrOK i_SO_school M_SO_school := ⟨fa_c ⟨rfl, x_84_88_0, by decide +kernel, by decide +kernel, Or.inl (by decide +kernel)⟩ (fa_c ⟨rfl, x_100_104_1, by decide +kernel, by decide +kernel, Or.inl (by decide +kernel)⟩ (fa_n)), rfl, fa_n⟩
def t_SO_numberOf : List (Nat × Instr × Nat) := [(0, .bipush 6, 2), (2, .iload_n 0, 1), (3, .imul, 1), (4, .iload_n 1, 1), (5, .iadd, 1), (6, .ireturn, 1)]
def M_SO_numberOf : MT := (t_SO_numberOf, P_SO, [], [])
theorem T_SO_numberOf : TabOK i_SO_numberOf M_SO_numberOf := tab_ok (by decide +kernel)
theorem H_SO_numberOf : ThrOK i_SO_numberOf M_SO_numberOf := ⟨fa_n, rfl, fa_n⟩
def t_SO_law : List (Nat × Instr × Nat) := [(0, .aload_n 0, 1), (1, .getfield 54, 3), (4, .invokevirtual 111, 3), (7, .aload_n 0, 1), (8, .getfield 54, 3), (11, .bipush 12, 2), (13, .invokevirtual 113, 3), (16, .istore_n 1, 1), (17, .aload_n 0, 1), (18, .getfield 10, 3), (21, .invokevirtual 80, 3), (24, .pop, 1), (25, .iload_n 1, 1), (26, .iconst (-1), 1), (27, .if_icmp .ne 13, 3), (30, .new 84, 3), (33, .dup, 1), (34, .ldc 114, 2), (36, .invokespecial 88, 3), (39, .athrow, 1), (40, .aload_n 0, 1), (41, .getfield 19, 3), (44, .getfield 116, 3), (47, .aload_n 0, 1), (48, .getfield 54, 3), (51, .getfield 120, 3), (54, .invokevirtual 121, 3), (57, .aload_n 0, 1), (58, .iconst 0, 1), (59, .putfield 108, 3), (62, .iload_n 1, 1), (63, .ireturn, 1)]
def M_SO_law : MT := (t_SO_law, P_SO, [(30, 84, 114, 26, 88, 0, false)], [])
theorem T_SO_law : TabOK i_SO_law M_SO_law := tab_ok (by decide +kernel)
theorem H_SO_law : ThrOK i_SO_law M_SO_law := ⟨fa_c ⟨rfl, x_84_88_0, by decide +kernel, by decide +kernel, Or.inl (by decide +kernel)⟩ (fa_n), rfl, fa_n⟩
def t_SO_thing : List (Nat × Instr × Nat) := [(0, .aload_n 0, 1), (1, .iload_n 1, 1), (2, .invokevirtual 130, 3), (5, .iload_n 2, 1), (6, .tableswitch 70 0 3 #[30, 43, 52, 61], 30), (36, .aload_n 0, 1), (37, .getfield 19, 3), (40, .getfield 91, 3), (43, .getfield 133, 3), (46, .iload_n 1, 1), (47, .iaload, 1), (48, .ireturn, 1), (49, .aload_n 0, 1), (50, .getfield 19, 3), (53, .iload_n 1, 1), (54, .invokevirtual 137, 3), (57, .ireturn, 1), (58, .aload_n 0, 1), (59, .getfield 19, 3), (62, .iload_n 1, 1), (63, .invokevirtual 140, 3), (66, .ireturn, 1), (67, .aload_n 0, 1), (68, .getfield 38, 3), (71, .iload_n 1, 1), (72, .invokevirtual 143, 3), (75, .ireturn, 1), (76, .new 146, 3), (79, .dup, 1), (80, .ldc 148, 2), (82, .invokespecial 150, 3), (85, .athrow, 1)]
def M_SO_thing : MT := (t_SO_thing, P_SO, [(76, 146, 148, 28, 150, 3, false)], [])
theorem T_SO_thing : TabOK i_SO_thing M_SO_thing := tab_ok (by decide +kernel)
theorem H_SO_thing : ThrOK i_SO_thing M_SO_thing := ⟨fa_c ⟨rfl, x_146_150_3, by decide +kernel, by decide +kernel, Or.inl (by decide +kernel)⟩ (fa_n), rfl, fa_n⟩
def t_SO_needThing : List (Nat × Instr × Nat) := [(0, .iload_n 1, 1), (1, .ifCond .lt 17, 3), (4, .iload_n 1, 1), (5, .aload_n 0, 1), (6, .getfield 19, 3), (9, .getfield 91, 3), (12, .getfield 296, 3), (15, .if_icmp .lt 14, 3), (18, .new 417, 3), (21, .dup, 1), (22, .ldc_w 419, 3), (25, .invokespecial 421, 3), (28, .athrow, 1), (29, .return_, 1)]
def M_SO_needThing : MT := (t_SO_needThing, P_SO, [(18, 417, 419, 27, 421, 2, true)], [])
theorem T_SO_needThing : TabOK i_SO_needThing M_SO_needThing := tab_ok (by decide +kernel)
theorem H_SO_needThing : ThrOK i_SO_needThing M_SO_needThing := ⟨fa_c ⟨rfl, x_417_421_2, by decide +kernel, by decide +kernel, Or.inr (by decide +kernel)⟩ (fa_n), rfl, fa_n⟩
def t_Sch_knowers : List (Nat × Instr × Nat) := [(0, .iconst 0, 1), (1, .istore_n 2, 1), (2, .iconst 0, 1), (3, .istore_n 3, 1), (4, .iload_n 3, 1), (5, .aload_n 0, 1), (6, .getfield 12, 3), (9, .getfield 63, 3), (12, .if_icmp .ge 31, 3), (15, .iload_n 2, 1), (16, .aload_n 0, 1), (17, .getfield 21, 3), (20, .iload_n 3, 1), (21, .iload_n 1, 1), (22, .invokevirtual 91, 3), (25, .ifCond .eq 9, 3), (28, .iconst 1, 1), (29, .iload_n 3, 1), (30, .ishl, 1), (31, .goto 4, 3), (34, .iconst 0, 1), (35, .ior, 1), (36, .istore_n 2, 1), (37, .iinc 3 1, 3), (40, .goto (-36), 3), (43, .iload_n 2, 1), (44, .ireturn, 1)]
def M_Sch_knowers : MT := (t_Sch_knowers, P_Sch, [], [])
theorem T_Sch_knowers : TabOK i_Sch_knowers M_Sch_knowers := tab_ok (by decide +kernel)
theorem H_Sch_knowers : ThrOK i_Sch_knowers M_Sch_knowers := ⟨fa_n, rfl, fa_n⟩
def t_Se_sources : List (Nat × Instr × Nat) := [(0, .iconst (-1), 1), (1, .istore_n 2, 1), (2, .iconst 1, 1), (3, .istore_n 3, 1), (4, .iload_n 3, 1), (5, .aload_n 0, 1), (6, .getfield 15, 3), (9, .invokevirtual 19, 3), (12, .if_icmp .gt 57, 3), (15, .iload_n 3, 1), (16, .iload_n 1, 1), (17, .ishr, 1), (18, .iconst 1, 1), (19, .iand, 1), (20, .ifCond .ne 15, 3), (23, .iload_n 3, 1), (24, .iload_n 2, 1), (25, .invokestatic 25, 3), (28, .ifCond .eq 7, 3), (31, .iconst 1, 1), (32, .goto 4, 3), (35, .iconst 0, 1), (36, .istore 4, 2), (38, .iload 4, 2), (40, .ifCond .eq 23, 3), (43, .aload_n 0, 1), (44, .getfield 15, 3), (47, .getfield 29, 3), (50, .iload_n 3, 1), (51, .invokevirtual 33, 3), (54, .iload_n 1, 1), (55, .ishr, 1), (56, .iconst 1, 1), (57, .iand, 1), (58, .ifCond .eq 5, 3), (61, .iload_n 3, 1), (62, .istore_n 2, 1), (63, .iinc 3 1, 3), (66, .goto (-62), 3), (69, .iload_n 2, 1), (70, .ireturn, 1)]
def M_Se_sources : MT := (t_Se_sources, P_Se, [], [])
theorem T_Se_sources : TabOK i_Se_sources M_Se_sources := tab_ok (by decide +kernel)
theorem H_Se_sources : ThrOK i_Se_sources M_Se_sources := ⟨fa_n, rfl, fa_n⟩
def t_Se_isFewer : List (Nat × Instr × Nat) := [(0, .iload_n 1, 1), (1, .iconst (-1), 1), (2, .if_icmp .eq 14, 3), (5, .iload_n 0, 1), (6, .invokestatic 68, 3), (9, .iload_n 1, 1), (10, .invokestatic 68, 3), (13, .if_icmp .ge 7, 3), (16, .iconst 1, 1), (17, .goto 4, 3), (20, .iconst 0, 1), (21, .ireturn, 1)]
def M_Se_isFewer : MT := (t_Se_isFewer, P_Se, [], [])
theorem T_Se_isFewer : TabOK i_Se_isFewer M_Se_isFewer := tab_ok (by decide +kernel)
theorem H_Se_isFewer : ThrOK i_Se_isFewer M_Se_isFewer := ⟨fa_n, rfl, fa_n⟩
def t_SO_person : List (Nat × Instr × Nat) := [(0, .aload_n 0, 1), (1, .iload_n 1, 1), (2, .invokevirtual 151, 3), (5, .iload_n 2, 1), (6, .tableswitch 190 0 7 #[46, 59, 72, 85, 98, 111, 131, 154], 46), (52, .aload_n 0, 1), (53, .getfield 19, 3), (56, .getfield 154, 3), (59, .getfield 158, 3), (62, .iload_n 1, 1), (63, .iaload, 1), (64, .ireturn, 1), (65, .aload_n 0, 1), (66, .getfield 19, 3), (69, .getfield 154, 3), (72, .getfield 161, 3), (75, .iload_n 1, 1), (76, .iaload, 1), (77, .ireturn, 1), (78, .aload_n 0, 1), (79, .getfield 19, 3), (82, .getfield 91, 3), (85, .getfield 164, 3), (88, .iload_n 1, 1), (89, .iaload, 1), (90, .ireturn, 1), (91, .aload_n 0, 1), (92, .getfield 19, 3), (95, .getfield 91, 3), (98, .getfield 167, 3), (101, .iload_n 1, 1), (102, .iaload, 1), (103, .ireturn, 1), (104, .aload_n 0, 1), (105, .getfield 19, 3), (108, .getfield 154, 3), (111, .getfield 170, 3), (114, .iload_n 1, 1), (115, .iaload, 1), (116, .ireturn, 1), (117, .aload_n 0, 1), (118, .getfield 19, 3), (121, .getfield 154, 3), (124, .iload_n 1, 1), (125, .invokevirtual 173, 3), (128, .ifCond .eq 7, 3), (131, .iconst 1, 1), (132, .goto 4, 3), (135, .iconst 0, 1), (136, .ireturn, 1), (137, .aload_n 0, 1), (138, .getfield 19, 3), (141, .getfield 91, 3), (144, .aload_n 0, 1), (145, .getfield 19, 3), (148, .getfield 154, 3), (151, .getfield 170, 3), (154, .iload_n 1, 1), (155, .iaload, 1), (156, .invokevirtual 177, 3), (159, .ireturn, 1), (160, .aload_n 0, 1), (161, .getfield 19, 3), (164, .getfield 154, 3), (167, .getfield 170, 3), (170, .iload_n 1, 1), (171, .iaload, 1), (172, .aload_n 0, 1), (173, .getfield 19, 3), (176, .aload_n 0, 1), (177, .getfield 19, 3), (180, .invokevirtual 180, 3), (183, .iconst 1, 1), (184, .iload_n 1, 1), (185, .ishl, 1), (186, .iconst (-1), 1), (187, .ixor, 1), (188, .iand, 1), (189, .invokevirtual 183, 3), (192, .iconst (-1), 1), (193, .ixor, 1), (194, .iand, 1), (195, .ireturn, 1), (196, .new 146, 3), (199, .dup, 1), (200, .ldc 186, 2), (202, .invokespecial 150, 3), (205, .athrow, 1)]
def M_SO_person : MT := (t_SO_person, P_SO, [(196, 146, 186, 30, 150, 3, false)], [])
theorem T_SO_person : TabOK i_SO_person M_SO_person := tab_ok (by decide +kernel)
theorem H_SO_person : ThrOK i_SO_person M_SO_person := ⟨fa_c ⟨rfl, x_146_150_3, by decide +kernel, by decide +kernel, Or.inl (by decide +kernel)⟩ (fa_n), rfl, fa_n⟩
def t_SO_needPerson : List (Nat × Instr × Nat) := [(0, .iload_n 1, 1), (1, .ifCond .lt 17, 3), (4, .iload_n 1, 1), (5, .aload_n 0, 1), (6, .getfield 19, 3), (9, .getfield 91, 3), (12, .getfield 269, 3), (15, .if_icmp .lt 14, 3), (18, .new 417, 3), (21, .dup, 1), (22, .ldc_w 424, 3), (25, .invokespecial 421, 3), (28, .athrow, 1), (29, .return_, 1)]
def M_SO_needPerson : MT := (t_SO_needPerson, P_SO, [(18, 417, 424, 29, 421, 2, true)], [])
theorem T_SO_needPerson : TabOK i_SO_needPerson M_SO_needPerson := tab_ok (by decide +kernel)
theorem H_SO_needPerson : ThrOK i_SO_needPerson M_SO_needPerson := ⟨fa_c ⟨rfl, x_417_421_2, by decide +kernel, by decide +kernel, Or.inr (by decide +kernel)⟩ (fa_n), rfl, fa_n⟩
def t_SO_rule : List (Nat × Instr × Nat) := [(0, .iload_n 2, 1), (1, .ifCond .lt 8, 3), (4, .iload_n 2, 1), (5, .iconst 2, 1), (6, .if_icmp .le 13, 3), (9, .new 146, 3), (12, .dup, 1), (13, .ldc 188, 2), (15, .invokespecial 150, 3), (18, .athrow, 1), (19, .iload_n 1, 1), (20, .ifCond .lt 17, 3), (23, .iload_n 1, 1), (24, .aload_n 0, 1), (25, .getfield 19, 3), (28, .getfield 91, 3), (31, .getfield 190, 3), (34, .if_icmp .lt 5, 3), (37, .iconst (-1), 1), (38, .ireturn, 1), (39, .iload_n 2, 1), (40, .ifCond .ne 18, 3), (43, .aload_n 0, 1), (44, .getfield 19, 3), (47, .getfield 91, 3), (50, .getfield 193, 3), (53, .iload_n 1, 1), (54, .iaload, 1), (55, .goto 35, 3), (58, .iload_n 2, 1), (59, .iconst 1, 1), (60, .if_icmp .ne 18, 3), (63, .aload_n 0, 1), (64, .getfield 19, 3), (67, .getfield 91, 3), (70, .getfield 196, 3), (73, .iload_n 1, 1), (74, .iaload, 1), (75, .goto 15, 3), (78, .aload_n 0, 1), (79, .getfield 19, 3), (82, .getfield 91, 3), (85, .getfield 199, 3), (88, .iload_n 1, 1), (89, .iaload, 1), (90, .ireturn, 1)]
def M_SO_rule : MT := (t_SO_rule, P_SO, [(9, 146, 188, 31, 150, 3, false)], [])
theorem T_SO_rule : TabOK i_SO_rule M_SO_rule := tab_ok (by decide +kernel)
theorem H_SO_rule : ThrOK i_SO_rule M_SO_rule := ⟨fa_c ⟨rfl, x_146_150_3, by decide +kernel, by decide +kernel, Or.inl (by decide +kernel)⟩ (fa_n), rfl, fa_n⟩
def t_SO_apart : List (Nat × Instr × Nat) := [(0, .aload_n 0, 1), (1, .iload_n 1, 1), (2, .iload_n 2, 1), (3, .invokevirtual 206, 3), (6, .aload_n 0, 1), (7, .getfield 19, 3), (10, .getfield 154, 3), (13, .iload_n 1, 1), (14, .iload_n 2, 1), (15, .invokevirtual 210, 3), (18, .ireturn, 1)]
def M_SO_apart : MT := (t_SO_apart, P_SO, [], [])
theorem T_SO_apart : TabOK i_SO_apart M_SO_apart := tab_ok (by decide +kernel)
theorem H_SO_apart : ThrOK i_SO_apart M_SO_apart := ⟨fa_n, rfl, fa_n⟩
def t_SO_needTwo : List (Nat × Instr × Nat) := [(0, .aload_n 0, 1), (1, .iload_n 1, 1), (2, .invokevirtual 151, 3), (5, .aload_n 0, 1), (6, .iload_n 2, 1), (7, .invokevirtual 151, 3), (10, .iload_n 1, 1), (11, .iload_n 2, 1), (12, .if_icmp .ne 14, 3), (15, .new 84, 3), (18, .dup, 1), (19, .ldc_w 426, 3), (22, .invokespecial 88, 3), (25, .athrow, 1), (26, .return_, 1)]
def M_SO_needTwo : MT := (t_SO_needTwo, P_SO, [(15, 84, 426, 32, 88, 0, true)], [])
theorem T_SO_needTwo : TabOK i_SO_needTwo M_SO_needTwo := tab_ok (by decide +kernel)
theorem H_SO_needTwo : ThrOK i_SO_needTwo M_SO_needTwo := ⟨fa_c ⟨rfl, x_84_88_0, by decide +kernel, by decide +kernel, Or.inr (by decide +kernel)⟩ (fa_n), rfl, fa_n⟩
def t_SO_hears : List (Nat × Instr × Nat) := [(0, .aload_n 0, 1), (1, .iload_n 2, 1), (2, .iload_n 3, 1), (3, .invokevirtual 214, 3), (6, .aload_n 0, 1), (7, .iload_n 1, 1), (8, .iload 4, 2), (10, .invokevirtual 206, 3), (13, .aload_n 0, 1), (14, .getfield 19, 3), (17, .iload_n 1, 1), (18, .iload_n 2, 1), (19, .iload_n 3, 1), (20, .iload 4, 2), (22, .invokevirtual 217, 3), (25, .ireturn, 1)]
def M_SO_hears : MT := (t_SO_hears, P_SO, [], [])
theorem T_SO_hears : TabOK i_SO_hears M_SO_hears := tab_ok (by decide +kernel)
theorem H_SO_hears : ThrOK i_SO_hears M_SO_hears := ⟨fa_n, rfl, fa_n⟩
def t_SO_needSaying : List (Nat × Instr × Nat) := [(0, .aload_n 0, 1), (1, .iload_n 1, 1), (2, .invokevirtual 130, 3), (5, .iload_n 2, 1), (6, .ifCond .lt 19, 3), (9, .iload_n 2, 1), (10, .aload_n 0, 1), (11, .getfield 19, 3), (14, .getfield 91, 3), (17, .getfield 133, 3), (20, .iload_n 1, 1), (21, .iaload, 1), (22, .if_icmp .lt 14, 3), (25, .new 417, 3), (28, .dup, 1), (29, .ldc_w 422, 3), (32, .invokespecial 421, 3), (35, .athrow, 1), (36, .return_, 1)]
def M_SO_needSaying : MT := (t_SO_needSaying, P_SO, [(25, 417, 422, 33, 421, 2, true)], [])
theorem T_SO_needSaying : TabOK i_SO_needSaying M_SO_needSaying := tab_ok (by decide +kernel)
theorem H_SO_needSaying : ThrOK i_SO_needSaying M_SO_needSaying := ⟨fa_c ⟨rfl, x_417_421_2, by decide +kernel, by decide +kernel, Or.inr (by decide +kernel)⟩ (fa_n), rfl, fa_n⟩
def t_Sch_takenNow : List (Nat × Instr × Nat) := [(0, .aload_n 0, 1), (1, .iload_n 1, 1), (2, .iload_n 2, 1), (3, .iload_n 3, 1), (4, .iload 4, 2), (6, .aload_n 0, 1), (7, .getfield 21, 3), (10, .iload 4, 2), (12, .iload_n 2, 1), (13, .invokevirtual 91, 3), (16, .invokevirtual 129, 3), (19, .ireturn, 1)]
def M_Sch_takenNow : MT := (t_Sch_takenNow, P_Sch, [], [])
theorem T_Sch_takenNow : TabOK i_Sch_takenNow M_Sch_takenNow := tab_ok (by decide +kernel)
theorem H_Sch_takenNow : ThrOK i_Sch_takenNow M_Sch_takenNow := ⟨fa_n, rfl, fa_n⟩
def t_SO_audience : List (Nat × Instr × Nat) := [(0, .aload_n 0, 1), (1, .iload_n 1, 1), (2, .invokevirtual 151, 3), (5, .aload_n 0, 1), (6, .iload_n 2, 1), (7, .iload_n 3, 1), (8, .invokevirtual 214, 3), (11, .iload 4, 2), (13, .ifCond .eq 17, 3), (16, .aload_n 0, 1), (17, .getfield 19, 3), (20, .iload_n 1, 1), (21, .iload_n 2, 1), (22, .iload_n 3, 1), (23, .iload_n 2, 1), (24, .invokevirtual 221, 3), (27, .goto 13, 3), (30, .aload_n 0, 1), (31, .getfield 19, 3), (34, .iload_n 1, 1), (35, .iload_n 2, 1), (36, .iload_n 3, 1), (37, .invokevirtual 224, 3), (40, .ireturn, 1)]
def M_SO_audience : MT := (t_SO_audience, P_SO, [], [])
theorem T_SO_audience : TabOK i_SO_audience M_SO_audience := tab_ok (by decide +kernel)
theorem H_SO_audience : ThrOK i_SO_audience M_SO_audience := ⟨fa_n, rfl, fa_n⟩
def t_Sch_takers : List (Nat × Instr × Nat) := [(0, .iconst 0, 1), (1, .istore 5, 2), (3, .iconst 0, 1), (4, .istore 6, 2), (6, .iload 6, 2), (8, .aload_n 0, 1), (9, .getfield 12, 3), (12, .getfield 63, 3), (15, .if_icmp .ge 46, 3), (18, .iload 5, 2), (20, .aload_n 0, 1), (21, .iload_n 1, 1), (22, .iload_n 2, 1), (23, .iload_n 3, 1), (24, .iload 6, 2), (26, .aload_n 0, 1), (27, .getfield 21, 3), (30, .iload 6, 2), (32, .iload_n 2, 1), (33, .invokevirtual 91, 3), (36, .invokevirtual 129, 3), (39, .iload 4, 2), (41, .if_icmp .ne 10, 3), (44, .iconst 1, 1), (45, .iload 6, 2), (47, .ishl, 1), (48, .goto 4, 3), (51, .iconst 0, 1), (52, .ior, 1), (53, .istore 5, 2), (55, .iinc 6 1, 3), (58, .goto (-52), 3), (61, .iload 5, 2), (63, .ireturn, 1)]
def M_Sch_takers : MT := (t_Sch_takers, P_Sch, [], [])
theorem T_Sch_takers : TabOK i_Sch_takers M_Sch_takers := tab_ok (by decide +kernel)
theorem H_Sch_takers : ThrOK i_Sch_takers M_Sch_takers := ⟨fa_n, rfl, fa_n⟩
def t_Sch_hearers : List (Nat × Instr × Nat) := [(0, .iconst 1, 1), (1, .aload_n 0, 1), (2, .getfield 12, 3), (5, .getfield 63, 3), (8, .ishl, 1), (9, .iconst 1, 1), (10, .isub, 1), (11, .aload_n 0, 1), (12, .iload_n 1, 1), (13, .iload_n 2, 1), (14, .iload_n 3, 1), (15, .iconst (-1), 1), (16, .invokevirtual 133, 3), (19, .iconst (-1), 1), (20, .ixor, 1), (21, .iand, 1), (22, .ireturn, 1)]
def M_Sch_hearers : MT := (t_Sch_hearers, P_Sch, [], [])
theorem T_Sch_hearers : TabOK i_Sch_hearers M_Sch_hearers := tab_ok (by decide +kernel)
theorem H_Sch_hearers : ThrOK i_Sch_hearers M_Sch_hearers := ⟨fa_n, rfl, fa_n⟩
def t_SO_say : List (Nat × Instr × Nat) := [(0, .aload_n 0, 1), (1, .iload_n 1, 1), (2, .invokevirtual 151, 3), (5, .aload_n 0, 1), (6, .iload_n 2, 1), (7, .iload_n 3, 1), (8, .invokevirtual 214, 3), (11, .aload_n 0, 1), (12, .getfield 19, 3), (15, .iload_n 1, 1), (16, .iload_n 2, 1), (17, .invokevirtual 228, 3), (20, .ifCond .eq 15, 3), (23, .aload_n 0, 1), (24, .getfield 19, 3), (27, .iload_n 2, 1), (28, .iload_n 3, 1), (29, .invokevirtual 232, 3), (32, .ifCond .ne 13, 3), (35, .new 235, 3), (38, .dup, 1), (39, .ldc 237, 2), (41, .invokespecial 239, 3), (44, .athrow, 1), (45, .aload_n 0, 1), (46, .invokevirtual 240, 3), (49, .aload_n 0, 1), (50, .getfield 19, 3), (53, .iload_n 1, 1), (54, .iload_n 2, 1), (55, .iload_n 3, 1), (56, .invokevirtual 243, 3), (59, .ireturn, 1)]
def M_SO_say : MT := (t_SO_say, P_SO, [(35, 235, 237, 34, 239, 4, false)], [])
theorem T_SO_say : TabOK i_SO_say M_SO_say := tab_ok (by decide +kernel)
theorem H_SO_say : ThrOK i_SO_say M_SO_say := ⟨fa_c ⟨rfl, x_235_239_4, by decide +kernel, by decide +kernel, Or.inl (by decide +kernel)⟩ (fa_n), rfl, fa_n⟩
def t_Sch_canTell : List (Nat × Instr × Nat) := [(0, .aload_n 0, 1), (1, .getfield 21, 3), (4, .iload_n 1, 1), (5, .invokevirtual 98, 3), (8, .ifCond .ne 19, 3), (11, .aload_n 0, 1), (12, .getfield 21, 3), (15, .iload_n 1, 1), (16, .iload_n 2, 1), (17, .invokevirtual 91, 3), (20, .ifCond .eq 7, 3), (23, .iconst 1, 1), (24, .goto 4, 3), (27, .iconst 0, 1), (28, .ireturn, 1)]
def M_Sch_canTell : MT := (t_Sch_canTell, P_Sch, [], [])
theorem T_Sch_canTell : TabOK i_Sch_canTell M_Sch_canTell := tab_ok (by decide +kernel)
theorem H_Sch_canTell : ThrOK i_Sch_canTell M_Sch_canTell := ⟨fa_n, rfl, fa_n⟩
def t_Sch_speak : List (Nat × Instr × Nat) := [(0, .aload_n 0, 1), (1, .getfield 21, 3), (4, .dup, 1), (5, .getfield 69, 3), (8, .lconst 1, 1), (9, .iload_n 2, 1), (10, .iload_n 3, 1), (11, .invokestatic 137, 3), (14, .lshl, 1), (15, .lor, 1), (16, .putfield 69, 3), (19, .aload_n 0, 1), (20, .getfield 21, 3), (23, .invokevirtual 140, 3), (26, .bipush 100, 2), (28, .irem, 1), (29, .aload_n 0, 1), (30, .getfield 12, 3), (33, .getfield 144, 3), (36, .iload_n 1, 1), (37, .iaload, 1), (38, .if_icmp .ge 7, 3), (41, .iconst 1, 1), (42, .goto 4, 3), (45, .iconst 0, 1), (46, .istore 4, 2), (48, .iconst 0, 1), (49, .istore 5, 2), (51, .lconst 0, 1), (52, .lstore 6, 2), (54, .iconst 0, 1), (55, .istore 8, 2), (57, .iload 8, 2), (59, .aload_n 0, 1), (60, .getfield 12, 3), (63, .getfield 63, 3), (66, .if_icmp .ge 94, 3), (69, .iload 4, 2), (71, .ifCond .ne 89, 3), (74, .aload_n 0, 1), (75, .iload_n 1, 1), (76, .iload_n 2, 1), (77, .iload_n 3, 1), (78, .iload 8, 2), (80, .aload_n 0, 1), (81, .getfield 21, 3), (84, .iload 8, 2), (86, .iload_n 2, 1), (87, .invokevirtual 91, 3), (90, .invokevirtual 129, 3), (93, .istore 9, 2), (95, .iload 9, 2), (97, .iconst (-1), 1), (98, .if_icmp .eq 56, 3), (101, .aload_n 0, 1), (102, .getfield 21, 3), (105, .iload 8, 2), (107, .iload 9, 2), (109, .invokevirtual 91, 3), (112, .ifCond .ne 42, 3), (115, .iload 5, 2), (117, .iconst 1, 1), (118, .iload 8, 2), (120, .ishl, 1), (121, .ior, 1), (122, .istore 5, 2), (124, .lload 6, 2), (126, .iload 9, 2), (128, .i2l, 1), (129, .iconst 4, 1), (130, .iload 8, 2), (132, .imul, 1), (133, .lshl, 1), (134, .lor, 1), (135, .lstore 6, 2), (137, .aload_n 0, 1), (138, .getfield 21, 3), (141, .getfield 95, 3), (144, .iload 8, 2), (146, .dup2, 1), (147, .iaload, 1), (148, .iconst 1, 1), (149, .iload 9, 2), (151, .ishl, 1), (152, .ior, 1), (153, .iastore, 1), (154, .iinc 8 1, 3), (157, .goto (-100), 3), (160, .aload_n 0, 1), (161, .getfield 21, 3), (164, .getfield 147, 3), (167, .bipush 60, 2), (169, .if_icmp .ge 125, 3), (172, .aload_n 0, 1), (173, .getfield 35, 3), (176, .getfield 150, 3), (179, .aload_n 0, 1), (180, .getfield 21, 3), (183, .getfield 147, 3), (186, .aload_n 0, 1), (187, .getfield 21, 3), (190, .getfield 113, 3), (193, .iastore, 1), (194, .aload_n 0, 1), (195, .getfield 35, 3), (198, .getfield 153, 3), (201, .aload_n 0, 1), (202, .getfield 21, 3), (205, .getfield 147, 3), (208, .iload_n 1, 1), (209, .iastore, 1), (210, .aload_n 0, 1), (211, .getfield 35, 3), (214, .getfield 156, 3), (217, .aload_n 0, 1), (218, .getfield 21, 3), (221, .getfield 147, 3), (224, .iload_n 2, 1), (225, .iload_n 3, 1), (226, .invokestatic 137, 3), (229, .iastore, 1), (230, .aload_n 0, 1), (231, .getfield 35, 3), (234, .getfield 159, 3), (237, .aload_n 0, 1), (238, .getfield 21, 3), (241, .getfield 147, 3), (244, .iload 5, 2), (246, .iastore, 1), (247, .aload_n 0, 1), (248, .getfield 35, 3), (251, .getfield 162, 3), (254, .aload_n 0, 1), (255, .getfield 21, 3), (258, .getfield 147, 3), (261, .lload 6, 2), (263, .lastore, 1), (264, .aload_n 0, 1), (265, .getfield 35, 3), (268, .getfield 166, 3), (271, .aload_n 0, 1), (272, .getfield 21, 3), (275, .getfield 147, 3), (278, .iload 4, 2), (280, .bastore, 1), (281, .aload_n 0, 1), (282, .getfield 21, 3), (285, .dup, 1), (286, .getfield 147, 3), (289, .iconst 1, 1), (290, .iadd, 1), (291, .putfield 147, 3), (294, .iload 5, 2), (296, .ireturn, 1)]
def M_Sch_speak : MT := (t_Sch_speak, P_Sch, [], [])
theorem T_Sch_speak : TabOK i_Sch_speak M_Sch_speak := tab_ok (by decide +kernel)
theorem H_Sch_speak : ThrOK i_Sch_speak M_Sch_speak := ⟨fa_n, rfl, fa_n⟩
def t_SO_think : List (Nat × Instr × Nat) := [(0, .aload_n 0, 1), (1, .iload_n 1, 1), (2, .invokevirtual 151, 3), (5, .aload_n 0, 1), (6, .invokevirtual 240, 3), (9, .aload_n 0, 1), (10, .getfield 19, 3), (13, .getfield 154, 3), (16, .getfield 170, 3), (19, .iload_n 1, 1), (20, .iaload, 1), (21, .istore_n 2, 1), (22, .aload_n 0, 1), (23, .getfield 19, 3), (26, .getfield 154, 3), (29, .getfield 170, 3), (32, .iload_n 1, 1), (33, .aload_n 0, 1), (34, .getfield 19, 3), (37, .getfield 91, 3), (40, .iload_n 2, 1), (41, .invokevirtual 177, 3), (44, .iastore, 1), (45, .aload_n 0, 1), (46, .getfield 19, 3), (49, .getfield 154, 3), (52, .getfield 170, 3), (55, .iload_n 1, 1), (56, .iaload, 1), (57, .iload_n 2, 1), (58, .iconst (-1), 1), (59, .ixor, 1), (60, .iand, 1), (61, .ireturn, 1)]
def M_SO_think : MT := (t_SO_think, P_SO, [], [])
theorem T_SO_think : TabOK i_SO_think M_SO_think := tab_ok (by decide +kernel)
theorem H_SO_think : ThrOK i_SO_think M_SO_think := ⟨fa_n, rfl, fa_n⟩
def t_SO_away : List (Nat × Instr × Nat) := [(0, .aload_n 0, 1), (1, .iload_n 1, 1), (2, .invokevirtual 151, 3), (5, .aload_n 0, 1), (6, .invokevirtual 240, 3), (9, .aload_n 0, 1), (10, .getfield 19, 3), (13, .getfield 154, 3), (16, .iload_n 1, 1), (17, .invokevirtual 173, 3), (20, .istore_n 3, 1), (21, .iload_n 2, 1), (22, .ifCond .eq 24, 3), (25, .aload_n 0, 1), (26, .getfield 19, 3), (29, .getfield 154, 3), (32, .dup, 1), (33, .getfield 246, 3), (36, .iconst 1, 1), (37, .iload_n 1, 1), (38, .ishl, 1), (39, .ior, 1), (40, .putfield 246, 3), (43, .goto 23, 3), (46, .aload_n 0, 1), (47, .getfield 19, 3), (50, .getfield 154, 3), (53, .dup, 1), (54, .getfield 246, 3), (57, .iconst 1, 1), (58, .iload_n 1, 1), (59, .ishl, 1), (60, .iconst (-1), 1), (61, .ixor, 1), (62, .iand, 1), (63, .putfield 246, 3), (66, .iload_n 3, 1), (67, .iload_n 2, 1), (68, .if_icmp .eq 7, 3), (71, .iconst 1, 1), (72, .goto 4, 3), (75, .iconst 0, 1), (76, .ireturn, 1)]
def M_SO_away : MT := (t_SO_away, P_SO, [], [])
theorem T_SO_away : TabOK i_SO_away M_SO_away := tab_ok (by decide +kernel)
theorem H_SO_away : ThrOK i_SO_away M_SO_away := ⟨fa_n, rfl, fa_n⟩
def t_SO_change : List (Nat × Instr × Nat) := [(0, .aload_n 0, 1), (1, .iload_n 1, 1), (2, .iload_n 2, 1), (3, .invokevirtual 206, 3), (6, .aload_n 0, 1), (7, .invokevirtual 240, 3), (10, .aload_n 0, 1), (11, .getfield 19, 3), (14, .getfield 154, 3), (17, .iload_n 1, 1), (18, .iload_n 2, 1), (19, .invokevirtual 249, 3), (22, .aload_n 0, 1), (23, .getfield 19, 3), (26, .getfield 154, 3), (29, .iload_n 1, 1), (30, .iload_n 2, 1), (31, .invokevirtual 210, 3), (34, .ireturn, 1)]
def M_SO_change : MT := (t_SO_change, P_SO, [], [])
theorem T_SO_change : TabOK i_SO_change M_SO_change := tab_ok (by decide +kernel)
theorem H_SO_change : ThrOK i_SO_change M_SO_change := ⟨fa_n, rfl, fa_n⟩
def t_SO_term : List (Nat × Instr × Nat) := [(0, .iload_n 1, 1), (1, .invokestatic 260, 3), (4, .aload_n 0, 1), (5, .invokevirtual 240, 3), (8, .aload_n 0, 1), (9, .getfield 19, 3), (12, .iload_n 1, 1), (13, .invokevirtual 263, 3), (16, .ireturn, 1)]
def M_SO_term : MT := (t_SO_term, P_SO, [], [])
theorem T_SO_term : TabOK i_SO_term M_SO_term := tab_ok (by decide +kernel)
theorem H_SO_term : ThrOK i_SO_term M_SO_term := ⟨fa_n, rfl, fa_n⟩
def t_SO_needTerm : List (Nat × Instr × Nat) := [(0, .iload_n 0, 1), (1, .ifCond .lt 9, 3), (4, .iload_n 0, 1), (5, .bipush 40, 2), (7, .if_icmp .le 14, 3), (10, .new 84, 3), (13, .dup, 1), (14, .ldc_w 428, 3), (17, .invokespecial 88, 3), (20, .athrow, 1), (21, .return_, 1)]
def M_SO_needTerm : MT := (t_SO_needTerm, P_SO, [(10, 84, 428, 35, 88, 0, true)], [])
theorem T_SO_needTerm : TabOK i_SO_needTerm M_SO_needTerm := tab_ok (by decide +kernel)
theorem H_SO_needTerm : ThrOK i_SO_needTerm M_SO_needTerm := ⟨fa_c ⟨rfl, x_84_88_0, by decide +kernel, by decide +kernel, Or.inr (by decide +kernel)⟩ (fa_n), rfl, fa_n⟩
def t_Sch_runTerm : List (Nat × Instr × Nat) := [(0, .iconst 0, 1), (1, .istore_n 2, 1), (2, .iconst 0, 1), (3, .istore_n 3, 1), (4, .iload_n 3, 1), (5, .iload_n 1, 1), (6, .if_icmp .ge 104, 3), (9, .aload_n 0, 1), (10, .getfield 12, 3), (13, .getfield 63, 3), (16, .ifCond .le 94, 3), (19, .aload_n 0, 1), (20, .getfield 12, 3), (23, .getfield 59, 3), (26, .ifCond .le 84, 3), (29, .aload_n 0, 1), (30, .getfield 21, 3), (33, .invokevirtual 140, 3), (36, .aload_n 0, 1), (37, .getfield 12, 3), (40, .getfield 63, 3), (43, .irem, 1), (44, .istore 4, 2), (46, .aload_n 0, 1), (47, .getfield 21, 3), (50, .invokevirtual 140, 3), (53, .aload_n 0, 1), (54, .getfield 12, 3), (57, .getfield 59, 3), (60, .irem, 1), (61, .istore 5, 2), (63, .aload_n 0, 1), (64, .iload 5, 2), (66, .invokevirtual 80, 3), (69, .istore 6, 2), (71, .iload 6, 2), (73, .ifCond .eq 31, 3), (76, .aload_n 0, 1), (77, .iload 4, 2), (79, .iload 5, 2), (81, .invokevirtual 170, 3), (84, .ifCond .eq 20, 3), (87, .aload_n 0, 1), (88, .iload 4, 2), (90, .iload 5, 2), (92, .iload 6, 2), (94, .invokestatic 173, 3), (97, .invokevirtual 176, 3), (100, .pop, 1), (101, .iinc 2 1, 3), (104, .iinc 3 1, 3), (107, .goto (-103), 3), (110, .iload_n 2, 1), (111, .ireturn, 1)]
def M_Sch_runTerm : MT := (t_Sch_runTerm, P_Sch, [], [])
theorem T_Sch_runTerm : TabOK i_Sch_runTerm M_Sch_runTerm := tab_ok (by decide +kernel)
theorem H_Sch_runTerm : ThrOK i_Sch_runTerm M_Sch_runTerm := ⟨fa_n, rfl, fa_n⟩
def t_SO_plan : List (Nat × Instr × Nat) := [(0, .aload_n 0, 1), (1, .iload_n 1, 1), (2, .invokevirtual 130, 3), (5, .iload_n 2, 1), (6, .ifCond .eq 14, 3), (9, .aload_n 0, 1), (10, .getfield 31, 3), (13, .iload_n 1, 1), (14, .invokevirtual 275, 3), (17, .goto 11, 3), (20, .aload_n 0, 1), (21, .getfield 31, 3), (24, .iload_n 1, 1), (25, .invokevirtual 278, 3), (28, .ireturn, 1)]
def M_SO_plan : MT := (t_SO_plan, P_SO, [], [])
theorem T_SO_plan : TabOK i_SO_plan M_SO_plan := tab_ok (by decide +kernel)
theorem H_SO_plan : ThrOK i_SO_plan M_SO_plan := ⟨fa_n, rfl, fa_n⟩
def t_Pl_firstSaying : List (Nat × Instr × Nat) := [(0, .aload_n 0, 1), (1, .iload_n 1, 1), (2, .invokevirtual 54, 3), (5, .istore_n 2, 1), (6, .iload_n 2, 1), (7, .ifCond .gt 5, 3), (10, .iconst (-1), 1), (11, .ireturn, 1), (12, .aload_n 0, 1), (13, .iload_n 2, 1), (14, .invokevirtual 57, 3), (17, .iconst 0, 1), (18, .istore_n 3, 1), (19, .iload_n 3, 1), (20, .bipush 10, 2), (22, .if_icmp .ge 97, 3), (25, .aload_n 0, 1), (26, .iload_n 3, 1), (27, .aload_n 0, 1), (28, .getfield 27, 3), (31, .iconst 0, 1), (32, .invokevirtual 60, 3), (35, .istore 4, 2), (37, .iconst 0, 1), (38, .istore 5, 2), (40, .iload 5, 2), (42, .bipush 6, 2), (44, .if_icmp .ge 69, 3), (47, .iload 4, 2), (49, .iload 5, 2), (51, .ishr, 1), (52, .ifCond .eq 61, 3), (55, .iload 4, 2), (57, .iload 5, 2), (59, .ishr, 1), (60, .iconst 1, 1), (61, .iand, 1), (62, .ifCond .eq 7, 3), (65, .iconst 1, 1), (66, .goto 4, 3), (69, .iconst 0, 1), (70, .istore 6, 2), (72, .iload 6, 2), (74, .ifCond .eq 33, 3), (77, .aload_n 0, 1), (78, .iconst 1, 1), (79, .iload 5, 2), (81, .ishl, 1), (82, .aload_n 0, 1), (83, .aload_n 0, 1), (84, .getfield 27, 3), (87, .iload_n 3, 1), (88, .iload 5, 2), (90, .invokevirtual 64, 3), (93, .invokevirtual 48, 3), (96, .ifCond .eq 11, 3), (99, .bipush 10, 2), (101, .iload_n 3, 1), (102, .imul, 1), (103, .iload 5, 2), (105, .iadd, 1), (106, .ireturn, 1), (107, .iinc 5 1, 3), (110, .goto (-70), 3), (113, .iinc 3 1, 3), (116, .goto (-97), 3), (119, .iconst (-1), 1), (120, .ireturn, 1)]
def M_Pl_firstSaying : MT := (t_Pl_firstSaying, P_Pl, [], [])
theorem T_Pl_firstSaying : TabOK i_Pl_firstSaying M_Pl_firstSaying := tab_ok (by decide +kernel)
theorem H_Pl_firstSaying : ThrOK i_Pl_firstSaying M_Pl_firstSaying := ⟨fa_n, rfl, fa_n⟩
def t_Pl_fewestSayings : List (Nat × Instr × Nat) := [(0, .aload_n 0, 1), (1, .iload_n 1, 1), (2, .invokevirtual 23, 3), (5, .aload_n 0, 1), (6, .getfield 27, 3), (9, .aload_n 0, 1), (10, .getfield 31, 3), (13, .if_icmp .ne 5, 3), (16, .iconst 0, 1), (17, .ireturn, 1), (18, .iconst (-1), 1), (19, .istore_n 2, 1), (20, .aload_n 0, 1), (21, .iconst 0, 1), (22, .aload_n 0, 1), (23, .getfield 27, 3), (26, .invokevirtual 34, 3), (29, .iconst 0, 1), (30, .istore_n 3, 1), (31, .iload_n 3, 1), (32, .bipush 64, 2), (34, .if_icmp .ge 92, 3), (37, .iload_n 3, 1), (38, .invokestatic 38, 3), (41, .istore 4, 2), (43, .iload_n 2, 1), (44, .iconst (-1), 1), (45, .if_icmp .eq 12, 3), (48, .iload 4, 2), (50, .iload_n 2, 1), (51, .if_icmp .lt 6, 3), (54, .goto 66, 3), (57, .iconst 0, 1), (58, .istore 5, 2), (60, .iload 5, 2), (62, .aload_n 0, 1), (63, .getfield 31, 3), (66, .if_icmp .gt 54, 3), (69, .aload_n 0, 1), (70, .iload_n 3, 1), (71, .iload 5, 2), (73, .invokevirtual 44, 3), (76, .ifCond .eq 13, 3), (79, .iload 5, 2), (81, .bipush 63, 2), (83, .ior, 1), (84, .istore 5, 2), (86, .goto 28, 3), (89, .aload_n 0, 1), (90, .iload_n 3, 1), (91, .iload 5, 2), (93, .invokevirtual 48, 3), (96, .ifCond .eq 18, 3), (99, .aload_n 0, 1), (100, .iload_n 3, 1), (101, .iload 5, 2), (103, .invokevirtual 51, 3), (106, .ifCond .eq 8, 3), (109, .iload 4, 2), (111, .iconst 1, 1), (112, .iadd, 1), (113, .istore_n 2, 1), (114, .iinc 5 1, 3), (117, .goto (-57), 3), (120, .iinc 3 1, 3), (123, .goto (-92), 3), (126, .iload_n 2, 1), (127, .ireturn, 1)]
def M_Pl_fewestSayings : MT := (t_Pl_fewestSayings, P_Pl, [], [])
theorem T_Pl_fewestSayings : TabOK i_Pl_fewestSayings M_Pl_fewestSayings := tab_ok (by decide +kernel)
theorem H_Pl_fewestSayings : ThrOK i_Pl_fewestSayings M_Pl_fewestSayings := ⟨fa_n, rfl, fa_n⟩
def t_Pl_prepare : List (Nat × Instr × Nat) := [(0, .aload_n 0, 1), (1, .aload_n 0, 1), (2, .getfield 19, 3), (5, .iload_n 1, 1), (6, .invokevirtual 67, 3), (9, .putfield 72, 3), (12, .aload_n 0, 1), (13, .aload_n 0, 1), (14, .getfield 19, 3), (17, .invokevirtual 75, 3), (20, .putfield 31, 3), (23, .aload_n 0, 1), (24, .aload_n 0, 1), (25, .getfield 19, 3), (28, .iload_n 1, 1), (29, .invokevirtual 79, 3), (32, .aload_n 0, 1), (33, .getfield 31, 3), (36, .iand, 1), (37, .putfield 27, 3), (40, .iconst 0, 1), (41, .istore_n 2, 1), (42, .iload_n 2, 1), (43, .aload_n 0, 1), (44, .getfield 19, 3), (47, .getfield 82, 3), (50, .getfield 86, 3), (53, .if_icmp .ge 55, 3), (56, .iconst 0, 1), (57, .istore_n 3, 1), (58, .iload_n 3, 1), (59, .aload_n 0, 1), (60, .getfield 19, 3), (63, .getfield 82, 3), (66, .getfield 91, 3), (69, .iload_n 1, 1), (70, .iaload, 1), (71, .if_icmp .ge 31, 3), (74, .aload_n 0, 1), (75, .getfield 9, 3), (78, .iload_n 2, 1), (79, .bipush 6, 2), (81, .imul, 1), (82, .iload_n 3, 1), (83, .iadd, 1), (84, .aload_n 0, 1), (85, .getfield 19, 3), (88, .iload_n 2, 1), (89, .iload_n 1, 1), (90, .iload_n 3, 1), (91, .iload_n 1, 1), (92, .invokevirtual 94, 3), (95, .iastore, 1), (96, .iinc 3 1, 3), (99, .goto (-41), 3), (102, .iinc 2 1, 3), (105, .goto (-63), 3), (108, .aload_n 0, 1), (109, .getfield 15, 3), (112, .lconst 0, 1), (113, .invokestatic 98, 3), (116, .return_, 1)]
def M_Pl_prepare : MT := (t_Pl_prepare, P_Pl, [], [])
theorem T_Pl_prepare : TabOK i_Pl_prepare M_Pl_prepare := tab_ok (by decide +kernel)
theorem H_Pl_prepare : ThrOK i_Pl_prepare M_Pl_prepare := ⟨fa_n, rfl, fa_n⟩
def t_Pl_mark : List (Nat × Instr × Nat) := [(0, .aload_n 0, 1), (1, .getfield 15, 3), (4, .iload_n 1, 1), (5, .bipush 16, 2), (7, .imul, 1), (8, .iload_n 2, 1), (9, .bipush 6, 2), (11, .ishr, 1), (12, .iadd, 1), (13, .dup2, 1), (14, .laload, 1), (15, .lconst 1, 1), (16, .iload_n 2, 1), (17, .bipush 63, 2), (19, .iand, 1), (20, .lshl, 1), (21, .lor, 1), (22, .lastore, 1), (23, .return_, 1)]
def M_Pl_mark : MT := (t_Pl_mark, P_Pl, [], [])
theorem T_Pl_mark : TabOK i_Pl_mark M_Pl_mark := tab_ok (by decide +kernel)
theorem H_Pl_mark : ThrOK i_Pl_mark M_Pl_mark := ⟨fa_n, rfl, fa_n⟩
def t_Pl_isBlank : List (Nat × Instr × Nat) := [(0, .aload_n 0, 1), (1, .getfield 15, 3), (4, .iload_n 1, 1), (5, .bipush 16, 2), (7, .imul, 1), (8, .iload_n 2, 1), (9, .bipush 6, 2), (11, .ishr, 1), (12, .iadd, 1), (13, .laload, 1), (14, .lconst 0, 1), (15, .lcmp, 1), (16, .ifCond .ne 7, 3), (19, .iconst 1, 1), (20, .goto 4, 3), (23, .iconst 0, 1), (24, .ireturn, 1)]
def M_Pl_isBlank : MT := (t_Pl_isBlank, P_Pl, [], [])
theorem T_Pl_isBlank : TabOK i_Pl_isBlank M_Pl_isBlank := tab_ok (by decide +kernel)
theorem H_Pl_isBlank : ThrOK i_Pl_isBlank M_Pl_isBlank := ⟨fa_n, rfl, fa_n⟩
def t_Pl_isMarked : List (Nat × Instr × Nat) := [(0, .aload_n 0, 1), (1, .getfield 15, 3), (4, .iload_n 1, 1), (5, .bipush 16, 2), (7, .imul, 1), (8, .iload_n 2, 1), (9, .bipush 6, 2), (11, .ishr, 1), (12, .iadd, 1), (13, .laload, 1), (14, .iload_n 2, 1), (15, .bipush 63, 2), (17, .iand, 1), (18, .lushr, 1), (19, .lconst 1, 1), (20, .land, 1), (21, .lconst 0, 1), (22, .lcmp, 1), (23, .ifCond .eq 7, 3), (26, .iconst 1, 1), (27, .goto 4, 3), (30, .iconst 0, 1), (31, .ireturn, 1)]
def M_Pl_isMarked : MT := (t_Pl_isMarked, P_Pl, [], [])
theorem T_Pl_isMarked : TabOK i_Pl_isMarked M_Pl_isMarked := tab_ok (by decide +kernel)
theorem H_Pl_isMarked : ThrOK i_Pl_isMarked M_Pl_isMarked := ⟨fa_n, rfl, fa_n⟩
def t_Pl_spread : List (Nat × Instr × Nat) := [(0, .iconst 0, 1), (1, .istore_n 3, 1), (2, .iconst 0, 1), (3, .istore 4, 2), (5, .iload 4, 2), (7, .bipush 10, 2), (9, .if_icmp .ge 99, 3), (12, .aload_n 0, 1), (13, .iload 4, 2), (15, .iload_n 2, 1), (16, .iload_n 1, 1), (17, .invokevirtual 60, 3), (20, .istore 5, 2), (22, .iconst 0, 1), (23, .istore 6, 2), (25, .iload 6, 2), (27, .bipush 6, 2), (29, .if_icmp .ge 73, 3), (32, .iload 5, 2), (34, .iload 6, 2), (36, .ishr, 1), (37, .ifCond .eq 65, 3), (40, .aload_n 0, 1), (41, .iload_n 2, 1), (42, .iload 4, 2), (44, .iload 6, 2), (46, .invokevirtual 64, 3), (49, .istore 7, 2), (51, .iload 5, 2), (53, .iload 6, 2), (55, .ishr, 1), (56, .iconst 1, 1), (57, .iand, 1), (58, .ifCond .eq 38, 3), (61, .iload 7, 2), (63, .iload_n 2, 1), (64, .if_icmp .eq 32, 3), (67, .aload_n 0, 1), (68, .iload_n 1, 1), (69, .iconst 1, 1), (70, .iload 6, 2), (72, .ishl, 1), (73, .ior, 1), (74, .iload 7, 2), (76, .invokevirtual 34, 3), (79, .iload_n 3, 1), (80, .iload 7, 2), (82, .aload_n 0, 1), (83, .getfield 31, 3), (86, .if_icmp .ne 7, 3), (89, .iconst 1, 1), (90, .goto 4, 3), (93, .iconst 0, 1), (94, .ior, 1), (95, .istore_n 3, 1), (96, .iinc 6 1, 3), (99, .goto (-74), 3), (102, .iinc 4 1, 3), (105, .goto (-100), 3), (108, .iload_n 3, 1), (109, .ireturn, 1)]
def M_Pl_spread : MT := (t_Pl_spread, P_Pl, [], [])
theorem T_Pl_spread : TabOK i_Pl_spread M_Pl_spread := tab_ok (by decide +kernel)
theorem H_Pl_spread : ThrOK i_Pl_spread M_Pl_spread := ⟨fa_n, rfl, fa_n⟩
def t_Pl_sayableBy : List (Nat × Instr × Nat) := [(0, .iload_n 2, 1), (1, .iload_n 1, 1), (2, .ishr, 1), (3, .iconst 1, 1), (4, .iand, 1), (5, .ifCond .eq 14, 3), (8, .aload_n 0, 1), (9, .getfield 72, 3), (12, .iload_n 3, 1), (13, .iconst (-1), 1), (14, .ixor, 1), (15, .iand, 1), (16, .goto 4, 3), (19, .iconst 0, 1), (20, .ireturn, 1)]
def M_Pl_sayableBy : MT := (t_Pl_sayableBy, P_Pl, [], [])
theorem T_Pl_sayableBy : TabOK i_Pl_sayableBy M_Pl_sayableBy := tab_ok (by decide +kernel)
theorem H_Pl_sayableBy : ThrOK i_Pl_sayableBy M_Pl_sayableBy := ⟨fa_n, rfl, fa_n⟩
def t_Pl_afterwards : List (Nat × Instr × Nat) := [(0, .iload_n 1, 1), (1, .aload_n 0, 1), (2, .getfield 9, 3), (5, .iload_n 2, 1), (6, .bipush 6, 2), (8, .imul, 1), (9, .iload_n 3, 1), (10, .iadd, 1), (11, .iaload, 1), (12, .ior, 1), (13, .ireturn, 1)]
def M_Pl_afterwards : MT := (t_Pl_afterwards, P_Pl, [], [])
theorem T_Pl_afterwards : TabOK i_Pl_afterwards M_Pl_afterwards := tab_ok (by decide +kernel)
theorem H_Pl_afterwards : ThrOK i_Pl_afterwards M_Pl_afterwards := ⟨fa_n, rfl, fa_n⟩
def t_Pl_keepOnlyWhatLeadsThere : List (Nat × Instr × Nat) := [(0, .bipush 63, 2), (2, .istore_n 2, 1), (3, .iload_n 2, 1), (4, .ifCond .lt 118, 3), (7, .iload_n 2, 1), (8, .invokestatic 38, 3), (11, .istore_n 3, 1), (12, .iconst 0, 1), (13, .istore 4, 2), (15, .iload 4, 2), (17, .aload_n 0, 1), (18, .getfield 31, 3), (21, .if_icmp .gt 95, 3), (24, .aload_n 0, 1), (25, .iload_n 2, 1), (26, .iload 4, 2), (28, .invokevirtual 44, 3), (31, .ifCond .eq 13, 3), (34, .iload 4, 2), (36, .bipush 63, 2), (38, .ior, 1), (39, .istore 4, 2), (41, .goto 69, 3), (44, .aload_n 0, 1), (45, .iload_n 2, 1), (46, .iload 4, 2), (48, .invokevirtual 48, 3), (51, .ifCond .eq 59, 3), (54, .iload_n 3, 1), (55, .iload_n 1, 1), (56, .if_icmp .ne 20, 3), (59, .iload 4, 2), (61, .aload_n 0, 1), (62, .getfield 31, 3), (65, .if_icmp .ne 7, 3), (68, .iconst 1, 1), (69, .goto 27, 3), (72, .iconst 0, 1), (73, .goto 23, 3), (76, .iload_n 3, 1), (77, .iload_n 1, 1), (78, .if_icmp .ge 17, 3), (81, .aload_n 0, 1), (82, .iload_n 2, 1), (83, .iload 4, 2), (85, .invokevirtual 106, 3), (88, .ifCond .eq 7, 3), (91, .iconst 1, 1), (92, .goto 4, 3), (95, .iconst 0, 1), (96, .istore 5, 2), (98, .iload 5, 2), (100, .ifCond .ne 10, 3), (103, .aload_n 0, 1), (104, .iload_n 2, 1), (105, .iload 4, 2), (107, .invokevirtual 109, 3), (110, .iinc 4 1, 3), (113, .goto (-98), 3), (116, .iinc 2 (-1), 3), (119, .goto (-116), 3), (122, .return_, 1)]
def M_Pl_keepOnlyWhatLeadsThere : MT := (t_Pl_keepOnlyWhatLeadsThere, P_Pl, [], [])
theorem T_Pl_keepOnlyWhatLeadsThere : TabOK i_Pl_keepOnlyWhatLeadsThere M_Pl_keepOnlyWhatLeadsThere := tab_ok (by decide +kernel)
theorem H_Pl_keepOnlyWhatLeadsThere : ThrOK i_Pl_keepOnlyWhatLeadsThere M_Pl_keepOnlyWhatLeadsThere := ⟨fa_n, rfl, fa_n⟩
def t_Pl_leadsOn : List (Nat × Instr × Nat) := [(0, .iconst 0, 1), (1, .istore_n 3, 1), (2, .iload_n 3, 1), (3, .bipush 10, 2), (5, .if_icmp .ge 87, 3), (8, .aload_n 0, 1), (9, .iload_n 3, 1), (10, .iload_n 2, 1), (11, .iload_n 1, 1), (12, .invokevirtual 60, 3), (15, .istore 4, 2), (17, .iconst 0, 1), (18, .istore 5, 2), (20, .iload 5, 2), (22, .bipush 6, 2), (24, .if_icmp .ge 62, 3), (27, .iload 4, 2), (29, .iload 5, 2), (31, .ishr, 1), (32, .ifCond .eq 54, 3), (35, .iload 4, 2), (37, .iload 5, 2), (39, .ishr, 1), (40, .iconst 1, 1), (41, .iand, 1), (42, .ifCond .eq 7, 3), (45, .iconst 1, 1), (46, .goto 4, 3), (49, .iconst 0, 1), (50, .istore 6, 2), (52, .iload 6, 2), (54, .ifCond .eq 26, 3), (57, .aload_n 0, 1), (58, .iload_n 1, 1), (59, .iconst 1, 1), (60, .iload 5, 2), (62, .ishl, 1), (63, .ior, 1), (64, .aload_n 0, 1), (65, .iload_n 2, 1), (66, .iload_n 3, 1), (67, .iload 5, 2), (69, .invokevirtual 64, 3), (72, .invokevirtual 48, 3), (75, .ifCond .eq 5, 3), (78, .iconst 1, 1), (79, .ireturn, 1), (80, .iinc 5 1, 3), (83, .goto (-63), 3), (86, .iinc 3 1, 3), (89, .goto (-87), 3), (92, .iconst 0, 1), (93, .ireturn, 1)]
def M_Pl_leadsOn : MT := (t_Pl_leadsOn, P_Pl, [], [])
theorem T_Pl_leadsOn : TabOK i_Pl_leadsOn M_Pl_leadsOn := tab_ok (by decide +kernel)
theorem H_Pl_leadsOn : ThrOK i_Pl_leadsOn M_Pl_leadsOn := ⟨fa_n, rfl, fa_n⟩
def t_Pl_unmark : List (Nat × Instr × Nat) := [(0, .aload_n 0, 1), (1, .getfield 15, 3), (4, .iload_n 1, 1), (5, .bipush 16, 2), (7, .imul, 1), (8, .iload_n 2, 1), (9, .bipush 6, 2), (11, .ishr, 1), (12, .iadd, 1), (13, .dup2, 1), (14, .laload, 1), (15, .lconst 1, 1), (16, .iload_n 2, 1), (17, .bipush 63, 2), (19, .iand, 1), (20, .lshl, 1), (21, .ldc2_w 104, 3), (24, .lxor, 1), (25, .land, 1), (26, .lastore, 1), (27, .return_, 1)]
def M_Pl_unmark : MT := (t_Pl_unmark, P_Pl, [], [])
theorem T_Pl_unmark : TabOK i_Pl_unmark M_Pl_unmark := tab_ok (by decide +kernel)
theorem H_Pl_unmark : ThrOK i_Pl_unmark M_Pl_unmark := ⟨fa_n, rfl, fa_n⟩
def t_SO_kept : List (Nat × Instr × Nat) := [(0, .aload_n 0, 1), (1, .iload_n 1, 1), (2, .invokevirtual 151, 3), (5, .aload_n 0, 1), (6, .iload_n 2, 1), (7, .invokevirtual 130, 3), (10, .aload_n 0, 1), (11, .getfield 38, 3), (14, .iload_n 1, 1), (15, .iload_n 2, 1), (16, .invokevirtual 281, 3), (19, .ireturn, 1)]
def M_SO_kept : MT := (t_SO_kept, P_SO, [], [])
theorem T_SO_kept : TabOK i_SO_kept M_SO_kept := tab_ok (by decide +kernel)
theorem H_SO_kept : ThrOK i_SO_kept M_SO_kept := ⟨fa_n, rfl, fa_n⟩
def t_Se_keptFrom : List (Nat × Instr × Nat) := [(0, .aload_n 0, 1), (1, .getfield 15, 3), (4, .getfield 39, 3), (7, .iload_n 1, 1), (8, .iload_n 2, 1), (9, .invokevirtual 43, 3), (12, .ifCond .eq 6, 3), (15, .bipush (-2), 2), (17, .ireturn, 1), (18, .aload_n 0, 1), (19, .iload_n 2, 1), (20, .bipush 63, 2), (22, .invokevirtual 48, 3), (25, .aload_n 0, 1), (26, .getfield 15, 3), (29, .invokevirtual 52, 3), (32, .iconst 1, 1), (33, .iload_n 1, 1), (34, .ishl, 1), (35, .iconst (-1), 1), (36, .ixor, 1), (37, .iand, 1), (38, .istore_n 3, 1), (39, .aload_n 0, 1), (40, .getfield 15, 3), (43, .iload_n 2, 1), (44, .invokevirtual 55, 3), (47, .istore 4, 2), (49, .iconst (-1), 1), (50, .istore 5, 2), (52, .iconst 0, 1), (53, .istore 6, 2), (55, .iload 6, 2), (57, .iload_n 3, 1), (58, .if_icmp .gt 69, 3), (61, .iload 6, 2), (63, .iload_n 3, 1), (64, .iconst (-1), 1), (65, .ixor, 1), (66, .iand, 1), (67, .ifCond .ne 17, 3), (70, .iload 6, 2), (72, .iload 5, 2), (74, .invokestatic 25, 3), (77, .ifCond .eq 7, 3), (80, .iconst 1, 1), (81, .goto 4, 3), (84, .iconst 0, 1), (85, .istore 7, 2), (87, .iload 7, 2), (89, .ifCond .eq 32, 3), (92, .aload_n 0, 1), (93, .aload_n 0, 1), (94, .getfield 15, 3), (97, .invokevirtual 52, 3), (100, .iload 6, 2), (102, .iconst (-1), 1), (103, .ixor, 1), (104, .iand, 1), (105, .iload 4, 2), (107, .invokevirtual 58, 3), (110, .iload_n 1, 1), (111, .ishr, 1), (112, .iconst 1, 1), (113, .iand, 1), (114, .ifCond .ne 7, 3), (117, .iload 6, 2), (119, .istore 5, 2), (121, .iinc 6 1, 3), (124, .goto (-69), 3), (127, .iload 5, 2), (129, .ireturn, 1)]
def M_Se_keptFrom : MT := (t_Se_keptFrom, P_Se, [], [])
theorem T_Se_keptFrom : TabOK i_Se_keptFrom M_Se_keptFrom := tab_ok (by decide +kernel)
theorem H_Se_keptFrom : ThrOK i_Se_keptFrom M_Se_keptFrom := ⟨fa_n, rfl, fa_n⟩
def t_Se_hearFromEach : List (Nat × Instr × Nat) := [(0, .iconst 0, 1), (1, .istore_n 3, 1), (2, .iload_n 3, 1), (3, .aload_n 0, 1), (4, .getfield 15, 3), (7, .getfield 29, 3), (10, .getfield 73, 3), (13, .if_icmp .ge 72, 3), (16, .aload_n 0, 1), (17, .getfield 9, 3), (20, .iload_n 3, 1), (21, .iconst 0, 1), (22, .iastore, 1), (23, .iconst 0, 1), (24, .istore 4, 2), (26, .iload 4, 2), (28, .aload_n 0, 1), (29, .getfield 15, 3), (32, .getfield 29, 3), (35, .getfield 77, 3), (38, .iload_n 1, 1), (39, .iaload, 1), (40, .if_icmp .ge 39, 3), (43, .iload_n 2, 1), (44, .iload 4, 2), (46, .ishr, 1), (47, .iconst 1, 1), (48, .iand, 1), (49, .ifCond .eq 24, 3), (52, .aload_n 0, 1), (53, .getfield 9, 3), (56, .iload_n 3, 1), (57, .dup2, 1), (58, .iaload, 1), (59, .aload_n 0, 1), (60, .getfield 15, 3), (63, .iload_n 3, 1), (64, .iload_n 1, 1), (65, .iload 4, 2), (67, .iload_n 1, 1), (68, .invokevirtual 80, 3), (71, .ior, 1), (72, .iastore, 1), (73, .iinc 4 1, 3), (76, .goto (-50), 3), (79, .iinc 3 1, 3), (82, .goto (-80), 3), (85, .return_, 1)]
def M_Se_hearFromEach : MT := (t_Se_hearFromEach, P_Se, [], [])
theorem T_Se_hearFromEach : TabOK i_Se_hearFromEach M_Se_hearFromEach := tab_ok (by decide +kernel)
theorem H_Se_hearFromEach : ThrOK i_Se_hearFromEach M_Se_hearFromEach := ⟨fa_n, rfl, fa_n⟩
def t_Se_spreadAmong : List (Nat × Instr × Nat) := [(0, .iload_n 2, 1), (1, .iload_n 1, 1), (2, .iand, 1), (3, .istore_n 3, 1), (4, .iconst 0, 1), (5, .istore 4, 2), (7, .iload 4, 2), (9, .bipush 10, 2), (11, .if_icmp .ge 19, 3), (14, .iload_n 3, 1), (15, .aload_n 0, 1), (16, .iload_n 3, 1), (17, .invokevirtual 65, 3), (20, .iload_n 1, 1), (21, .iand, 1), (22, .ior, 1), (23, .istore_n 3, 1), (24, .iinc 4 1, 3), (27, .goto (-20), 3), (30, .iload_n 3, 1), (31, .ireturn, 1)]
def M_Se_spreadAmong : MT := (t_Se_spreadAmong, P_Se, [], [])
theorem T_Se_spreadAmong : TabOK i_Se_spreadAmong M_Se_spreadAmong := tab_ok (by decide +kernel)
theorem H_Se_spreadAmong : ThrOK i_Se_spreadAmong M_Se_spreadAmong := ⟨fa_n, rfl, fa_n⟩
def t_Se_heardFromAll : List (Nat × Instr × Nat) := [(0, .iconst 0, 1), (1, .istore_n 2, 1), (2, .iconst 0, 1), (3, .istore_n 3, 1), (4, .iload_n 3, 1), (5, .aload_n 0, 1), (6, .getfield 15, 3), (9, .getfield 29, 3), (12, .getfield 73, 3), (15, .if_icmp .ge 30, 3), (18, .iload_n 2, 1), (19, .iload_n 1, 1), (20, .iload_n 3, 1), (21, .ishr, 1), (22, .iconst 1, 1), (23, .iand, 1), (24, .ifCond .eq 12, 3), (27, .aload_n 0, 1), (28, .getfield 9, 3), (31, .iload_n 3, 1), (32, .iaload, 1), (33, .goto 4, 3), (36, .iconst 0, 1), (37, .ior, 1), (38, .istore_n 2, 1), (39, .iinc 3 1, 3), (42, .goto (-38), 3), (45, .iload_n 2, 1), (46, .ireturn, 1)]
def M_Se_heardFromAll : MT := (t_Se_heardFromAll, P_Se, [], [])
theorem T_Se_heardFromAll : TabOK i_Se_heardFromAll M_Se_heardFromAll := tab_ok (by decide +kernel)
theorem H_Se_heardFromAll : ThrOK i_Se_heardFromAll M_Se_heardFromAll := ⟨fa_n, rfl, fa_n⟩
def t_SO_seats : List (Nat × Instr × Nat) := [(0, .aload_n 0, 1), (1, .iload_n 1, 1), (2, .invokevirtual 151, 3), (5, .aload_n 0, 1), (6, .iload_n 2, 1), (7, .iload_n 3, 1), (8, .invokevirtual 214, 3), (11, .aload_n 0, 1), (12, .getfield 38, 3), (15, .iload_n 1, 1), (16, .iload_n 2, 1), (17, .iload_n 3, 1), (18, .invokevirtual 284, 3), (21, .istore 5, 2), (23, .iload 4, 2), (25, .ifCond .ne 6, 3), (28, .iload 5, 2), (30, .ireturn, 1), (31, .iload 5, 2), (33, .iconst (-1), 1), (34, .if_icmp .ne 19, 3), (37, .aload_n 0, 1), (38, .getfield 19, 3), (41, .iload_n 1, 1), (42, .iload_n 2, 1), (43, .iload_n 3, 1), (44, .invokevirtual 224, 3), (47, .invokestatic 252, 3), (50, .goto 23, 3), (53, .aload_n 0, 1), (54, .getfield 38, 3), (57, .iload 5, 2), (59, .bipush 10, 2), (61, .idiv, 1), (62, .iload 5, 2), (64, .bipush 10, 2), (66, .irem, 1), (67, .iload_n 1, 1), (68, .iload_n 2, 1), (69, .iload_n 3, 1), (70, .invokevirtual 287, 3), (73, .ireturn, 1)]
def M_SO_seats : MT := (t_SO_seats, P_SO, [], [])
theorem T_SO_seats : TabOK i_SO_seats M_SO_seats := tab_ok (by decide +kernel)
theorem H_SO_seats : ThrOK i_SO_seats M_SO_seats := ⟨fa_n, rfl, fa_n⟩
def t_Se_bestSwap : List (Nat × Instr × Nat) := [(0, .iconst (-1), 1), (1, .istore 4, 2), (3, .aload_n 0, 1), (4, .getfield 15, 3), (7, .iload_n 1, 1), (8, .iload_n 2, 1), (9, .iload_n 3, 1), (10, .invokevirtual 84, 3), (13, .invokestatic 68, 3), (16, .istore 5, 2), (18, .iconst 0, 1), (19, .istore 6, 2), (21, .iload 6, 2), (23, .aload_n 0, 1), (24, .getfield 15, 3), (27, .getfield 29, 3), (30, .getfield 73, 3), (33, .if_icmp .ge 70, 3), (36, .iload 6, 2), (38, .iconst 1, 1), (39, .iadd, 1), (40, .istore 7, 2), (42, .iload 7, 2), (44, .aload_n 0, 1), (45, .getfield 15, 3), (48, .getfield 29, 3), (51, .getfield 73, 3), (54, .if_icmp .ge 43, 3), (57, .aload_n 0, 1), (58, .iload 6, 2), (60, .iload 7, 2), (62, .iload_n 1, 1), (63, .iload_n 2, 1), (64, .iload_n 3, 1), (65, .invokevirtual 88, 3), (68, .istore 8, 2), (70, .iload 8, 2), (72, .iload 5, 2), (74, .if_icmp .le 17, 3), (77, .iload 8, 2), (79, .istore 5, 2), (81, .bipush 10, 2), (83, .iload 6, 2), (85, .imul, 1), (86, .iload 7, 2), (88, .iadd, 1), (89, .istore 4, 2), (91, .iinc 7 1, 3), (94, .goto (-52), 3), (97, .iinc 6 1, 3), (100, .goto (-79), 3), (103, .iload 4, 2), (105, .ireturn, 1)]
def M_Se_bestSwap : MT := (t_Se_bestSwap, P_Se, [], [])
theorem T_Se_bestSwap : TabOK i_Se_bestSwap M_Se_bestSwap := tab_ok (by decide +kernel)
theorem H_Se_bestSwap : ThrOK i_Se_bestSwap M_Se_bestSwap := ⟨fa_n, rfl, fa_n⟩
def t_Se_hearersIfSwapped : List (Nat × Instr × Nat) := [(0, .aload_n 0, 1), (1, .getfield 15, 3), (4, .getfield 39, 3), (7, .iload_n 1, 1), (8, .iload_n 2, 1), (9, .invokevirtual 92, 3), (12, .aload_n 0, 1), (13, .getfield 15, 3), (16, .iload_n 3, 1), (17, .iload 4, 2), (19, .iload 5, 2), (21, .invokevirtual 84, 3), (24, .invokestatic 68, 3), (27, .istore 6, 2), (29, .aload_n 0, 1), (30, .getfield 15, 3), (33, .getfield 39, 3), (36, .iload_n 1, 1), (37, .iload_n 2, 1), (38, .invokevirtual 92, 3), (41, .iload 6, 2), (43, .ireturn, 1)]
def M_Se_hearersIfSwapped : MT := (t_Se_hearersIfSwapped, P_Se, [], [])
theorem T_Se_hearersIfSwapped : TabOK i_Se_hearersIfSwapped M_Se_hearersIfSwapped := tab_ok (by decide +kernel)
theorem H_Se_hearersIfSwapped : ThrOK i_Se_hearersIfSwapped M_Se_hearersIfSwapped := ⟨fa_n, rfl, fa_n⟩
def t_SO_what : List (Nat × Instr × Nat) := [(0, .aload_n 0, 1), (1, .getfield 10, 3), (4, .invokevirtual 80, 3), (7, .istore_n 2, 1), (8, .aload_n 0, 1), (9, .iload_n 1, 1), (10, .invokevirtual 151, 3), (13, .iload_n 2, 1), (14, .aload_n 0, 1), (15, .getfield 19, 3), (18, .getfield 91, 3), (21, .getfield 269, 3), (24, .if_icmp .eq 14, 3), (27, .new 84, 3), (30, .dup, 1), (31, .ldc_w 291, 3), (34, .invokespecial 88, 3), (37, .athrow, 1), (38, .iconst 0, 1), (39, .istore_n 3, 1), (40, .iload_n 3, 1), (41, .iload_n 2, 1), (42, .if_icmp .ge 53, 3), (45, .aload_n 0, 1), (46, .getfield 10, 3), (49, .iload_n 3, 1), (50, .invokevirtual 293, 3), (53, .istore 4, 2), (55, .iload 4, 2), (57, .aload_n 0, 1), (58, .getfield 19, 3), (61, .getfield 91, 3), (64, .getfield 296, 3), (67, .if_icmp .lt 22, 3), (70, .iload 4, 2), (72, .sipush 255, 3), (75, .if_icmp .eq 14, 3), (78, .new 84, 3), (81, .dup, 1), (82, .ldc_w 299, 3), (85, .invokespecial 88, 3), (88, .athrow, 1), (89, .iinc 3 1, 3), (92, .goto (-52), 3), (95, .lconst 0, 1), (96, .lstore_n 3, 1), (97, .iconst 0, 1), (98, .istore 5, 2), (100, .iload 5, 2), (102, .aload_n 0, 1), (103, .getfield 19, 3), (106, .getfield 91, 3), (109, .getfield 296, 3), (112, .if_icmp .ge 60, 3), (115, .iconst 0, 1), (116, .istore 6, 2), (118, .iload 6, 2), (120, .aload_n 0, 1), (121, .getfield 19, 3), (124, .getfield 91, 3), (127, .getfield 133, 3), (130, .iload 5, 2), (132, .iaload, 1), (133, .if_icmp .ge 33, 3), (136, .aload_n 0, 1), (137, .iload_n 1, 1), (138, .iload 5, 2), (140, .iload 6, 2), (142, .invokevirtual 301, 3), (145, .ifCond .eq 15, 3), (148, .lload_n 3, 1), (149, .lconst 1, 1), (150, .iload 5, 2), (152, .iload 6, 2), (154, .invokestatic 305, 3), (157, .lshl, 1), (158, .lor, 1), (159, .lstore_n 3, 1), (160, .iinc 6 1, 3), (163, .goto (-45), 3), (166, .iinc 5 1, 3), (169, .goto (-69), 3), (172, .lload_n 3, 1), (173, .lreturn, 1)]
def M_SO_what : MT := (t_SO_what, P_SO, [(27, 84, 291, 36, 88, 0, true), (78, 84, 299, 37, 88, 0, true)], [])
theorem T_SO_what : TabOK i_SO_what M_SO_what := tab_ok (by decide +kernel)
theorem H_SO_what : ThrOK i_SO_what M_SO_what := ⟨fa_c ⟨rfl, x_84_88_0, by decide +kernel, by decide +kernel, Or.inr (by decide +kernel)⟩ (fa_c ⟨rfl, x_84_88_0, by decide +kernel, by decide +kernel, Or.inr (by decide +kernel)⟩ (fa_n)), rfl, fa_n⟩
def t_SO_comesAsTold : List (Nat × Instr × Nat) := [(0, .iconst 0, 1), (1, .istore 4, 2), (3, .iload 4, 2), (5, .aload_n 0, 1), (6, .getfield 19, 3), (9, .getfield 91, 3), (12, .getfield 269, 3), (15, .if_icmp .ge 64, 3), (18, .aload_n 0, 1), (19, .getfield 10, 3), (22, .iload 4, 2), (24, .invokevirtual 293, 3), (27, .sipush 255, 3), (30, .if_icmp .ne 7, 3), (33, .iconst (-1), 1), (34, .goto 12, 3), (37, .aload_n 0, 1), (38, .getfield 10, 3), (41, .iload 4, 2), (43, .invokevirtual 293, 3), (46, .istore 5, 2), (48, .iload 4, 2), (50, .iload_n 1, 1), (51, .if_icmp .eq 22, 3), (54, .aload_n 0, 1), (55, .getfield 19, 3), (58, .iload_n 1, 1), (59, .iload_n 2, 1), (60, .iload_n 3, 1), (61, .iload 4, 2), (63, .invokevirtual 217, 3), (66, .iload 5, 2), (68, .if_icmp .eq 5, 3), (71, .iconst 0, 1), (72, .ireturn, 1), (73, .iinc 4 1, 3), (76, .goto (-73), 3), (79, .iconst 1, 1), (80, .ireturn, 1)]
def M_SO_comesAsTold : MT := (t_SO_comesAsTold, P_SO, [], [])
theorem T_SO_comesAsTold : TabOK i_SO_comesAsTold M_SO_comesAsTold := tab_ok (by decide +kernel)
theorem H_SO_comesAsTold : ThrOK i_SO_comesAsTold M_SO_comesAsTold := ⟨fa_n, rfl, fa_n⟩
def t_SO_alike : List (Nat × Instr × Nat) := [(0, .aload_n 0, 1), (1, .iload_n 1, 1), (2, .iload_n 2, 1), (3, .invokevirtual 206, 3), (6, .aload_n 0, 1), (7, .getfield 19, 3), (10, .invokevirtual 272, 3), (13, .aload_n 0, 1), (14, .getfield 19, 3), (17, .getfield 154, 3), (20, .getfield 170, 3), (23, .iload_n 1, 1), (24, .iaload, 1), (25, .aload_n 0, 1), (26, .getfield 19, 3), (29, .getfield 154, 3), (32, .getfield 170, 3), (35, .iload_n 2, 1), (36, .iaload, 1), (37, .ixor, 1), (38, .iconst (-1), 1), (39, .ixor, 1), (40, .iand, 1), (41, .ireturn, 1)]
def M_SO_alike : MT := (t_SO_alike, P_SO, [], [])
theorem T_SO_alike : TabOK i_SO_alike M_SO_alike := tab_ok (by decide +kernel)
theorem H_SO_alike : ThrOK i_SO_alike M_SO_alike := ⟨fa_n, rfl, fa_n⟩
def t_SO_ask : List (Nat × Instr × Nat) := [(0, .aload_n 0, 1), (1, .iload_n 1, 1), (2, .iload_n 2, 1), (3, .invokevirtual 206, 3), (6, .aload_n 0, 1), (7, .getfield 19, 3), (10, .getfield 154, 3), (13, .getfield 170, 3), (16, .iload_n 1, 1), (17, .iaload, 1), (18, .aload_n 0, 1), (19, .getfield 19, 3), (22, .getfield 154, 3), (25, .getfield 170, 3), (28, .iload_n 2, 1), (29, .iaload, 1), (30, .ixor, 1), (31, .istore_n 3, 1), (32, .iload_n 3, 1), (33, .ifCond .ne 7, 3), (36, .iconst (-1), 1), (37, .goto 7, 3), (40, .iload_n 3, 1), (41, .invokestatic 314, 3), (44, .ireturn, 1)]
def M_SO_ask : MT := (t_SO_ask, P_SO, [], [])
theorem T_SO_ask : TabOK i_SO_ask M_SO_ask := tab_ok (by decide +kernel)
theorem H_SO_ask : ThrOK i_SO_ask M_SO_ask := ⟨fa_n, rfl, fa_n⟩
def t_SO_keeps : List (Nat × Instr × Nat) := [(0, .aload_n 0, 1), (1, .iload_n 1, 1), (2, .iload_n 2, 1), (3, .invokevirtual 206, 3), (6, .aload_n 0, 1), (7, .iload_n 1, 1), (8, .iload_n 2, 1), (9, .invokevirtual 322, 3), (12, .ifCond .le 7, 3), (15, .iconst 1, 1), (16, .goto 4, 3), (19, .iconst 0, 1), (20, .ireturn, 1)]
def M_SO_keeps : MT := (t_SO_keeps, P_SO, [], [])
theorem T_SO_keeps : TabOK i_SO_keeps M_SO_keeps := tab_ok (by decide +kernel)
theorem H_SO_keeps : ThrOK i_SO_keeps M_SO_keeps := ⟨fa_n, rfl, fa_n⟩
def t_SO_lead : List (Nat × Instr × Nat) := [(0, .aload_n 0, 1), (1, .getfield 19, 3), (4, .getfield 154, 3), (7, .getfield 170, 3), (10, .iload_n 1, 1), (11, .iaload, 1), (12, .istore_n 3, 1), (13, .aload_n 0, 1), (14, .getfield 19, 3), (17, .getfield 154, 3), (20, .getfield 170, 3), (23, .iload_n 2, 1), (24, .iaload, 1), (25, .istore 4, 2), (27, .aload_n 0, 1), (28, .getfield 19, 3), (31, .iload_n 3, 1), (32, .iload 4, 2), (34, .iand, 1), (35, .invokevirtual 414, 3), (38, .istore 5, 2), (40, .aload_n 0, 1), (41, .getfield 19, 3), (44, .iload_n 3, 1), (45, .iload 4, 2), (47, .iconst (-1), 1), (48, .ixor, 1), (49, .iand, 1), (50, .invokevirtual 414, 3), (53, .aload_n 0, 1), (54, .getfield 19, 3), (57, .iload 4, 2), (59, .iload_n 3, 1), (60, .iconst (-1), 1), (61, .ixor, 1), (62, .iand, 1), (63, .invokevirtual 414, 3), (66, .isub, 1), (67, .iload 5, 2), (69, .iconst 2, 1), (70, .irem, 1), (71, .iadd, 1), (72, .ireturn, 1)]
def M_SO_lead : MT := (t_SO_lead, P_SO, [], [])
theorem T_SO_lead : TabOK i_SO_lead M_SO_lead := tab_ok (by decide +kernel)
theorem H_SO_lead : ThrOK i_SO_lead M_SO_lead := ⟨fa_n, rfl, fa_n⟩
def t_SO_margin : List (Nat × Instr × Nat) := [(0, .aload_n 0, 1), (1, .iload_n 1, 1), (2, .iload_n 2, 1), (3, .invokevirtual 206, 3), (6, .aload_n 0, 1), (7, .iload_n 1, 1), (8, .iload_n 2, 1), (9, .invokevirtual 322, 3), (12, .ireturn, 1)]
def M_SO_margin : MT := (t_SO_margin, P_SO, [], [])
theorem T_SO_margin : TabOK i_SO_margin M_SO_margin := tab_ok (by decide +kernel)
theorem H_SO_margin : ThrOK i_SO_margin M_SO_margin := ⟨fa_n, rfl, fa_n⟩
def t_SO_call : List (Nat × Instr × Nat) := [(0, .aload_n 0, 1), (1, .iload_n 1, 1), (2, .invokevirtual 130, 3), (5, .aload_n 0, 1), (6, .getfield 38, 3), (9, .iload_n 1, 1), (10, .invokevirtual 325, 3), (13, .istore_n 3, 1), (14, .iload_n 2, 1), (15, .ifCond .ne 5, 3), (18, .iload_n 3, 1), (19, .ireturn, 1), (20, .iload_n 3, 1), (21, .iconst (-1), 1), (22, .if_icmp .ne 7, 3), (25, .iconst 0, 1), (26, .goto 12, 3), (29, .aload_n 0, 1), (30, .getfield 38, 3), (33, .iload_n 3, 1), (34, .iload_n 1, 1), (35, .invokevirtual 328, 3), (38, .ireturn, 1)]
def M_SO_call : MT := (t_SO_call, P_SO, [], [])
theorem T_SO_call : TabOK i_SO_call M_SO_call := tab_ok (by decide +kernel)
theorem H_SO_call : ThrOK i_SO_call M_SO_call := ⟨fa_n, rfl, fa_n⟩
def t_Se_bestCaller : List (Nat × Instr × Nat) := [(0, .iconst (-1), 1), (1, .istore_n 2, 1), (2, .iconst (-1), 1), (3, .istore_n 3, 1), (4, .iconst 0, 1), (5, .istore 4, 2), (7, .iload 4, 2), (9, .aload_n 0, 1), (10, .getfield 15, 3), (13, .getfield 29, 3), (16, .getfield 73, 3), (19, .if_icmp .ge 54, 3), (22, .aload_n 0, 1), (23, .getfield 15, 3), (26, .iload 4, 2), (28, .iload_n 1, 1), (29, .invokevirtual 95, 3), (32, .ifCond .eq 35, 3), (35, .aload_n 0, 1), (36, .getfield 15, 3), (39, .iload_n 1, 1), (40, .invokevirtual 98, 3), (43, .ifCond .le 24, 3), (46, .aload_n 0, 1), (47, .iload 4, 2), (49, .iload_n 1, 1), (50, .invokevirtual 101, 3), (53, .istore 5, 2), (55, .iload 5, 2), (57, .iload_n 3, 1), (58, .if_icmp .le 9, 3), (61, .iload 5, 2), (63, .istore_n 3, 1), (64, .iload 4, 2), (66, .istore_n 2, 1), (67, .iinc 4 1, 3), (70, .goto (-63), 3), (73, .iload_n 2, 1), (74, .ireturn, 1)]
def M_Se_bestCaller : MT := (t_Se_bestCaller, P_Se, [], [])
theorem T_Se_bestCaller : TabOK i_Se_bestCaller M_Se_bestCaller := tab_ok (by decide +kernel)
theorem H_Se_bestCaller : ThrOK i_Se_bestCaller M_Se_bestCaller := ⟨fa_n, rfl, fa_n⟩
def t_Se_worthOfCalling : List (Nat × Instr × Nat) := [(0, .aload_n 0, 1), (1, .getfield 15, 3), (4, .iload_n 2, 1), (5, .invokevirtual 55, 3), (8, .iconst (-1), 1), (9, .ixor, 1), (10, .istore_n 3, 1), (11, .iconst 0, 1), (12, .istore 4, 2), (14, .iconst 0, 1), (15, .istore 5, 2), (17, .iload 5, 2), (19, .aload_n 0, 1), (20, .getfield 15, 3), (23, .getfield 29, 3), (26, .getfield 77, 3), (29, .iload_n 2, 1), (30, .iaload, 1), (31, .if_icmp .ge 50, 3), (34, .aload_n 0, 1), (35, .getfield 15, 3), (38, .iload_n 2, 1), (39, .iload 5, 2), (41, .invokevirtual 104, 3), (44, .ifCond .eq 31, 3), (47, .aload_n 0, 1), (48, .getfield 15, 3), (51, .iload_n 1, 1), (52, .iload_n 2, 1), (53, .iload 5, 2), (55, .iload_n 2, 1), (56, .invokevirtual 80, 3), (59, .iload_n 3, 1), (60, .iand, 1), (61, .istore 6, 2), (63, .iload 4, 2), (65, .iload 6, 2), (67, .invokestatic 68, 3), (70, .invokestatic 107, 3), (73, .istore 4, 2), (75, .iinc 5 1, 3), (78, .goto (-61), 3), (81, .bipush 100, 2), (83, .aload_n 0, 1), (84, .getfield 15, 3), (87, .getfield 29, 3), (90, .getfield 112, 3), (93, .iload_n 1, 1), (94, .iaload, 1), (95, .isub, 1), (96, .iload 4, 2), (98, .imul, 1), (99, .ireturn, 1)]
def M_Se_worthOfCalling : MT := (t_Se_worthOfCalling, P_Se, [], [])
theorem T_Se_worthOfCalling : TabOK i_Se_worthOfCalling M_Se_worthOfCalling := tab_ok (by decide +kernel)
theorem H_Se_worthOfCalling : ThrOK i_Se_worthOfCalling M_Se_worthOfCalling := ⟨fa_n, rfl, fa_n⟩
def t_SO_trial : List (Nat × Instr × Nat) := [(0, .iload_n 2, 1), (1, .iconst (-1), 1), (2, .if_icmp .eq 8, 3), (5, .aload_n 0, 1), (6, .iload_n 2, 1), (7, .invokevirtual 130, 3), (10, .iload_n 1, 1), (11, .invokestatic 260, 3), (14, .aload_n 0, 1), (15, .getfield 19, 3), (18, .iload_n 1, 1), (19, .aload_n 0, 1), (20, .getfield 19, 3), (23, .getfield 154, 3), (26, .getfield 331, 3), (29, .iload_n 2, 1), (30, .invokevirtual 334, 3), (33, .ireturn, 1)]
def M_SO_trial : MT := (t_SO_trial, P_SO, [], [])
theorem T_SO_trial : TabOK i_SO_trial M_SO_trial := tab_ok (by decide +kernel)
theorem H_SO_trial : ThrOK i_SO_trial M_SO_trial := ⟨fa_n, rfl, fa_n⟩
def t_Sch_tryTerm : List (Nat × Instr × Nat) := [(0, .aload_n 0, 1), (1, .getfield 39, 3), (4, .aload_n 0, 1), (5, .getfield 21, 3), (8, .invokevirtual 50, 3), (11, .aload_n 0, 1), (12, .getfield 21, 3), (15, .iload_n 2, 1), (16, .putfield 180, 3), (19, .aload_n 0, 1), (20, .iload_n 1, 1), (21, .invokevirtual 183, 3), (24, .istore 4, 2), (26, .iload_n 3, 1), (27, .iconst (-1), 1), (28, .if_icmp .ne 8, 3), (31, .iload 4, 2), (33, .goto 11, 3), (36, .aload_n 0, 1), (37, .iload_n 3, 1), (38, .invokevirtual 186, 3), (41, .invokestatic 83, 3), (44, .istore 5, 2), (46, .aload_n 0, 1), (47, .getfield 21, 3), (50, .aload_n 0, 1), (51, .getfield 39, 3), (54, .invokevirtual 50, 3), (57, .iload 5, 2), (59, .ireturn, 1)]
def M_Sch_tryTerm : MT := (t_Sch_tryTerm, P_Sch, [], [])
theorem T_Sch_tryTerm : TabOK i_Sch_tryTerm M_Sch_tryTerm := tab_ok (by decide +kernel)
theorem H_Sch_tryTerm : ThrOK i_Sch_tryTerm M_Sch_tryTerm := ⟨fa_n, rfl, fa_n⟩
def t_SO_span : List (Nat × Instr × Nat) := [(0, .iload_n 1, 1), (1, .invokestatic 260, 3), (4, .aload_n 0, 1), (5, .getfield 19, 3), (8, .iload_n 1, 1), (9, .iconst 1, 1), (10, .iconst (-1), 1), (11, .invokevirtual 334, 3), (14, .istore_n 3, 1), (15, .iconst 2, 1), (16, .istore 4, 2), (18, .iload 4, 2), (20, .bipush 6, 2), (22, .if_icmp .gt 42, 3), (25, .aload_n 0, 1), (26, .getfield 19, 3), (29, .iload_n 1, 1), (30, .iload 4, 2), (32, .iconst (-1), 1), (33, .invokevirtual 334, 3), (36, .istore 5, 2), (38, .iload_n 2, 1), (39, .ifCond .eq 12, 3), (42, .iload_n 3, 1), (43, .iload 5, 2), (45, .invokestatic 317, 3), (48, .goto 9, 3), (51, .iload_n 3, 1), (52, .iload 5, 2), (54, .invokestatic 337, 3), (57, .istore_n 3, 1), (58, .iinc 4 1, 3), (61, .goto (-43), 3), (64, .iload_n 3, 1), (65, .ireturn, 1)]
def M_SO_span : MT := (t_SO_span, P_SO, [], [])
theorem T_SO_span : TabOK i_SO_span M_SO_span := tab_ok (by decide +kernel)
theorem H_SO_span : ThrOK i_SO_span M_SO_span := ⟨fa_n, rfl, fa_n⟩
def t_SO_how : List (Nat × Instr × Nat) := [(0, .aload_n 0, 1), (1, .iload_n 1, 1), (2, .invokevirtual 151, 3), (5, .aload_n 0, 1), (6, .iload_n 2, 1), (7, .invokevirtual 130, 3), (10, .aload_n 0, 1), (11, .getfield 19, 3), (14, .getfield 340, 3), (17, .aload_n 0, 1), (18, .getfield 19, 3), (21, .getfield 154, 3), (24, .getfield 344, 3), (27, .iload_n 1, 1), (28, .iload_n 2, 1), (29, .invokevirtual 347, 3), (32, .istore_n 3, 1), (33, .iload_n 3, 1), (34, .iconst (-1), 1), (35, .if_icmp .ne 7, 3), (38, .iconst (-1), 1), (39, .goto 17, 3), (42, .aload_n 0, 1), (43, .getfield 19, 3), (46, .getfield 154, 3), (49, .getfield 344, 3), (52, .iconst 1, 1), (53, .isub, 1), (54, .iload_n 3, 1), (55, .isub, 1), (56, .ireturn, 1)]
def M_SO_how : MT := (t_SO_how, P_SO, [], [])
theorem T_SO_how : TabOK i_SO_how M_SO_how := tab_ok (by decide +kernel)
theorem H_SO_how : ThrOK i_SO_how M_SO_how := ⟨fa_n, rfl, fa_n⟩
def t_SO_chain : List (Nat × Instr × Nat) := [(0, .aload_n 0, 1), (1, .iload_n 1, 1), (2, .invokevirtual 151, 3), (5, .aload_n 0, 1), (6, .iload_n 2, 1), (7, .invokevirtual 130, 3), (10, .aload_n 0, 1), (11, .getfield 19, 3), (14, .getfield 154, 3), (17, .iload_n 1, 1), (18, .iload_n 2, 1), (19, .invokevirtual 355, 3), (22, .ifCond .ne 13, 3), (25, .iload_n 3, 1), (26, .ifCond .eq 7, 3), (29, .iconst (-1), 1), (30, .goto 4, 3), (33, .iconst 0, 1), (34, .ireturn, 1), (35, .iload_n 3, 1), (36, .ifCond .eq 28, 3), (39, .aload_n 0, 1), (40, .getfield 19, 3), (43, .getfield 340, 3), (46, .aload_n 0, 1), (47, .getfield 19, 3), (50, .getfield 154, 3), (53, .getfield 344, 3), (56, .iload_n 1, 1), (57, .iload_n 2, 1), (58, .invokevirtual 358, 3), (61, .goto 25, 3), (64, .aload_n 0, 1), (65, .getfield 19, 3), (68, .getfield 340, 3), (71, .aload_n 0, 1), (72, .getfield 19, 3), (75, .getfield 154, 3), (78, .getfield 344, 3), (81, .iload_n 1, 1), (82, .iload_n 2, 1), (83, .invokevirtual 361, 3), (86, .ireturn, 1)]
def M_SO_chain : MT := (t_SO_chain, P_SO, [], [])
theorem T_SO_chain : TabOK i_SO_chain M_SO_chain := tab_ok (by decide +kernel)
theorem H_SO_chain : ThrOK i_SO_chain M_SO_chain := ⟨fa_n, rfl, fa_n⟩
def t_SO_spot : List (Nat × Instr × Nat) := [(0, .aload_n 0, 1), (1, .iload_n 3, 1), (2, .iload 4, 2), (4, .invokevirtual 214, 3), (7, .aload_n 0, 1), (8, .iload_n 1, 1), (9, .iload_n 2, 1), (10, .invokevirtual 206, 3), (13, .aload_n 0, 1), (14, .getfield 38, 3), (17, .iload_n 1, 1), (18, .iload_n 2, 1), (19, .iload_n 3, 1), (20, .iload 4, 2), (22, .invokevirtual 364, 3), (25, .ireturn, 1)]
def M_SO_spot : MT := (t_SO_spot, P_SO, [], [])
theorem T_SO_spot : TabOK i_SO_spot M_SO_spot := tab_ok (by decide +kernel)
theorem H_SO_spot : ThrOK i_SO_spot M_SO_spot := ⟨fa_n, rfl, fa_n⟩
def t_Se_spotFor : List (Nat × Instr × Nat) := [(0, .aload_n 0, 1), (1, .getfield 15, 3), (4, .getfield 39, 3), (7, .getfield 115, 3), (10, .iload_n 1, 1), (11, .iaload, 1), (12, .istore 5, 2), (14, .aload_n 0, 1), (15, .getfield 15, 3), (18, .getfield 39, 3), (21, .getfield 118, 3), (24, .iload_n 1, 1), (25, .iaload, 1), (26, .istore 6, 2), (28, .iconst (-1), 1), (29, .istore 7, 2), (31, .iconst 0, 1), (32, .istore 8, 2), (34, .iload 8, 2), (36, .bipush 100, 2), (38, .if_icmp .ge 104, 3), (41, .iload 7, 2), (43, .iconst (-1), 1), (44, .if_icmp .ne 98, 3), (47, .aload_n 0, 1), (48, .getfield 15, 3), (51, .getfield 39, 3), (54, .iload 8, 2), (56, .bipush 10, 2), (58, .idiv, 1), (59, .iload 8, 2), (61, .bipush 10, 2), (63, .irem, 1), (64, .aload_n 0, 1), (65, .getfield 15, 3), (68, .getfield 29, 3), (71, .getfield 73, 3), (74, .invokevirtual 121, 3), (77, .istore 9, 2), (79, .iload 9, 2), (81, .iconst (-1), 1), (82, .if_icmp .eq 9, 3), (85, .iload 9, 2), (87, .iload_n 1, 1), (88, .if_icmp .ne 48, 3), (91, .aload_n 0, 1), (92, .getfield 15, 3), (95, .getfield 39, 3), (98, .iload_n 1, 1), (99, .iload 8, 2), (101, .bipush 10, 2), (103, .idiv, 1), (104, .iload 8, 2), (106, .bipush 10, 2), (108, .irem, 1), (109, .invokevirtual 124, 3), (112, .aload_n 0, 1), (113, .getfield 15, 3), (116, .iload_n 2, 1), (117, .iload_n 3, 1), (118, .iload 4, 2), (120, .iload_n 1, 1), (121, .invokevirtual 128, 3), (124, .iconst (-1), 1), (125, .if_icmp .eq 8, 3), (128, .iload 8, 2), (130, .goto 4, 3), (133, .iconst (-1), 1), (134, .istore 7, 2), (136, .iinc 8 1, 3), (139, .goto (-105), 3), (142, .aload_n 0, 1), (143, .getfield 15, 3), (146, .getfield 39, 3), (149, .iload_n 1, 1), (150, .iload 5, 2), (152, .iload 6, 2), (154, .invokevirtual 124, 3), (157, .iload 7, 2), (159, .ireturn, 1)]
def M_Se_spotFor : MT := (t_Se_spotFor, P_Se, [], [])
theorem T_Se_spotFor : TabOK i_Se_spotFor M_Se_spotFor := tab_ok (by decide +kernel)
theorem H_Se_spotFor : ThrOK i_Se_spotFor M_Se_spotFor := ⟨fa_n, rfl, fa_n⟩
def t_SO_speakers : List (Nat × Instr × Nat) := [(0, .aload_n 0, 1), (1, .iload_n 1, 1), (2, .invokevirtual 130, 3), (5, .aload_n 0, 1), (6, .getfield 38, 3), (9, .iload_n 1, 1), (10, .invokevirtual 367, 3), (13, .ireturn, 1)]
def M_SO_speakers : MT := (t_SO_speakers, P_SO, [], [])
theorem T_SO_speakers : TabOK i_SO_speakers M_SO_speakers := tab_ok (by decide +kernel)
theorem H_SO_speakers : ThrOK i_SO_speakers M_SO_speakers := ⟨fa_n, rfl, fa_n⟩
def t_Se_fewestSpeakers : List (Nat × Instr × Nat) := [(0, .aload_n 0, 1), (1, .iload_n 1, 1), (2, .aload_n 0, 1), (3, .getfield 15, 3), (6, .iload_n 1, 1), (7, .invokevirtual 62, 3), (10, .invokevirtual 48, 3), (13, .aload_n 0, 1), (14, .getfield 15, 3), (17, .iload_n 1, 1), (18, .invokevirtual 55, 3), (21, .aload_n 0, 1), (22, .getfield 15, 3), (25, .invokevirtual 52, 3), (28, .iand, 1), (29, .istore_n 2, 1), (30, .iconst (-1), 1), (31, .istore_n 3, 1), (32, .iconst 0, 1), (33, .istore 4, 2), (35, .iload 4, 2), (37, .iload_n 2, 1), (38, .if_icmp .gt 60, 3), (41, .iload 4, 2), (43, .iload_n 2, 1), (44, .iconst (-1), 1), (45, .ixor, 1), (46, .iand, 1), (47, .ifCond .ne 16, 3), (50, .iload 4, 2), (52, .iload_n 3, 1), (53, .invokestatic 25, 3), (56, .ifCond .eq 7, 3), (59, .iconst 1, 1), (60, .goto 4, 3), (63, .iconst 0, 1), (64, .istore 5, 2), (66, .iload 5, 2), (68, .ifCond .eq 24, 3), (71, .iload_n 2, 1), (72, .aload_n 0, 1), (73, .iload 4, 2), (75, .invokevirtual 65, 3), (78, .ior, 1), (79, .aload_n 0, 1), (80, .getfield 15, 3), (83, .invokevirtual 52, 3), (86, .if_icmp .ne 6, 3), (89, .iload 4, 2), (91, .istore_n 3, 1), (92, .iinc 4 1, 3), (95, .goto (-60), 3), (98, .iload_n 3, 1), (99, .ireturn, 1)]
def M_Se_fewestSpeakers : MT := (t_Se_fewestSpeakers, P_Se, [], [])
theorem T_Se_fewestSpeakers : TabOK i_Se_fewestSpeakers M_Se_fewestSpeakers := tab_ok (by decide +kernel)
theorem H_Se_fewestSpeakers : ThrOK i_Se_fewestSpeakers M_Se_fewestSpeakers := ⟨fa_n, rfl, fa_n⟩
def t_SO_between : List (Nat × Instr × Nat) := [(0, .aload_n 0, 1), (1, .iload_n 1, 1), (2, .iload_n 2, 1), (3, .invokevirtual 206, 3), (6, .iconst 0, 1), (7, .istore_n 3, 1), (8, .iconst 0, 1), (9, .istore 4, 2), (11, .iload 4, 2), (13, .aload_n 0, 1), (14, .getfield 19, 3), (17, .getfield 91, 3), (20, .getfield 296, 3), (23, .if_icmp .ge 95, 3), (26, .iconst 0, 1), (27, .istore 5, 2), (29, .iload 5, 2), (31, .aload_n 0, 1), (32, .getfield 19, 3), (35, .getfield 91, 3), (38, .getfield 133, 3), (41, .iload 4, 2), (43, .iaload, 1), (44, .if_icmp .ge 68, 3), (47, .aload_n 0, 1), (48, .getfield 19, 3), (51, .iload_n 1, 1), (52, .iload 4, 2), (54, .invokevirtual 228, 3), (57, .ifCond .eq 49, 3), (60, .aload_n 0, 1), (61, .getfield 19, 3), (64, .iload 4, 2), (66, .iload 5, 2), (68, .invokevirtual 232, 3), (71, .ifCond .eq 35, 3), (74, .aload_n 0, 1), (75, .getfield 19, 3), (78, .iload_n 1, 1), (79, .iload 4, 2), (81, .iload 5, 2), (83, .iload_n 2, 1), (84, .invokevirtual 217, 3), (87, .istore 6, 2), (89, .iload_n 3, 1), (90, .iload 6, 2), (92, .iconst (-1), 1), (93, .if_icmp .ne 7, 3), (96, .iconst 0, 1), (97, .goto 7, 3), (100, .iconst 1, 1), (101, .iload 6, 2), (103, .ishl, 1), (104, .ior, 1), (105, .istore_n 3, 1), (106, .iinc 5 1, 3), (109, .goto (-80), 3), (112, .iinc 4 1, 3), (115, .goto (-104), 3), (118, .iload_n 3, 1), (119, .ireturn, 1)]
def M_SO_between : MT := (t_SO_between, P_SO, [], [])
theorem T_SO_between : TabOK i_SO_between M_SO_between := tab_ok (by decide +kernel)
theorem H_SO_between : ThrOK i_SO_between M_SO_between := ⟨fa_n, rfl, fa_n⟩
def t_SO_echo : List (Nat × Instr × Nat) := [(0, .aload_n 0, 1), (1, .iload_n 1, 1), (2, .invokevirtual 151, 3), (5, .aload_n 0, 1), (6, .iload_n 2, 1), (7, .iload_n 3, 1), (8, .invokevirtual 214, 3), (11, .iconst 0, 1), (12, .istore 5, 2), (14, .iconst (-1), 1), (15, .istore 6, 2), (17, .iconst 0, 1), (18, .istore 7, 2), (20, .iconst 0, 1), (21, .istore 8, 2), (23, .iload 8, 2), (25, .aload_n 0, 1), (26, .getfield 19, 3), (29, .getfield 91, 3), (32, .getfield 296, 3), (35, .if_icmp .ge 56, 3), (38, .aload_n 0, 1), (39, .getfield 19, 3), (42, .iload_n 1, 1), (43, .iload_n 2, 1), (44, .iload_n 3, 1), (45, .iload 8, 2), (47, .invokevirtual 221, 3), (50, .invokestatic 252, 3), (53, .istore 9, 2), (55, .iload 5, 2), (57, .iload 9, 2), (59, .ifCond .le 7, 3), (62, .iconst 1, 1), (63, .goto 4, 3), (66, .iconst 0, 1), (67, .iadd, 1), (68, .istore 5, 2), (70, .iload 9, 2), (72, .iload 7, 2), (74, .if_icmp .le 11, 3), (77, .iload 9, 2), (79, .istore 7, 2), (81, .iload 8, 2), (83, .istore 6, 2), (85, .iinc 8 1, 3), (88, .goto (-65), 3), (91, .iload 4, 2), (93, .ifCond .eq 8, 3), (96, .iload 6, 2), (98, .goto 5, 3), (101, .iload 5, 2), (103, .ireturn, 1)]
def M_SO_echo : MT := (t_SO_echo, P_SO, [], [])
theorem T_SO_echo : TabOK i_SO_echo M_SO_echo := tab_ok (by decide +kernel)
theorem H_SO_echo : ThrOK i_SO_echo M_SO_echo := ⟨fa_n, rfl, fa_n⟩
def t_SO_learnt : List (Nat × Instr × Nat) := [(0, .aload_n 0, 1), (1, .iload_n 2, 1), (2, .invokevirtual 151, 3), (5, .aload_n 0, 1), (6, .iload_n 1, 1), (7, .invokevirtual 370, 3), (10, .istore_n 3, 1), (11, .iload_n 3, 1), (12, .iconst (-1), 1), (13, .if_icmp .ne 7, 3), (16, .iconst (-1), 1), (17, .goto 15, 3), (20, .aload_n 0, 1), (21, .getfield 19, 3), (24, .getfield 340, 3), (27, .iload_n 3, 1), (28, .iload_n 2, 1), (29, .invokevirtual 373, 3), (32, .ireturn, 1)]
def M_SO_learnt : MT := (t_SO_learnt, P_SO, [], [])
theorem T_SO_learnt : TabOK i_SO_learnt M_SO_learnt := tab_ok (by decide +kernel)
theorem H_SO_learnt : ThrOK i_SO_learnt M_SO_learnt := ⟨fa_n, rfl, fa_n⟩
def t_SO_rowAgo : List (Nat × Instr × Nat) := [(0, .iload_n 1, 1), (1, .ifCond .lt 17, 3), (4, .iload_n 1, 1), (5, .aload_n 0, 1), (6, .getfield 19, 3), (9, .getfield 154, 3), (12, .getfield 344, 3), (15, .if_icmp .lt 7, 3), (18, .iconst (-1), 1), (19, .goto 17, 3), (22, .aload_n 0, 1), (23, .getfield 19, 3), (26, .getfield 154, 3), (29, .getfield 344, 3), (32, .iconst 1, 1), (33, .isub, 1), (34, .iload_n 1, 1), (35, .isub, 1), (36, .ireturn, 1)]
def M_SO_rowAgo : MT := (t_SO_rowAgo, P_SO, [], [])
theorem T_SO_rowAgo : TabOK i_SO_rowAgo M_SO_rowAgo := tab_ok (by decide +kernel)
theorem H_SO_rowAgo : ThrOK i_SO_rowAgo M_SO_rowAgo := ⟨fa_n, rfl, fa_n⟩
def t_SO_log : List (Nat × Instr × Nat) := [(0, .iload_n 2, 1), (1, .ifCond .lt 8, 3), (4, .iload_n 2, 1), (5, .iconst 4, 1), (6, .if_icmp .le 14, 3), (9, .new 146, 3), (12, .dup, 1), (13, .ldc_w 376, 3), (16, .invokespecial 150, 3), (19, .athrow, 1), (20, .aload_n 0, 1), (21, .iload_n 1, 1), (22, .invokevirtual 370, 3), (25, .istore_n 3, 1), (26, .iload_n 3, 1), (27, .iconst (-1), 1), (28, .if_icmp .ne 5, 3), (31, .iconst (-1), 1), (32, .ireturn, 1), (33, .iload_n 2, 1), (34, .tableswitch 82 0 3 #[30, 43, 56, 69], 30), (64, .aload_n 0, 1), (65, .getfield 19, 3), (68, .getfield 340, 3), (71, .getfield 378, 3), (74, .iload_n 3, 1), (75, .iaload, 1), (76, .ireturn, 1), (77, .aload_n 0, 1), (78, .getfield 19, 3), (81, .getfield 340, 3), (84, .getfield 381, 3), (87, .iload_n 3, 1), (88, .iaload, 1), (89, .ireturn, 1), (90, .aload_n 0, 1), (91, .getfield 19, 3), (94, .getfield 340, 3), (97, .getfield 384, 3), (100, .iload_n 3, 1), (101, .iaload, 1), (102, .ireturn, 1), (103, .aload_n 0, 1), (104, .getfield 19, 3), (107, .getfield 340, 3), (110, .getfield 387, 3), (113, .iload_n 3, 1), (114, .iaload, 1), (115, .ireturn, 1), (116, .aload_n 0, 1), (117, .getfield 19, 3), (120, .getfield 340, 3), (123, .getfield 390, 3), (126, .iload_n 3, 1), (127, .baload, 1), (128, .ifCond .eq 7, 3), (131, .iconst 1, 1), (132, .goto 4, 3), (135, .iconst 0, 1), (136, .ireturn, 1)]
def M_SO_log : MT := (t_SO_log, P_SO, [(9, 146, 376, 38, 150, 3, true)], [])
theorem T_SO_log : TabOK i_SO_log M_SO_log := tab_ok (by decide +kernel)
theorem H_SO_log : ThrOK i_SO_log M_SO_log := ⟨fa_c ⟨rfl, x_146_150_3, by decide +kernel, by decide +kernel, Or.inr (by decide +kernel)⟩ (fa_n), rfl, fa_n⟩
end
section
/-! tables, by program (wip/whole/gen_tab.py) -/
def t_Mo_thrown : List (Nat × Instr × Nat) := [(0, .aload_n 0, 1), (1, .getfield 3, 3), (4, .ireturn, 1)]
def M_Mo_thrown : MT := (t_Mo_thrown, P_Mo, [], [])
theorem T_Mo_thrown : TabOK i_Mo_thrown M_Mo_thrown := tab_ok (by decide +kernel)
theorem H_Mo_thrown : ThrOK i_Mo_thrown M_Mo_thrown := ⟨fa_n, rfl, fa_n⟩
def t_Mo_image : List (Nat × Instr × Nat) := [(0, .aload_n 0, 1), (1, .iconst 0, 1), (2, .putfield 3, 3), (5, .iconst 0, 1), (6, .istore_n 1, 1), (7, .iload_n 1, 1), (8, .sipush 1864, 3), (11, .if_icmp .ge 21, 3), (14, .aload_n 0, 1), (15, .getfield 17, 3), (18, .iload_n 1, 1), (19, .aload_n 0, 1), (20, .getfield 13, 3), (23, .iload_n 1, 1), (24, .iaload, 1), (25, .iastore, 1), (26, .iinc 1 1, 3), (29, .goto (-22), 3), (32, .aload_n 0, 1), (33, .aload_n 0, 1), (34, .getfield 59, 3), (37, .putfield 63, 3), (40, .aload_n 0, 1), (41, .iconst 1, 1), (42, .putfield 66, 3), (45, .return_, 1)]
def M_Mo_image : MT := (t_Mo_image, P_Mo, [], [])
theorem T_Mo_image : TabOK i_Mo_image M_Mo_image := tab_ok (by decide +kernel)
theorem H_Mo_image : ThrOK i_Mo_image M_Mo_image := ⟨fa_n, rfl, fa_n⟩
def t_Mo_back : List (Nat × Instr × Nat) := [(0, .aload_n 0, 1), (1, .iconst 0, 1), (2, .putfield 3, 3), (5, .aload_n 0, 1), (6, .getfield 66, 3), (9, .ifCond .ne 5, 3), (12, .iconst 0, 1), (13, .ireturn, 1), (14, .iconst 0, 1), (15, .istore_n 1, 1), (16, .iload_n 1, 1), (17, .sipush 1864, 3), (20, .if_icmp .ge 21, 3), (23, .aload_n 0, 1), (24, .getfield 13, 3), (27, .iload_n 1, 1), (28, .aload_n 0, 1), (29, .getfield 17, 3), (32, .iload_n 1, 1), (33, .iaload, 1), (34, .iastore, 1), (35, .iinc 1 1, 3), (38, .goto (-22), 3), (41, .aload_n 0, 1), (42, .aload_n 0, 1), (43, .getfield 63, 3), (46, .putfield 59, 3), (49, .aload_n 0, 1), (50, .iconst 0, 1), (51, .putfield 70, 3), (54, .iconst 1, 1), (55, .ireturn, 1)]
def M_Mo_back : MT := (t_Mo_back, P_Mo, [], [])
theorem T_Mo_back : TabOK i_Mo_back M_Mo_back := tab_ok (by decide +kernel)
theorem H_Mo_back : ThrOK i_Mo_back M_Mo_back := ⟨fa_n, rfl, fa_n⟩
def t_Mo_undo : List (Nat × Instr × Nat) := [(0, .aload_n 0, 1), (1, .iconst 0, 1), (2, .putfield 3, 3), (5, .aload_n 0, 1), (6, .getfield 70, 3), (9, .ifCond .ne 5, 3), (12, .iconst 0, 1), (13, .ireturn, 1), (14, .aload_n 0, 1), (15, .dup, 1), (16, .getfield 70, 3), (19, .iconst 1, 1), (20, .isub, 1), (21, .putfield 70, 3), (24, .iconst 0, 1), (25, .istore_n 1, 1), (26, .iload_n 1, 1), (27, .sipush 1015, 3), (30, .if_icmp .ge 30, 3), (33, .aload_n 0, 1), (34, .getfield 13, 3), (37, .iload_n 1, 1), (38, .aload_n 0, 1), (39, .getfield 26, 3), (42, .sipush 1015, 3), (45, .aload_n 0, 1), (46, .getfield 70, 3), (49, .imul, 1), (50, .iload_n 1, 1), (51, .iadd, 1), (52, .iaload, 1), (53, .iastore, 1), (54, .iinc 1 1, 3), (57, .goto (-31), 3), (60, .aload_n 0, 1), (61, .aload_n 0, 1), (62, .getfield 29, 3), (65, .aload_n 0, 1), (66, .getfield 70, 3), (69, .laload, 1), (70, .putfield 59, 3), (73, .iconst 1, 1), (74, .ireturn, 1)]
def M_Mo_undo : MT := (t_Mo_undo, P_Mo, [], [])
theorem T_Mo_undo : TabOK i_Mo_undo M_Mo_undo := tab_ok (by decide +kernel)
theorem H_Mo_undo : ThrOK i_Mo_undo M_Mo_undo := ⟨fa_n, rfl, fa_n⟩
def t_Mo_feed : List (Nat × Instr × Nat) := [(0, .aload_n 0, 1), (1, .iconst 0, 1), (2, .putfield 3, 3), (5, .aload_n 0, 1), (6, .getfield 104, 3), (9, .bipush 20, 2), (11, .iadd, 1), (12, .sipush 400, 3), (15, .if_icmp .le 5, 3), (18, .iconst (-1), 1), (19, .ireturn, 1), (20, .aload_n 0, 1), (21, .getfield 40, 3), (24, .iconst 0, 1), (25, .iload_n 1, 1), (26, .iastore, 1), (27, .aload_n 0, 1), (28, .getfield 40, 3), (31, .iconst 1, 1), (32, .iload_n 2, 1), (33, .iastore, 1), (34, .aload_n 0, 1), (35, .getfield 40, 3), (38, .iconst 2, 1), (39, .iload_n 3, 1), (40, .iastore, 1), (41, .aload_n 0, 1), (42, .getfield 40, 3), (45, .iconst 3, 1), (46, .iload 4, 2), (48, .iastore, 1), (49, .aload_n 0, 1), (50, .getfield 40, 3), (53, .iconst 4, 1), (54, .iload 5, 2), (56, .iastore, 1), (57, .iconst 0, 1), (58, .istore 6, 2), (60, .iload 6, 2), (62, .bipush 20, 2), (64, .if_icmp .ge 42, 3), (67, .aload_n 0, 1), (68, .getfield 33, 3), (71, .aload_n 0, 1), (72, .getfield 104, 3), (75, .iload 6, 2), (77, .iadd, 1), (78, .aload_n 0, 1), (79, .getfield 40, 3), (82, .iload 6, 2), (84, .iconst 4, 1), (85, .idiv, 1), (86, .iaload, 1), (87, .bipush 24, 2), (89, .bipush 8, 2), (91, .iload 6, 2), (93, .iconst 4, 1), (94, .irem, 1), (95, .imul, 1), (96, .isub, 1), (97, .ishr, 1), (98, .i2b, 1), (99, .bastore, 1), (100, .iinc 6 1, 3), (103, .goto (-43), 3), (106, .aload_n 0, 1), (107, .dup, 1), (108, .getfield 104, 3), (111, .bipush 20, 2), (113, .iadd, 1), (114, .putfield 104, 3), (117, .aload_n 0, 1), (118, .getfield 104, 3), (121, .ireturn, 1)]
def M_Mo_feed : MT := (t_Mo_feed, P_Mo, [], [])
theorem T_Mo_feed : TabOK i_Mo_feed M_Mo_feed := tab_ok (by decide +kernel)
theorem H_Mo_feed : ThrOK i_Mo_feed M_Mo_feed := ⟨fa_n, rfl, fa_n⟩
def t_Mo_end : List (Nat × Instr × Nat) := [(0, .aload_n 0, 1), (1, .iconst 0, 1), (2, .putfield 3, 3), (5, .iload_n 1, 1), (6, .ifCond .lt 11, 3), (9, .iload_n 1, 1), (10, .aload_n 0, 1), (11, .getfield 104, 3), (14, .if_icmp .le 5, 3), (17, .iconst 0, 1), (18, .ireturn, 1), (19, .aload_n 0, 1), (20, .iload_n 1, 1), (21, .putfield 104, 3), (24, .iconst 1, 1), (25, .ireturn, 1)]
def M_Mo_end : MT := (t_Mo_end, P_Mo, [], [])
theorem T_Mo_end : TabOK i_Mo_end M_Mo_end := tab_ok (by decide +kernel)
theorem H_Mo_end : ThrOK i_Mo_end M_Mo_end := ⟨fa_n, rfl, fa_n⟩
def t_Mo_fault : List (Nat × Instr × Nat) := [(0, .aload_n 0, 1), (1, .iconst 0, 1), (2, .putfield 3, 3), (5, .aload_n 0, 1), (6, .getfield 37, 3), (9, .ireturn, 1)]
def M_Mo_fault : MT := (t_Mo_fault, P_Mo, [], [])
theorem T_Mo_fault : TabOK i_Mo_fault M_Mo_fault := tab_ok (by decide +kernel)
theorem H_Mo_fault : ThrOK i_Mo_fault M_Mo_fault := ⟨fa_n, rfl, fa_n⟩
def t_Mo_school : List (Nat × Instr × Nat) := [(0, .iconst 0, 1), (1, .istore_n 1, 1), (2, .iload_n 1, 1), (3, .sipush 1864, 3), (6, .if_icmp .ge 21, 3), (9, .aload_n 0, 1), (10, .getfield 20, 3), (13, .iload_n 1, 1), (14, .aload_n 0, 1), (15, .getfield 13, 3), (18, .iload_n 1, 1), (19, .iaload, 1), (20, .iastore, 1), (21, .iinc 1 1, 3), (24, .goto (-22), 3), (27, .aload_n 0, 1), (28, .aload_n 0, 1), (29, .getfield 59, 3), (32, .putfield 258, 3), (35, .aload_n 0, 1), (36, .iconst 1, 1), (37, .invokevirtual 261, 3), (40, .istore_n 1, 1), (41, .aload_n 0, 1), (42, .iload_n 1, 1), (43, .ifCond .ge 10, 3), (46, .aload_n 0, 1), (47, .getfield 116, 3), (50, .goto 4, 3), (53, .iconst (-1), 1), (54, .putfield 37, 3), (57, .aload_n 0, 1), (58, .iload_n 1, 1), (59, .ifCond .ge 7, 3), (62, .iconst 1, 1), (63, .goto 4, 3), (66, .iconst 0, 1), (67, .iconst 1, 1), (68, .invokevirtual 265, 3), (71, .ifCond .ne 27, 3), (74, .aload_n 0, 1), (75, .aload_n 0, 1), (76, .getfield 13, 3), (79, .iconst 3, 1), (80, .iaload, 1), (81, .bipush 12, 2), (83, .if_icmp .ne 7, 3), (86, .iconst 1, 1), (87, .goto 4, 3), (90, .iconst 0, 1), (91, .iconst 2, 1), (92, .invokevirtual 265, 3), (95, .ifCond .eq 40, 3), (98, .iconst 0, 1), (99, .istore_n 2, 1), (100, .iload_n 2, 1), (101, .sipush 1864, 3), (104, .if_icmp .ge 21, 3), (107, .aload_n 0, 1), (108, .getfield 13, 3), (111, .iload_n 2, 1), (112, .aload_n 0, 1), (113, .getfield 20, 3), (116, .iload_n 2, 1), (117, .iaload, 1), (118, .iastore, 1), (119, .iinc 2 1, 3), (122, .goto (-22), 3), (125, .aload_n 0, 1), (126, .aload_n 0, 1), (127, .getfield 258, 3), (130, .putfield 59, 3), (133, .iconst 0, 1), (134, .ireturn, 1), (135, .aload_n 0, 1), (136, .getfield 13, 3), (139, .iconst 3, 1), (140, .dup2, 1), (141, .iaload, 1), (142, .iconst 1, 1), (143, .iadd, 1), (144, .iastore, 1), (145, .aload_n 0, 1), (146, .iconst 0, 1), (147, .putfield 70, 3), (150, .aload_n 0, 1), (151, .getfield 13, 3), (154, .iconst 3, 1), (155, .iaload, 1), (156, .ireturn, 1)]
def M_Mo_school : MT := (t_Mo_school, P_Mo, [], [])
theorem T_Mo_school : TabOK i_Mo_school M_Mo_school := tab_ok (by decide +kernel)
theorem H_Mo_school : ThrOK i_Mo_school M_Mo_school := ⟨fa_n, rfl, fa_n⟩
def t_Mo_readAll : List (Nat × Instr × Nat) := [(0, .aload_n 0, 1), (1, .invokevirtual 251, 3), (4, .aload_n 0, 1), (5, .iconst 0, 1), (6, .putfield 191, 3), (9, .aload_n 0, 1), (10, .invokevirtual 119, 3), (13, .aload_n 0, 1), (14, .getfield 107, 3), (17, .aload_n 0, 1), (18, .getfield 110, 3), (21, .if_icmp .ne 5, 3), (24, .iconst 0, 1), (25, .ireturn, 1), (26, .iconst 0, 1), (27, .istore_n 2, 1), (28, .aload_n 0, 1), (29, .iload_n 1, 1), (30, .iload_n 2, 1), (31, .invokevirtual 254, 3), (34, .ifCond .ne 5, 3), (37, .iconst (-1), 1), (38, .ireturn, 1), (39, .aload_n 0, 1), (40, .invokevirtual 119, 3), (43, .aload_n 0, 1), (44, .getfield 107, 3), (47, .aload_n 0, 1), (48, .getfield 110, 3), (51, .if_icmp .ne 7, 3), (54, .iload_n 2, 1), (55, .iconst 1, 1), (56, .iadd, 1), (57, .ireturn, 1), (58, .aload_n 0, 1), (59, .bipush 59, 2), (61, .bipush 59, 2), (63, .invokevirtual 113, 3), (66, .ifCond .ne 5, 3), (69, .iconst (-1), 1), (70, .ireturn, 1), (71, .aload_n 0, 1), (72, .dup, 1), (73, .getfield 107, 3), (76, .iconst 1, 1), (77, .iadd, 1), (78, .putfield 107, 3), (81, .iinc 2 1, 3), (84, .goto (-56), 3)]
def M_Mo_readAll : MT := (t_Mo_readAll, P_Mo, [], [])
theorem T_Mo_readAll : TabOK i_Mo_readAll M_Mo_readAll := tab_ok (by decide +kernel)
theorem H_Mo_readAll : ThrOK i_Mo_readAll M_Mo_readAll := ⟨fa_n, rfl, fa_n⟩
def t_Mo_uses : List (Nat × Instr × Nat) := [(0, .aload_n 0, 1), (1, .iconst 0, 1), (2, .putfield 3, 3), (5, .aload_n 0, 1), (6, .aload_n 0, 1), (7, .getfield 104, 3), (10, .putfield 110, 3), (13, .aload_n 0, 1), (14, .iconst 0, 1), (15, .putfield 104, 3), (18, .aload_n 0, 1), (19, .iconst 0, 1), (20, .putfield 107, 3), (23, .return_, 1)]
def M_Mo_uses : MT := (t_Mo_uses, P_Mo, [], [])
theorem T_Mo_uses : TabOK i_Mo_uses M_Mo_uses := tab_ok (by decide +kernel)
theorem H_Mo_uses : ThrOK i_Mo_uses M_Mo_uses := ⟨fa_n, rfl, fa_n⟩
def t_Mo_blanks : List (Nat × Instr × Nat) := [(0, .aload_n 0, 1), (1, .bipush 32, 2), (3, .bipush 32, 2), (5, .invokevirtual 113, 3), (8, .ifCond .eq 16, 3), (11, .aload_n 0, 1), (12, .dup, 1), (13, .getfield 107, 3), (16, .iconst 1, 1), (17, .iadd, 1), (18, .putfield 107, 3), (21, .goto (-21), 3), (24, .aload_n 0, 1), (25, .aload_n 0, 1), (26, .getfield 107, 3), (29, .putfield 116, 3), (32, .return_, 1)]
def M_Mo_blanks : MT := (t_Mo_blanks, P_Mo, [], [])
theorem T_Mo_blanks : TabOK i_Mo_blanks M_Mo_blanks := tab_ok (by decide +kernel)
theorem H_Mo_blanks : ThrOK i_Mo_blanks M_Mo_blanks := ⟨fa_n, rfl, fa_n⟩
def t_Mo_isAt : List (Nat × Instr × Nat) := [(0, .aload_n 0, 1), (1, .getfield 107, 3), (4, .aload_n 0, 1), (5, .getfield 110, 3), (8, .if_icmp .ge 33, 3), (11, .aload_n 0, 1), (12, .getfield 33, 3), (15, .aload_n 0, 1), (16, .getfield 107, 3), (19, .baload, 1), (20, .iload_n 1, 1), (21, .if_icmp .lt 20, 3), (24, .aload_n 0, 1), (25, .getfield 33, 3), (28, .aload_n 0, 1), (29, .getfield 107, 3), (32, .baload, 1), (33, .iload_n 2, 1), (34, .if_icmp .gt 7, 3), (37, .iconst 1, 1), (38, .goto 4, 3), (41, .iconst 0, 1), (42, .ireturn, 1)]
def M_Mo_isAt : MT := (t_Mo_isAt, P_Mo, [], [])
theorem T_Mo_isAt : TabOK i_Mo_isAt M_Mo_isAt := tab_ok (by decide +kernel)
theorem H_Mo_isAt : ThrOK i_Mo_isAt M_Mo_isAt := ⟨fa_n, rfl, fa_n⟩
def t_Mo_readLine : List (Nat × Instr × Nat) := [(0, .aload_n 0, 1), (1, .invokevirtual 131, 3), (4, .iload_n 2, 1), (5, .iload_n 1, 1), (6, .ifCond .eq 8, 3), (9, .bipush 14, 2), (11, .goto 5, 3), (14, .bipush 12, 2), (16, .if_icmp .ge 29, 3), (19, .iload_n 1, 1), (20, .ifCond .eq 13, 3), (23, .aload_n 0, 1), (24, .invokevirtual 245, 3), (27, .ifCond .eq 18, 3), (30, .goto 11, 3), (33, .aload_n 0, 1), (34, .iload_n 2, 1), (35, .invokevirtual 248, 3), (38, .ifCond .eq 7, 3), (41, .iconst 1, 1), (42, .goto 4, 3), (45, .iconst 0, 1), (46, .ireturn, 1)]
def M_Mo_readLine : MT := (t_Mo_readLine, P_Mo, [], [])
theorem T_Mo_readLine : TabOK i_Mo_readLine M_Mo_readLine := tab_ok (by decide +kernel)
theorem H_Mo_readLine : ThrOK i_Mo_readLine M_Mo_readLine := ⟨fa_n, rfl, fa_n⟩
def t_Mo_letters : List (Nat × Instr × Nat) := [(0, .aload_n 0, 1), (1, .invokevirtual 119, 3), (4, .aload_n 0, 1), (5, .bipush 97, 2), (7, .bipush 122, 2), (9, .invokevirtual 113, 3), (12, .ifCond .eq 16, 3), (15, .aload_n 0, 1), (16, .dup, 1), (17, .getfield 107, 3), (20, .iconst 1, 1), (21, .iadd, 1), (22, .putfield 107, 3), (25, .goto (-21), 3), (28, .return_, 1)]
def M_Mo_letters : MT := (t_Mo_letters, P_Mo, [], [])
theorem T_Mo_letters : TabOK i_Mo_letters M_Mo_letters := tab_ok (by decide +kernel)
theorem H_Mo_letters : ThrOK i_Mo_letters M_Mo_letters := ⟨fa_n, rfl, fa_n⟩
def t_Mo_readSchoolLine : List (Nat × Instr × Nat) := [(0, .aload_n 0, 1), (1, .ldc 167, 2), (3, .invokevirtual 134, 3), (6, .ifCond .eq 8, 3), (9, .aload_n 0, 1), (10, .invokevirtual 169, 3), (13, .ireturn, 1), (14, .aload_n 0, 1), (15, .ldc 172, 2), (17, .invokevirtual 134, 3), (20, .ifCond .eq 8, 3), (23, .aload_n 0, 1), (24, .invokevirtual 174, 3), (27, .ireturn, 1), (28, .aload_n 0, 1), (29, .ldc 177, 2), (31, .invokevirtual 134, 3), (34, .ifCond .eq 8, 3), (37, .aload_n 0, 1), (38, .invokevirtual 179, 3), (41, .ireturn, 1), (42, .aload_n 0, 1), (43, .ldc 182, 2), (45, .invokevirtual 134, 3), (48, .ifCond .eq 8, 3), (51, .aload_n 0, 1), (52, .invokevirtual 184, 3), (55, .ireturn, 1), (56, .aload_n 0, 1), (57, .ldc 187, 2), (59, .invokevirtual 134, 3), (62, .istore_n 1, 1), (63, .iload_n 1, 1), (64, .ifCond .ne 14, 3), (67, .aload_n 0, 1), (68, .ldc 189, 2), (70, .invokevirtual 134, 3), (73, .ifCond .ne 5, 3), (76, .iconst 0, 1), (77, .ireturn, 1), (78, .aload_n 0, 1), (79, .iconst 0, 1), (80, .iload_n 1, 1), (81, .ifCond .eq 12, 3), (84, .aload_n 0, 1), (85, .invokevirtual 100, 3), (88, .iconst 1, 1), (89, .isub, 1), (90, .goto 5, 3), (93, .bipush 9, 2), (95, .invokevirtual 138, 3), (98, .istore_n 2, 1), (99, .iload_n 2, 1), (100, .ifCond .lt 31, 3), (103, .aload_n 0, 1), (104, .getfield 13, 3), (107, .iload_n 1, 1), (108, .ifCond .eq 11, 3), (111, .iload_n 2, 1), (112, .iconst 5, 1), (113, .invokestatic 73, 3), (116, .goto 5, 3), (119, .bipush 6, 2), (121, .iload_n 1, 1), (122, .ifCond .eq 7, 3), (125, .iconst 1, 1), (126, .goto 4, 3), (129, .iload_n 2, 1), (130, .iastore, 1), (131, .iload_n 2, 1), (132, .ifCond .lt 7, 3), (135, .iconst 1, 1), (136, .goto 4, 3), (139, .iconst 0, 1), (140, .ireturn, 1)]
def M_Mo_readSchoolLine : MT := (t_Mo_readSchoolLine, P_Mo, [], [])
theorem T_Mo_readSchoolLine : TabOK i_Mo_readSchoolLine M_Mo_readSchoolLine := tab_ok (by decide +kernel)
theorem H_Mo_readSchoolLine : ThrOK i_Mo_readSchoolLine M_Mo_readSchoolLine := ⟨fa_n, rfl, fa_n⟩
def t_Mo_isWord : List (Nat × Instr × Nat) := [(0, .aload_n 0, 1), (1, .getfield 107, 3), (4, .aload_n 0, 1), (5, .getfield 116, 3), (8, .isub, 1), (9, .aload_n 1, 1), (10, .invokevirtual 122, 3), (13, .if_icmp .ne 7, 3), (16, .iconst 1, 1), (17, .goto 4, 3), (20, .iconst 0, 1), (21, .istore_n 2, 1), (22, .iconst 0, 1), (23, .istore_n 3, 1), (24, .iload_n 2, 1), (25, .ifCond .eq 42, 3), (28, .iload_n 3, 1), (29, .aload_n 1, 1), (30, .invokevirtual 122, 3), (33, .if_icmp .ge 34, 3), (36, .aload_n 0, 1), (37, .getfield 33, 3), (40, .aload_n 0, 1), (41, .getfield 116, 3), (44, .iload_n 3, 1), (45, .iadd, 1), (46, .baload, 1), (47, .aload_n 1, 1), (48, .iload_n 3, 1), (49, .invokevirtual 127, 3), (52, .if_icmp .ne 7, 3), (55, .iconst 1, 1), (56, .goto 4, 3), (59, .iconst 0, 1), (60, .istore_n 2, 1), (61, .iinc 3 1, 3), (64, .goto (-40), 3), (67, .iload_n 2, 1), (68, .ireturn, 1)]
def M_Mo_isWord : MT := (t_Mo_isWord, P_Mo, [], [])
theorem T_Mo_isWord : TabOK i_Mo_isWord M_Mo_isWord := tab_ok (by decide +kernel)
theorem H_Mo_isWord : ThrOK i_Mo_isWord M_Mo_isWord := ⟨fa_n, rfl, fa_n⟩
def t_Mo_readThing : List (Nat × Instr × Nat) := [(0, .aload_n 0, 1), (1, .invokevirtual 84, 3), (4, .bipush 10, 2), (6, .if_icmp .ne 5, 3), (9, .iconst 0, 1), (10, .ireturn, 1), (11, .aload_n 0, 1), (12, .iconst 1, 1), (13, .bipush 6, 2), (15, .invokevirtual 138, 3), (18, .istore_n 1, 1), (19, .iload_n 1, 1), (20, .ifCond .ge 5, 3), (23, .iconst 0, 1), (24, .ireturn, 1), (25, .aload_n 0, 1), (26, .getfield 13, 3), (29, .bipush 9, 2), (31, .aload_n 0, 1), (32, .invokevirtual 84, 3), (35, .iadd, 1), (36, .iload_n 1, 1), (37, .iastore, 1), (38, .aload_n 0, 1), (39, .getfield 13, 3), (42, .iconst 0, 1), (43, .dup2, 1), (44, .iaload, 1), (45, .iconst 1, 1), (46, .iadd, 1), (47, .iastore, 1), (48, .iconst 1, 1), (49, .ireturn, 1)]
def M_Mo_readThing : MT := (t_Mo_readThing, P_Mo, [], [])
theorem T_Mo_readThing : TabOK i_Mo_readThing M_Mo_readThing := tab_ok (by decide +kernel)
theorem H_Mo_readThing : ThrOK i_Mo_readThing M_Mo_readThing := ⟨fa_n, rfl, fa_n⟩
def t_Mo_things : List (Nat × Instr × Nat) := [(0, .aload_n 0, 1), (1, .getfield 13, 3), (4, .iconst 0, 1), (5, .iaload, 1), (6, .ireturn, 1)]
def M_Mo_things : MT := (t_Mo_things, P_Mo, [], [])
theorem T_Mo_things : TabOK i_Mo_things M_Mo_things := tab_ok (by decide +kernel)
theorem H_Mo_things : ThrOK i_Mo_things M_Mo_things := ⟨fa_n, rfl, fa_n⟩
def t_Mo_number : List (Nat × Instr × Nat) := [(0, .aload_n 0, 1), (1, .invokevirtual 119, 3), (4, .iconst 0, 1), (5, .istore_n 3, 1), (6, .aload_n 0, 1), (7, .bipush 48, 2), (9, .bipush 57, 2), (11, .invokevirtual 113, 3), (14, .ifCond .eq 51, 3), (17, .aload_n 0, 1), (18, .getfield 107, 3), (21, .aload_n 0, 1), (22, .getfield 116, 3), (25, .isub, 1), (26, .iconst 3, 1), (27, .if_icmp .ge 23, 3), (30, .bipush 10, 2), (32, .iload_n 3, 1), (33, .imul, 1), (34, .aload_n 0, 1), (35, .getfield 33, 3), (38, .aload_n 0, 1), (39, .getfield 107, 3), (42, .baload, 1), (43, .iadd, 1), (44, .bipush 48, 2), (46, .isub, 1), (47, .goto 4, 3), (50, .iload_n 3, 1), (51, .istore_n 3, 1), (52, .aload_n 0, 1), (53, .dup, 1), (54, .getfield 107, 3), (57, .iconst 1, 1), (58, .iadd, 1), (59, .putfield 107, 3), (62, .goto (-56), 3), (65, .aload_n 0, 1), (66, .getfield 107, 3), (69, .aload_n 0, 1), (70, .getfield 116, 3), (73, .if_icmp .eq 26, 3), (76, .aload_n 0, 1), (77, .getfield 107, 3), (80, .aload_n 0, 1), (81, .getfield 116, 3), (84, .isub, 1), (85, .iconst 3, 1), (86, .if_icmp .gt 13, 3), (89, .iload_n 3, 1), (90, .iload_n 1, 1), (91, .if_icmp .lt 8, 3), (94, .iload_n 3, 1), (95, .iload_n 2, 1), (96, .if_icmp .le 7, 3), (99, .iconst (-1), 1), (100, .goto 4, 3), (103, .iload_n 3, 1), (104, .ireturn, 1)]
def M_Mo_number : MT := (t_Mo_number, P_Mo, [], [])
theorem T_Mo_number : TabOK i_Mo_number M_Mo_number := tab_ok (by decide +kernel)
theorem H_Mo_number : ThrOK i_Mo_number M_Mo_number := ⟨fa_n, rfl, fa_n⟩
def t_Mo_readPerson : List (Nat × Instr × Nat) := [(0, .aload_n 0, 1), (1, .invokevirtual 100, 3), (4, .istore_n 1, 1), (5, .iload_n 1, 1), (6, .bipush 10, 2), (8, .if_icmp .ne 5, 3), (11, .iconst 0, 1), (12, .ireturn, 1), (13, .aload_n 0, 1), (14, .iconst 0, 1), (15, .bipush 9, 2), (17, .invokevirtual 138, 3), (20, .istore_n 2, 1), (21, .iload_n 2, 1), (22, .ifCond .ge 7, 3), (25, .iconst (-1), 1), (26, .goto 10, 3), (29, .aload_n 0, 1), (30, .iconst 0, 1), (31, .bipush 9, 2), (33, .invokevirtual 138, 3), (36, .istore_n 3, 1), (37, .iload_n 3, 1), (38, .ifCond .lt 12, 3), (41, .aload_n 0, 1), (42, .iload_n 2, 1), (43, .iload_n 3, 1), (44, .invokevirtual 141, 3), (47, .ifCond .lt 5, 3), (50, .iconst 0, 1), (51, .ireturn, 1), (52, .aload_n 0, 1), (53, .ldc 144, 2), (55, .iconst 0, 1), (56, .bipush 9, 2), (58, .invokevirtual 146, 3), (61, .istore 4, 2), (63, .iload 4, 2), (65, .ifCond .ge 7, 3), (68, .iconst (-1), 1), (69, .goto 12, 3), (72, .aload_n 0, 1), (73, .ldc 150, 2), (75, .iconst 0, 1), (76, .bipush 100, 2), (78, .invokevirtual 146, 3), (81, .istore 5, 2), (83, .iload 5, 2), (85, .ifCond .ge 5, 3), (88, .iconst 0, 1), (89, .ireturn, 1), (90, .aload_n 0, 1), (91, .getfield 13, 3), (94, .iload_n 1, 1), (95, .iconst 0, 1), (96, .invokestatic 73, 3), (99, .iload_n 2, 1), (100, .iastore, 1), (101, .aload_n 0, 1), (102, .getfield 13, 3), (105, .iload_n 1, 1), (106, .iconst 1, 1), (107, .invokestatic 73, 3), (110, .iload_n 3, 1), (111, .iastore, 1), (112, .aload_n 0, 1), (113, .getfield 13, 3), (116, .iload_n 1, 1), (117, .iconst 2, 1), (118, .invokestatic 73, 3), (121, .iload 4, 2), (123, .iastore, 1), (124, .aload_n 0, 1), (125, .getfield 13, 3), (128, .iload_n 1, 1), (129, .iconst 3, 1), (130, .invokestatic 73, 3), (133, .iload 5, 2), (135, .iastore, 1), (136, .aload_n 0, 1), (137, .getfield 13, 3), (140, .iload_n 1, 1), (141, .iconst 4, 1), (142, .invokestatic 73, 3), (145, .iconst 0, 1), (146, .iastore, 1), (147, .aload_n 0, 1), (148, .getfield 13, 3), (151, .iload_n 1, 1), (152, .iconst 5, 1), (153, .invokestatic 73, 3), (156, .iconst 0, 1), (157, .iastore, 1), (158, .aload_n 0, 1), (159, .ldc 152, 2), (161, .invokevirtual 154, 3), (164, .ifCond .eq 40, 3), (167, .aload_n 0, 1), (168, .invokevirtual 157, 3), (171, .istore 6, 2), (173, .iload 6, 2), (175, .ifCond .ge 5, 3), (178, .iconst 0, 1), (179, .ireturn, 1), (180, .aload_n 0, 1), (181, .getfield 13, 3), (184, .iload_n 1, 1), (185, .iconst 4, 1), (186, .invokestatic 73, 3), (189, .dup2, 1), (190, .iaload, 1), (191, .iconst 1, 1), (192, .iload 6, 2), (194, .ishl, 1), (195, .ior, 1), (196, .iastore, 1), (197, .aload_n 0, 1), (198, .invokevirtual 160, 3), (201, .ifCond .ne (-34), 3), (204, .aload_n 0, 1), (205, .getfield 13, 3), (208, .iconst 1, 1), (209, .dup2, 1), (210, .iaload, 1), (211, .iconst 1, 1), (212, .iadd, 1), (213, .iastore, 1), (214, .iconst 1, 1), (215, .ireturn, 1)]
def M_Mo_readPerson : MT := (t_Mo_readPerson, P_Mo, [], [])
theorem T_Mo_readPerson : TabOK i_Mo_readPerson M_Mo_readPerson := tab_ok (by decide +kernel)
theorem H_Mo_readPerson : ThrOK i_Mo_readPerson M_Mo_readPerson := ⟨fa_n, rfl, fa_n⟩
def t_Mo_people : List (Nat × Instr × Nat) := [(0, .aload_n 0, 1), (1, .getfield 13, 3), (4, .iconst 1, 1), (5, .iaload, 1), (6, .ireturn, 1)]
def M_Mo_people : MT := (t_Mo_people, P_Mo, [], [])
theorem T_Mo_people : TabOK i_Mo_people M_Mo_people := tab_ok (by decide +kernel)
theorem H_Mo_people : ThrOK i_Mo_people M_Mo_people := ⟨fa_n, rfl, fa_n⟩
def t_Mo_sitter : List (Nat × Instr × Nat) := [(0, .iconst (-1), 1), (1, .istore_n 3, 1), (2, .iconst 0, 1), (3, .istore 4, 2), (5, .iload 4, 2), (7, .aload_n 0, 1), (8, .invokevirtual 100, 3), (11, .if_icmp .ge 34, 3), (14, .aload_n 0, 1), (15, .iload 4, 2), (17, .iconst 0, 1), (18, .invokevirtual 77, 3), (21, .iload_n 1, 1), (22, .if_icmp .ne 17, 3), (25, .aload_n 0, 1), (26, .iload 4, 2), (28, .iconst 1, 1), (29, .invokevirtual 77, 3), (32, .iload_n 2, 1), (33, .if_icmp .ne 6, 3), (36, .iload 4, 2), (38, .istore_n 3, 1), (39, .iinc 4 1, 3), (42, .goto (-37), 3), (45, .iload_n 3, 1), (46, .ireturn, 1)]
def M_Mo_sitter : MT := (t_Mo_sitter, P_Mo, [], [])
theorem T_Mo_sitter : TabOK i_Mo_sitter M_Mo_sitter := tab_ok (by decide +kernel)
theorem H_Mo_sitter : ThrOK i_Mo_sitter M_Mo_sitter := ⟨fa_n, rfl, fa_n⟩
def t_Mo_of : List (Nat × Instr × Nat) := [(0, .aload_n 0, 1), (1, .getfield 13, 3), (4, .iload_n 1, 1), (5, .iload_n 2, 1), (6, .invokestatic 73, 3), (9, .iaload, 1), (10, .ireturn, 1)]
def M_Mo_of : MT := (t_Mo_of, P_Mo, [], [])
theorem T_Mo_of : TabOK i_Mo_of M_Mo_of := tab_ok (by decide +kernel)
theorem H_Mo_of : ThrOK i_Mo_of M_Mo_of := ⟨fa_n, rfl, fa_n⟩
def t_Mo_at : List (Nat × Instr × Nat) := [(0, .bipush 19, 2), (2, .bipush 6, 2), (4, .iload_n 0, 1), (5, .imul, 1), (6, .iadd, 1), (7, .iload_n 1, 1), (8, .iadd, 1), (9, .ireturn, 1)]
def M_Mo_at : MT := (t_Mo_at, P_Mo, [], [])
theorem T_Mo_at : TabOK i_Mo_at M_Mo_at := tab_ok (by decide +kernel)
theorem H_Mo_at : ThrOK i_Mo_at M_Mo_at := ⟨fa_n, rfl, fa_n⟩
def t_Mo_after : List (Nat × Instr × Nat) := [(0, .aload_n 0, 1), (1, .invokevirtual 131, 3), (4, .aload_n 0, 1), (5, .aload_n 1, 1), (6, .invokevirtual 134, 3), (9, .ifCond .eq 12, 3), (12, .aload_n 0, 1), (13, .iload_n 2, 1), (14, .iload_n 3, 1), (15, .invokevirtual 138, 3), (18, .goto 4, 3), (21, .iconst (-1), 1), (22, .ireturn, 1)]
def M_Mo_after : MT := (t_Mo_after, P_Mo, [], [])
theorem T_Mo_after : TabOK i_Mo_after M_Mo_after := tab_ok (by decide +kernel)
theorem H_Mo_after : ThrOK i_Mo_after M_Mo_after := ⟨fa_n, rfl, fa_n⟩
def t_Mo_passes : List (Nat × Instr × Nat) := [(0, .aload_n 0, 1), (1, .invokevirtual 131, 3), (4, .aload_n 0, 1), (5, .aload_n 1, 1), (6, .invokevirtual 134, 3), (9, .ifCond .eq 5, 3), (12, .iconst 1, 1), (13, .ireturn, 1), (14, .aload_n 0, 1), (15, .aload_n 0, 1), (16, .getfield 116, 3), (19, .putfield 107, 3), (22, .iconst 0, 1), (23, .ireturn, 1)]
def M_Mo_passes : MT := (t_Mo_passes, P_Mo, [], [])
theorem T_Mo_passes : TabOK i_Mo_passes M_Mo_passes := tab_ok (by decide +kernel)
theorem H_Mo_passes : ThrOK i_Mo_passes M_Mo_passes := ⟨fa_n, rfl, fa_n⟩
def t_Mo_thingTold : List (Nat × Instr × Nat) := [(0, .aload_n 0, 1), (1, .iconst 0, 1), (2, .aload_n 0, 1), (3, .invokevirtual 84, 3), (6, .iconst 1, 1), (7, .isub, 1), (8, .invokevirtual 138, 3), (11, .ireturn, 1)]
def M_Mo_thingTold : MT := (t_Mo_thingTold, P_Mo, [], [])
theorem T_Mo_thingTold : TabOK i_Mo_thingTold M_Mo_thingTold := tab_ok (by decide +kernel)
theorem H_Mo_thingTold : ThrOK i_Mo_thingTold M_Mo_thingTold := ⟨fa_n, rfl, fa_n⟩
def t_Mo_isFigure : List (Nat × Instr × Nat) := [(0, .aload_n 0, 1), (1, .invokevirtual 119, 3), (4, .aload_n 0, 1), (5, .bipush 48, 2), (7, .bipush 57, 2), (9, .invokevirtual 113, 3), (12, .ireturn, 1)]
def M_Mo_isFigure : MT := (t_Mo_isFigure, P_Mo, [], [])
theorem T_Mo_isFigure : TabOK i_Mo_isFigure M_Mo_isFigure := tab_ok (by decide +kernel)
theorem H_Mo_isFigure : ThrOK i_Mo_isFigure M_Mo_isFigure := ⟨fa_n, rfl, fa_n⟩
def t_Mo_readRule : List (Nat × Instr × Nat) := [(0, .aload_n 0, 1), (1, .invokevirtual 164, 3), (4, .bipush 12, 2), (6, .if_icmp .ne 5, 3), (9, .iconst 0, 1), (10, .ireturn, 1), (11, .iconst 0, 1), (12, .istore_n 1, 1), (13, .iload_n 1, 1), (14, .iconst 3, 1), (15, .if_icmp .ge 37, 3), (18, .aload_n 0, 1), (19, .invokevirtual 157, 3), (22, .istore_n 2, 1), (23, .iload_n 2, 1), (24, .ifCond .ge 5, 3), (27, .iconst 0, 1), (28, .ireturn, 1), (29, .aload_n 0, 1), (30, .getfield 13, 3), (33, .bipush 79, 2), (35, .iconst 3, 1), (36, .aload_n 0, 1), (37, .invokevirtual 164, 3), (40, .imul, 1), (41, .iadd, 1), (42, .iload_n 1, 1), (43, .iadd, 1), (44, .iload_n 2, 1), (45, .iastore, 1), (46, .iinc 1 1, 3), (49, .goto (-36), 3), (52, .aload_n 0, 1), (53, .getfield 13, 3), (56, .iconst 2, 1), (57, .dup2, 1), (58, .iaload, 1), (59, .iconst 1, 1), (60, .iadd, 1), (61, .iastore, 1), (62, .iconst 1, 1), (63, .ireturn, 1)]
def M_Mo_readRule : MT := (t_Mo_readRule, P_Mo, [], [])
theorem T_Mo_readRule : TabOK i_Mo_readRule M_Mo_readRule := tab_ok (by decide +kernel)
theorem H_Mo_readRule : ThrOK i_Mo_readRule M_Mo_readRule := ⟨fa_n, rfl, fa_n⟩
def t_Mo_rules : List (Nat × Instr × Nat) := [(0, .aload_n 0, 1), (1, .getfield 13, 3), (4, .iconst 2, 1), (5, .iaload, 1), (6, .ireturn, 1)]
def M_Mo_rules : MT := (t_Mo_rules, P_Mo, [], [])
theorem T_Mo_rules : TabOK i_Mo_rules M_Mo_rules := tab_ok (by decide +kernel)
theorem H_Mo_rules : ThrOK i_Mo_rules M_Mo_rules := ⟨fa_n, rfl, fa_n⟩
def t_Mo_readSaid : List (Nat × Instr × Nat) := [(0, .aload_n 0, 1), (1, .invokevirtual 157, 3), (4, .istore_n 1, 1), (5, .iload_n 1, 1), (6, .ifCond .ge 7, 3), (9, .iconst (-1), 1), (10, .goto 15, 3), (13, .aload_n 0, 1), (14, .iconst 0, 1), (15, .aload_n 0, 1), (16, .iload_n 1, 1), (17, .invokevirtual 96, 3), (20, .iconst 1, 1), (21, .isub, 1), (22, .invokevirtual 138, 3), (25, .istore_n 2, 1), (26, .iload_n 2, 1), (27, .ifCond .lt 20, 3), (30, .aload_n 0, 1), (31, .dup, 1), (32, .getfield 59, 3), (35, .lconst 1, 1), (36, .bipush 6, 2), (38, .iload_n 1, 1), (39, .imul, 1), (40, .iload_n 2, 1), (41, .iadd, 1), (42, .lshl, 1), (43, .lor, 1), (44, .putfield 59, 3), (47, .iload_n 2, 1), (48, .ifCond .lt 7, 3), (51, .iconst 1, 1), (52, .goto 4, 3), (55, .iconst 0, 1), (56, .ireturn, 1)]
def M_Mo_readSaid : MT := (t_Mo_readSaid, P_Mo, [], [])
theorem T_Mo_readSaid : TabOK i_Mo_readSaid M_Mo_readSaid := tab_ok (by decide +kernel)
theorem H_Mo_readSaid : ThrOK i_Mo_readSaid M_Mo_readSaid := ⟨fa_n, rfl, fa_n⟩
def t_Mo_wordings : List (Nat × Instr × Nat) := [(0, .aload_n 0, 1), (1, .getfield 13, 3), (4, .bipush 9, 2), (6, .iload_n 1, 1), (7, .iadd, 1), (8, .iaload, 1), (9, .ireturn, 1)]
def M_Mo_wordings : MT := (t_Mo_wordings, P_Mo, [], [])
theorem T_Mo_wordings : TabOK i_Mo_wordings M_Mo_wordings := tab_ok (by decide +kernel)
theorem H_Mo_wordings : ThrOK i_Mo_wordings M_Mo_wordings := ⟨fa_n, rfl, fa_n⟩
def t_Mo_readLawLine : List (Nat × Instr × Nat) := [(0, .sipush 1865, 3), (3, .iconst 4, 1), (4, .iload_n 1, 1), (5, .imul, 1), (6, .iadd, 1), (7, .istore_n 2, 1), (8, .aload_n 0, 1), (9, .ldc 237, 2), (11, .invokevirtual 134, 3), (14, .istore_n 3, 1), (15, .iload_n 3, 1), (16, .ifCond .ne 23, 3), (19, .aload_n 0, 1), (20, .ldc 239, 2), (22, .invokevirtual 134, 3), (25, .ifCond .ne 14, 3), (28, .aload_n 0, 1), (29, .ldc 241, 2), (31, .invokevirtual 134, 3), (34, .ifCond .ne 5, 3), (37, .iconst 0, 1), (38, .ireturn, 1), (39, .aload_n 0, 1), (40, .getfield 13, 3), (43, .iload_n 2, 1), (44, .iload_n 3, 1), (45, .ifCond .eq 7, 3), (48, .iconst 0, 1), (49, .goto 17, 3), (52, .aload_n 0, 1), (53, .ldc 239, 2), (55, .invokevirtual 134, 3), (58, .ifCond .eq 7, 3), (61, .iconst 1, 1), (62, .goto 4, 3), (65, .iconst (-1), 1), (66, .iastore, 1), (67, .aload_n 0, 1), (68, .getfield 13, 3), (71, .iload_n 2, 1), (72, .iconst 1, 1), (73, .iadd, 1), (74, .aload_n 0, 1), (75, .iconst 0, 1), (76, .bipush 99, 2), (78, .invokevirtual 138, 3), (81, .iastore, 1), (82, .aload_n 0, 1), (83, .getfield 13, 3), (86, .iload_n 2, 1), (87, .iconst 1, 1), (88, .iadd, 1), (89, .iaload, 1), (90, .ifCond .ge 5, 3), (93, .iconst 0, 1), (94, .ireturn, 1), (95, .aload_n 0, 1), (96, .getfield 13, 3), (99, .iload_n 2, 1), (100, .iconst 2, 1), (101, .iadd, 1), (102, .aload_n 0, 1), (103, .getfield 191, 3), (106, .iastore, 1), (107, .aload_n 0, 1), (108, .iconst 0, 1), (109, .putfield 214, 3), (112, .aload_n 0, 1), (113, .ldc 243, 2), (115, .invokevirtual 154, 3), (118, .ifCond .eq 12, 3), (121, .aload_n 0, 1), (122, .invokevirtual 217, 3), (125, .ifCond .ne 5, 3), (128, .iconst 0, 1), (129, .ireturn, 1), (130, .aload_n 0, 1), (131, .getfield 13, 3), (134, .iload_n 2, 1), (135, .iconst 3, 1), (136, .iadd, 1), (137, .aload_n 0, 1), (138, .getfield 191, 3), (141, .iastore, 1), (142, .iconst 1, 1), (143, .ireturn, 1)]
def M_Mo_readLawLine : MT := (t_Mo_readLawLine, P_Mo, [], [])
theorem T_Mo_readLawLine : TabOK i_Mo_readLawLine M_Mo_readLawLine := tab_ok (by decide +kernel)
theorem H_Mo_readLawLine : ThrOK i_Mo_readLawLine M_Mo_readLawLine := ⟨fa_n, rfl, fa_n⟩
def t_Mo_readCond : List (Nat × Instr × Nat) := [(0, .aload_n 0, 1), (1, .invokevirtual 232, 3), (4, .ifCond .ne 5, 3), (7, .iconst 0, 1), (8, .ireturn, 1), (9, .aload_n 0, 1), (10, .ldc 235, 2), (12, .invokevirtual 154, 3), (15, .ifCond .eq 22, 3), (18, .aload_n 0, 1), (19, .invokevirtual 232, 3), (22, .ifCond .ne 5, 3), (25, .iconst 0, 1), (26, .ireturn, 1), (27, .aload_n 0, 1), (28, .bipush 14, 2), (30, .iconst 0, 1), (31, .invokevirtual 194, 3), (34, .goto (-25), 3), (37, .iconst 1, 1), (38, .ireturn, 1)]
def M_Mo_readCond : MT := (t_Mo_readCond, P_Mo, [], [])
theorem T_Mo_readCond : TabOK i_Mo_readCond M_Mo_readCond := tab_ok (by decide +kernel)
theorem H_Mo_readCond : ThrOK i_Mo_readCond M_Mo_readCond := ⟨fa_n, rfl, fa_n⟩
def t_Mo_readAllOf : List (Nat × Instr × Nat) := [(0, .aload_n 0, 1), (1, .invokevirtual 222, 3), (4, .ifCond .ne 5, 3), (7, .iconst 0, 1), (8, .ireturn, 1), (9, .aload_n 0, 1), (10, .ldc 230, 2), (12, .invokevirtual 154, 3), (15, .ifCond .eq 22, 3), (18, .aload_n 0, 1), (19, .invokevirtual 222, 3), (22, .ifCond .ne 5, 3), (25, .iconst 0, 1), (26, .ireturn, 1), (27, .aload_n 0, 1), (28, .bipush 13, 2), (30, .iconst 0, 1), (31, .invokevirtual 194, 3), (34, .goto (-25), 3), (37, .iconst 1, 1), (38, .ireturn, 1)]
def M_Mo_readAllOf : MT := (t_Mo_readAllOf, P_Mo, [], [])
theorem T_Mo_readAllOf : TabOK i_Mo_readAllOf M_Mo_readAllOf := tab_ok (by decide +kernel)
theorem H_Mo_readAllOf : ThrOK i_Mo_readAllOf M_Mo_readAllOf := ⟨fa_n, rfl, fa_n⟩
def t_Mo_readAtom : List (Nat × Instr × Nat) := [(0, .aload_n 0, 1), (1, .bipush 40, 2), (3, .invokevirtual 211, 3), (6, .ifCond .eq 50, 3), (9, .aload_n 0, 1), (10, .getfield 214, 3), (13, .bipush 6, 2), (15, .if_icmp .ne 5, 3), (18, .iconst 0, 1), (19, .ireturn, 1), (20, .aload_n 0, 1), (21, .dup, 1), (22, .getfield 214, 3), (25, .iconst 1, 1), (26, .iadd, 1), (27, .putfield 214, 3), (30, .aload_n 0, 1), (31, .invokevirtual 217, 3), (34, .ifCond .ne 5, 3), (37, .iconst 0, 1), (38, .ireturn, 1), (39, .aload_n 0, 1), (40, .dup, 1), (41, .getfield 214, 3), (44, .iconst 1, 1), (45, .isub, 1), (46, .putfield 214, 3), (49, .aload_n 0, 1), (50, .bipush 41, 2), (52, .invokevirtual 211, 3), (55, .ireturn, 1), (56, .aload_n 0, 1), (57, .ldc 220, 2), (59, .invokevirtual 154, 3), (62, .ifCond .eq 52, 3), (65, .aload_n 0, 1), (66, .getfield 214, 3), (69, .bipush 6, 2), (71, .if_icmp .ne 5, 3), (74, .iconst 0, 1), (75, .ireturn, 1), (76, .aload_n 0, 1), (77, .dup, 1), (78, .getfield 214, 3), (81, .iconst 1, 1), (82, .iadd, 1), (83, .putfield 214, 3), (86, .aload_n 0, 1), (87, .invokevirtual 222, 3), (90, .ifCond .ne 5, 3), (93, .iconst 0, 1), (94, .ireturn, 1), (95, .aload_n 0, 1), (96, .dup, 1), (97, .getfield 214, 3), (100, .iconst 1, 1), (101, .isub, 1), (102, .putfield 214, 3), (105, .aload_n 0, 1), (106, .bipush 12, 2), (108, .iconst 0, 1), (109, .invokevirtual 194, 3), (112, .iconst 1, 1), (113, .ireturn, 1), (114, .aload_n 0, 1), (115, .ldc 225, 2), (117, .invokevirtual 154, 3), (120, .ifCond .eq 12, 3), (123, .aload_n 0, 1), (124, .bipush 7, 2), (126, .iconst 0, 1), (127, .invokevirtual 194, 3), (130, .iconst 1, 1), (131, .ireturn, 1), (132, .aload_n 0, 1), (133, .invokevirtual 227, 3), (136, .ifCond .ne 5, 3), (139, .iconst 0, 1), (140, .ireturn, 1), (141, .aload_n 0, 1), (142, .bipush 60, 2), (144, .invokevirtual 211, 3), (147, .istore_n 1, 1), (148, .iload_n 1, 1), (149, .ifCond .ne 12, 3), (152, .aload_n 0, 1), (153, .bipush 62, 2), (155, .invokevirtual 211, 3), (158, .ifCond .eq 10, 3), (161, .aload_n 0, 1), (162, .invokevirtual 227, 3), (165, .ifCond .ne 5, 3), (168, .iconst 0, 1), (169, .ireturn, 1), (170, .aload_n 0, 1), (171, .iload_n 1, 1), (172, .ifCond .eq 8, 3), (175, .bipush 10, 2), (177, .goto 5, 3), (180, .bipush 11, 2), (182, .iconst 0, 1), (183, .invokevirtual 194, 3), (186, .iconst 1, 1), (187, .ireturn, 1)]
def M_Mo_readAtom : MT := (t_Mo_readAtom, P_Mo, [], [])
theorem T_Mo_readAtom : TabOK i_Mo_readAtom M_Mo_readAtom := tab_ok (by decide +kernel)
theorem H_Mo_readAtom : ThrOK i_Mo_readAtom M_Mo_readAtom := ⟨fa_n, rfl, fa_n⟩
def t_Mo_sign : List (Nat × Instr × Nat) := [(0, .aload_n 0, 1), (1, .invokevirtual 119, 3), (4, .aload_n 0, 1), (5, .iload_n 1, 1), (6, .iload_n 1, 1), (7, .invokevirtual 113, 3), (10, .ifCond .ne 5, 3), (13, .iconst 0, 1), (14, .ireturn, 1), (15, .aload_n 0, 1), (16, .dup, 1), (17, .getfield 107, 3), (20, .iconst 1, 1), (21, .iadd, 1), (22, .putfield 107, 3), (25, .iconst 1, 1), (26, .ireturn, 1)]
def M_Mo_sign : MT := (t_Mo_sign, P_Mo, [], [])
theorem T_Mo_sign : TabOK i_Mo_sign M_Mo_sign := tab_ok (by decide +kernel)
theorem H_Mo_sign : ThrOK i_Mo_sign M_Mo_sign := ⟨fa_n, rfl, fa_n⟩
def t_Mo_emits : List (Nat × Instr × Nat) := [(0, .aload_n 0, 1), (1, .getfield 13, 3), (4, .sipush 1913, 3), (7, .iconst 2, 1), (8, .aload_n 0, 1), (9, .getfield 191, 3), (12, .imul, 1), (13, .iadd, 1), (14, .iload_n 1, 1), (15, .iastore, 1), (16, .aload_n 0, 1), (17, .getfield 13, 3), (20, .sipush 1913, 3), (23, .iconst 2, 1), (24, .aload_n 0, 1), (25, .getfield 191, 3), (28, .imul, 1), (29, .iadd, 1), (30, .iconst 1, 1), (31, .iadd, 1), (32, .iload_n 2, 1), (33, .iastore, 1), (34, .aload_n 0, 1), (35, .dup, 1), (36, .getfield 191, 3), (39, .iconst 1, 1), (40, .iadd, 1), (41, .putfield 191, 3), (44, .return_, 1)]
def M_Mo_emits : MT := (t_Mo_emits, P_Mo, [], [])
theorem T_Mo_emits : TabOK i_Mo_emits M_Mo_emits := tab_ok (by decide +kernel)
theorem H_Mo_emits : ThrOK i_Mo_emits M_Mo_emits := ⟨fa_n, rfl, fa_n⟩
def t_Mo_readSum : List (Nat × Instr × Nat) := [(0, .aload_n 0, 1), (1, .invokevirtual 208, 3), (4, .ifCond .ne 5, 3), (7, .iconst 0, 1), (8, .ireturn, 1), (9, .aload_n 0, 1), (10, .bipush 43, 2), (12, .invokevirtual 211, 3), (15, .ifCond .eq 22, 3), (18, .aload_n 0, 1), (19, .invokevirtual 208, 3), (22, .ifCond .ne 5, 3), (25, .iconst 0, 1), (26, .ireturn, 1), (27, .aload_n 0, 1), (28, .bipush 9, 2), (30, .iconst 0, 1), (31, .invokevirtual 194, 3), (34, .goto (-25), 3), (37, .iconst 1, 1), (38, .ireturn, 1)]
def M_Mo_readSum : MT := (t_Mo_readSum, P_Mo, [], [])
theorem T_Mo_readSum : TabOK i_Mo_readSum M_Mo_readSum := tab_ok (by decide +kernel)
theorem H_Mo_readSum : ThrOK i_Mo_readSum M_Mo_readSum := ⟨fa_n, rfl, fa_n⟩
def t_Mo_readPart : List (Nat × Instr × Nat) := [(0, .aload_n 0, 1), (1, .invokevirtual 131, 3), (4, .aload_n 0, 1), (5, .getfield 107, 3), (8, .aload_n 0, 1), (9, .getfield 116, 3), (12, .if_icmp .ne 22, 3), (15, .aload_n 0, 1), (16, .iconst 0, 1), (17, .sipush 999, 3), (20, .invokevirtual 138, 3), (23, .istore_n 1, 1), (24, .aload_n 0, 1), (25, .bipush 8, 2), (27, .iload_n 1, 1), (28, .invokevirtual 194, 3), (31, .goto 103, 3), (34, .aload_n 0, 1), (35, .ldc 167, 2), (37, .invokevirtual 134, 3), (40, .ifCond .eq 7, 3), (43, .iconst 0, 1), (44, .goto 83, 3), (47, .aload_n 0, 1), (48, .ldc 198, 2), (50, .invokevirtual 134, 3), (53, .ifCond .eq 7, 3), (56, .iconst 1, 1), (57, .goto 70, 3), (60, .aload_n 0, 1), (61, .ldc 200, 2), (63, .invokevirtual 134, 3), (66, .ifCond .eq 7, 3), (69, .iconst 2, 1), (70, .goto 57, 3), (73, .aload_n 0, 1), (74, .ldc 202, 2), (76, .invokevirtual 134, 3), (79, .ifCond .eq 7, 3), (82, .iconst 3, 1), (83, .goto 44, 3), (86, .aload_n 0, 1), (87, .ldc 204, 2), (89, .invokevirtual 134, 3), (92, .ifCond .eq 7, 3), (95, .iconst 4, 1), (96, .goto 31, 3), (99, .aload_n 0, 1), (100, .ldc 144, 2), (102, .invokevirtual 134, 3), (105, .ifCond .eq 7, 3), (108, .iconst 5, 1), (109, .goto 18, 3), (112, .aload_n 0, 1), (113, .ldc 206, 2), (115, .invokevirtual 134, 3), (118, .ifCond .eq 8, 3), (121, .bipush 6, 2), (123, .goto 4, 3), (126, .iconst (-1), 1), (127, .istore_n 1, 1), (128, .aload_n 0, 1), (129, .iload_n 1, 1), (130, .iconst 0, 1), (131, .invokevirtual 194, 3), (134, .iload_n 1, 1), (135, .ifCond .lt 7, 3), (138, .iconst 1, 1), (139, .goto 4, 3), (142, .iconst 0, 1), (143, .ireturn, 1)]
def M_Mo_readPart : MT := (t_Mo_readPart, P_Mo, [], [])
theorem T_Mo_readPart : TabOK i_Mo_readPart M_Mo_readPart := tab_ok (by decide +kernel)
theorem H_Mo_readPart : ThrOK i_Mo_readPart M_Mo_readPart := ⟨fa_n, rfl, fa_n⟩
def t_Mo_throwsIf : List (Nat × Instr × Nat) := [(0, .iload_n 1, 1), (1, .ifCond .eq 8, 3), (4, .aload_n 0, 1), (5, .iload_n 2, 1), (6, .putfield 3, 3), (9, .iload_n 1, 1), (10, .ireturn, 1)]
def M_Mo_throwsIf : MT := (t_Mo_throwsIf, P_Mo, [], [])
theorem T_Mo_throwsIf : TabOK i_Mo_throwsIf M_Mo_throwsIf := tab_ok (by decide +kernel)
theorem H_Mo_throwsIf : ThrOK i_Mo_throwsIf M_Mo_throwsIf := ⟨fa_n, rfl, fa_n⟩
def t_Mo_law : List (Nat × Instr × Nat) := [(0, .aload_n 0, 1), (1, .iconst 0, 1), (2, .invokevirtual 261, 3), (5, .istore_n 1, 1), (6, .aload_n 0, 1), (7, .iload_n 1, 1), (8, .ifCond .ge 10, 3), (11, .aload_n 0, 1), (12, .getfield 116, 3), (15, .goto 4, 3), (18, .iconst (-1), 1), (19, .putfield 37, 3), (22, .aload_n 0, 1), (23, .iload_n 1, 1), (24, .ifCond .ge 7, 3), (27, .iconst 1, 1), (28, .goto 4, 3), (31, .iconst 0, 1), (32, .iconst 1, 1), (33, .invokevirtual 265, 3), (36, .ifCond .eq 5, 3), (39, .iconst 0, 1), (40, .ireturn, 1), (41, .aload_n 0, 1), (42, .getfield 13, 3), (45, .sipush 1864, 3), (48, .iload_n 1, 1), (49, .iastore, 1), (50, .iconst 0, 1), (51, .istore_n 2, 1), (52, .iload_n 2, 1), (53, .sipush 849, 3), (56, .if_icmp .ge 29, 3), (59, .aload_n 0, 1), (60, .getfield 13, 3), (63, .sipush 1015, 3), (66, .iload_n 2, 1), (67, .iadd, 1), (68, .aload_n 0, 1), (69, .getfield 13, 3), (72, .sipush 1864, 3), (75, .iload_n 2, 1), (76, .iadd, 1), (77, .iaload, 1), (78, .iastore, 1), (79, .iinc 2 1, 3), (82, .goto (-30), 3), (85, .aload_n 0, 1), (86, .getfield 13, 3), (89, .iconst 4, 1), (90, .iconst 1, 1), (91, .iastore, 1), (92, .aload_n 0, 1), (93, .iconst 0, 1), (94, .putfield 70, 3), (97, .iload_n 1, 1), (98, .ireturn, 1)]
def M_Mo_law : MT := (t_Mo_law, P_Mo, [], [])
theorem T_Mo_law : TabOK i_Mo_law M_Mo_law := tab_ok (by decide +kernel)
theorem H_Mo_law : ThrOK i_Mo_law M_Mo_law := ⟨fa_n, rfl, fa_n⟩
def t_Mo_hears : List (Nat × Instr × Nat) := [(0, .aload_n 0, 1), (1, .iconst 0, 1), (2, .putfield 3, 3), (5, .aload_n 0, 1), (6, .aload_n 0, 1), (7, .iload_n 1, 1), (8, .invokevirtual 306, 3), (11, .ifCond .ne 21, 3), (14, .aload_n 0, 1), (15, .iload_n 2, 1), (16, .iload_n 3, 1), (17, .invokevirtual 309, 3), (20, .ifCond .ne 12, 3), (23, .aload_n 0, 1), (24, .iload 4, 2), (26, .invokevirtual 306, 3), (29, .ifCond .eq 7, 3), (32, .iconst 1, 1), (33, .goto 4, 3), (36, .iconst 0, 1), (37, .iconst 1, 1), (38, .invokevirtual 265, 3), (41, .ifCond .ne 22, 3), (44, .aload_n 0, 1), (45, .iload_n 1, 1), (46, .iload 4, 2), (48, .if_icmp .ne 7, 3), (51, .iconst 1, 1), (52, .goto 4, 3), (55, .iconst 0, 1), (56, .iconst 2, 1), (57, .invokevirtual 265, 3), (60, .ifCond .eq 5, 3), (63, .iconst 0, 1), (64, .ireturn, 1), (65, .aload_n 0, 1), (66, .iload_n 2, 1), (67, .iload_n 3, 1), (68, .invokestatic 312, 3), (71, .iload_n 1, 1), (72, .iload 4, 2), (74, .invokevirtual 303, 3), (77, .ireturn, 1)]
def M_Mo_hears : MT := (t_Mo_hears, P_Mo, [], [])
theorem T_Mo_hears : TabOK i_Mo_hears M_Mo_hears := tab_ok (by decide +kernel)
theorem H_Mo_hears : ThrOK i_Mo_hears M_Mo_hears := ⟨fa_n, rfl, fa_n⟩
def t_Mo_noPerson : List (Nat × Instr × Nat) := [(0, .iload_n 1, 1), (1, .iconst 0, 1), (2, .aload_n 0, 1), (3, .invokevirtual 100, 3), (6, .iconst 1, 1), (7, .isub, 1), (8, .invokestatic 88, 3), (11, .ifCond .ne 7, 3), (14, .iconst 1, 1), (15, .goto 4, 3), (18, .iconst 0, 1), (19, .ireturn, 1)]
def M_Mo_noPerson : MT := (t_Mo_noPerson, P_Mo, [], [])
theorem T_Mo_noPerson : TabOK i_Mo_noPerson M_Mo_noPerson := tab_ok (by decide +kernel)
theorem H_Mo_noPerson : ThrOK i_Mo_noPerson M_Mo_noPerson := ⟨fa_n, rfl, fa_n⟩
def t_Mo_in : List (Nat × Instr × Nat) := [(0, .iload_n 0, 1), (1, .iload_n 1, 1), (2, .if_icmp .lt 12, 3), (5, .iload_n 0, 1), (6, .iload_n 2, 1), (7, .if_icmp .gt 7, 3), (10, .iconst 1, 1), (11, .goto 4, 3), (14, .iconst 0, 1), (15, .ireturn, 1)]
def M_Mo_in : MT := (t_Mo_in, P_Mo, [], [])
theorem T_Mo_in : TabOK i_Mo_in M_Mo_in := tab_ok (by decide +kernel)
theorem H_Mo_in : ThrOK i_Mo_in M_Mo_in := ⟨fa_n, rfl, fa_n⟩
def t_Mo_noWording : List (Nat × Instr × Nat) := [(0, .aload_n 0, 1), (1, .iload_n 1, 1), (2, .invokevirtual 92, 3), (5, .ifCond .ne 18, 3), (8, .iload_n 2, 1), (9, .iconst 0, 1), (10, .aload_n 0, 1), (11, .iload_n 1, 1), (12, .invokevirtual 96, 3), (15, .iconst 1, 1), (16, .isub, 1), (17, .invokestatic 88, 3), (20, .ifCond .ne 7, 3), (23, .iconst 1, 1), (24, .goto 4, 3), (27, .iconst 0, 1), (28, .ireturn, 1)]
def M_Mo_noWording : MT := (t_Mo_noWording, P_Mo, [], [])
theorem T_Mo_noWording : TabOK i_Mo_noWording M_Mo_noWording := tab_ok (by decide +kernel)
theorem H_Mo_noWording : ThrOK i_Mo_noWording M_Mo_noWording := ⟨fa_n, rfl, fa_n⟩
def t_Mo_noThing : List (Nat × Instr × Nat) := [(0, .iload_n 1, 1), (1, .iconst 0, 1), (2, .aload_n 0, 1), (3, .invokevirtual 84, 3), (6, .iconst 1, 1), (7, .isub, 1), (8, .invokestatic 88, 3), (11, .ifCond .ne 7, 3), (14, .iconst 1, 1), (15, .goto 4, 3), (18, .iconst 0, 1), (19, .ireturn, 1)]
def M_Mo_noThing : MT := (t_Mo_noThing, P_Mo, [], [])
theorem T_Mo_noThing : TabOK i_Mo_noThing M_Mo_noThing := tab_ok (by decide +kernel)
theorem H_Mo_noThing : ThrOK i_Mo_noThing M_Mo_noThing := ⟨fa_n, rfl, fa_n⟩
def t_Mo_sayingOf : List (Nat × Instr × Nat) := [(0, .bipush 6, 2), (2, .iload_n 0, 1), (3, .imul, 1), (4, .iload_n 1, 1), (5, .iadd, 1), (6, .ireturn, 1)]
def M_Mo_sayingOf : MT := (t_Mo_sayingOf, P_Mo, [], [])
theorem T_Mo_sayingOf : TabOK i_Mo_sayingOf M_Mo_sayingOf := tab_ok (by decide +kernel)
theorem H_Mo_sayingOf : ThrOK i_Mo_sayingOf M_Mo_sayingOf := ⟨fa_n, rfl, fa_n⟩
def t_Mo_takes : List (Nat × Instr × Nat) := [(0, .aload_n 0, 1), (1, .iload_n 2, 1), (2, .invokevirtual 293, 3), (5, .ifCond .eq 31, 3), (8, .aload_n 0, 1), (9, .iload_n 3, 1), (10, .invokevirtual 293, 3), (13, .ifCond .eq 23, 3), (16, .aload_n 0, 1), (17, .iload_n 1, 1), (18, .iload_n 2, 1), (19, .iload_n 3, 1), (20, .invokevirtual 296, 3), (23, .ifCond .eq 13, 3), (26, .aload_n 0, 1), (27, .iload_n 1, 1), (28, .iload_n 2, 1), (29, .iload_n 3, 1), (30, .invokevirtual 299, 3), (33, .goto 4, 3), (36, .iconst (-1), 1), (37, .ireturn, 1)]
def M_Mo_takes : MT := (t_Mo_takes, P_Mo, [], [])
theorem T_Mo_takes : TabOK i_Mo_takes M_Mo_takes := tab_ok (by decide +kernel)
theorem H_Mo_takes : ThrOK i_Mo_takes M_Mo_takes := ⟨fa_n, rfl, fa_n⟩
def t_Mo_isHere : List (Nat × Instr × Nat) := [(0, .aload_n 0, 1), (1, .iload_n 1, 1), (2, .iconst 5, 1), (3, .invokevirtual 77, 3), (6, .ifCond .ne 7, 3), (9, .iconst 1, 1), (10, .goto 4, 3), (13, .iconst 0, 1), (14, .ireturn, 1)]
def M_Mo_isHere : MT := (t_Mo_isHere, P_Mo, [], [])
theorem T_Mo_isHere : TabOK i_Mo_isHere M_Mo_isHere := tab_ok (by decide +kernel)
theorem H_Mo_isHere : ThrOK i_Mo_isHere M_Mo_isHere := ⟨fa_n, rfl, fa_n⟩
def t_Mo_isHeard : List (Nat × Instr × Nat) := [(0, .aload_n 0, 1), (1, .iload_n 3, 1), (2, .iconst 2, 1), (3, .invokevirtual 77, 3), (6, .aload_n 0, 1), (7, .getfield 13, 3), (10, .bipush 6, 2), (12, .iaload, 1), (13, .iadd, 1), (14, .aload_n 0, 1), (15, .iconst 1, 1), (16, .iload_n 1, 1), (17, .iload_n 2, 1), (18, .iload_n 3, 1), (19, .invokevirtual 289, 3), (22, .iadd, 1), (23, .aload_n 0, 1), (24, .iconst (-1), 1), (25, .iload_n 1, 1), (26, .iload_n 2, 1), (27, .iload_n 3, 1), (28, .invokevirtual 289, 3), (31, .isub, 1), (32, .istore 4, 2), (34, .aload_n 0, 1), (35, .iload_n 2, 1), (36, .iload_n 3, 1), (37, .invokevirtual 276, 3), (40, .iload 4, 2), (42, .if_icmp .gt 7, 3), (45, .iconst 1, 1), (46, .goto 4, 3), (49, .iconst 0, 1), (50, .ireturn, 1)]
def M_Mo_isHeard : MT := (t_Mo_isHeard, P_Mo, [], [])
theorem T_Mo_isHeard : TabOK i_Mo_isHeard M_Mo_isHeard := tab_ok (by decide +kernel)
theorem H_Mo_isHeard : ThrOK i_Mo_isHeard M_Mo_isHeard := ⟨fa_n, rfl, fa_n⟩
def t_Mo_sumOf : List (Nat × Instr × Nat) := [(0, .iconst 0, 1), (1, .istore 5, 2), (3, .iconst 0, 1), (4, .istore 6, 2), (6, .aload_n 0, 1), (7, .getfield 13, 3), (10, .iconst 4, 1), (11, .iaload, 1), (12, .iconst 1, 1), (13, .if_icmp .ne 72, 3), (16, .iload 6, 2), (18, .aload_n 0, 1), (19, .getfield 13, 3), (22, .sipush 1015, 3), (25, .iaload, 1), (26, .if_icmp .ge 59, 3), (29, .aload_n 0, 1), (30, .getfield 13, 3), (33, .sipush 1016, 3), (36, .iconst 4, 1), (37, .iload 6, 2), (39, .imul, 1), (40, .iadd, 1), (41, .iaload, 1), (42, .iload_n 1, 1), (43, .if_icmp .ne 36, 3), (46, .aload_n 0, 1), (47, .iload 6, 2), (49, .iload_n 2, 1), (50, .iload_n 3, 1), (51, .iload 4, 2), (53, .invokevirtual 285, 3), (56, .ifCond .eq 23, 3), (59, .iload 5, 2), (61, .aload_n 0, 1), (62, .getfield 13, 3), (65, .sipush 1016, 3), (68, .iconst 4, 1), (69, .iload 6, 2), (71, .imul, 1), (72, .iadd, 1), (73, .iconst 1, 1), (74, .iadd, 1), (75, .iaload, 1), (76, .iadd, 1), (77, .istore 5, 2), (79, .iinc 6 1, 3), (82, .goto (-76), 3), (85, .iload 5, 2), (87, .ireturn, 1)]
def M_Mo_sumOf : MT := (t_Mo_sumOf, P_Mo, [], [])
theorem T_Mo_sumOf : TabOK i_Mo_sumOf M_Mo_sumOf := tab_ok (by decide +kernel)
theorem H_Mo_sumOf : ThrOK i_Mo_sumOf M_Mo_sumOf := ⟨fa_n, rfl, fa_n⟩
def t_Mo_holdsLine : List (Nat × Instr × Nat) := [(0, .iconst 0, 1), (1, .istore 5, 2), (3, .sipush 1016, 3), (6, .iconst 4, 1), (7, .iload_n 1, 1), (8, .imul, 1), (9, .iadd, 1), (10, .istore 6, 2), (12, .aload_n 0, 1), (13, .getfield 13, 3), (16, .iload 6, 2), (18, .iconst 2, 1), (19, .iadd, 1), (20, .iaload, 1), (21, .istore 7, 2), (23, .iload 7, 2), (25, .aload_n 0, 1), (26, .getfield 13, 3), (29, .iload 6, 2), (31, .iconst 3, 1), (32, .iadd, 1), (33, .iaload, 1), (34, .if_icmp .ge 239, 3), (37, .aload_n 0, 1), (38, .getfield 13, 3), (41, .sipush 1064, 3), (44, .iconst 2, 1), (45, .iload 7, 2), (47, .imul, 1), (48, .iadd, 1), (49, .iaload, 1), (50, .istore 8, 2), (52, .iload 8, 2), (54, .bipush 8, 2), (56, .if_icmp .gt 41, 3), (59, .aload_n 0, 1), (60, .getfield 43, 3), (63, .iload 5, 2), (65, .aload_n 0, 1), (66, .iload 8, 2), (68, .aload_n 0, 1), (69, .getfield 13, 3), (72, .sipush 1064, 3), (75, .iconst 2, 1), (76, .iload 7, 2), (78, .imul, 1), (79, .iadd, 1), (80, .iconst 1, 1), (81, .iadd, 1), (82, .iaload, 1), (83, .iload_n 2, 1), (84, .iload_n 3, 1), (85, .iload 4, 2), (87, .invokevirtual 281, 3), (90, .iastore, 1), (91, .iinc 5 1, 3), (94, .goto 173, 3), (97, .iload 8, 2), (99, .bipush 12, 2), (101, .if_icmp .ne 26, 3), (104, .aload_n 0, 1), (105, .getfield 43, 3), (108, .iload 5, 2), (110, .iconst 1, 1), (111, .isub, 1), (112, .iconst 1, 1), (113, .aload_n 0, 1), (114, .getfield 43, 3), (117, .iload 5, 2), (119, .iconst 1, 1), (120, .isub, 1), (121, .iaload, 1), (122, .isub, 1), (123, .iastore, 1), (124, .goto 143, 3), (127, .iinc 5 (-1), 3), (130, .aload_n 0, 1), (131, .getfield 43, 3), (134, .iload 5, 2), (136, .iconst 1, 1), (137, .isub, 1), (138, .iaload, 1), (139, .istore 9, 2), (141, .aload_n 0, 1), (142, .getfield 43, 3), (145, .iload 5, 2), (147, .iaload, 1), (148, .istore 10, 2), (150, .iload 8, 2), (152, .bipush 10, 2), (154, .if_icmp .ne 18, 3), (157, .iload 9, 2), (159, .iload 10, 2), (161, .if_icmp .ge 7, 3), (164, .iconst 1, 1), (165, .goto 66, 3), (168, .iconst 0, 1), (169, .goto 62, 3), (172, .iload 8, 2), (174, .bipush 11, 2), (176, .if_icmp .ne 18, 3), (179, .iload 9, 2), (181, .iload 10, 2), (183, .if_icmp .le 7, 3), (186, .iconst 1, 1), (187, .goto 44, 3), (190, .iconst 0, 1), (191, .goto 40, 3), (194, .iload 8, 2), (196, .bipush 13, 2), (198, .if_icmp .ne 20, 3), (201, .iload 9, 2), (203, .iload 10, 2), (205, .iadd, 1), (206, .iconst 2, 1), (207, .if_icmp .ne 7, 3), (210, .iconst 1, 1), (211, .goto 20, 3), (214, .iconst 0, 1), (215, .goto 16, 3), (218, .iload 9, 2), (220, .iload 10, 2), (222, .iadd, 1), (223, .ifCond .le 7, 3), (226, .iconst 1, 1), (227, .goto 4, 3), (230, .iconst 0, 1), (231, .istore 11, 2), (233, .aload_n 0, 1), (234, .getfield 43, 3), (237, .iload 5, 2), (239, .iconst 1, 1), (240, .isub, 1), (241, .iload 8, 2), (243, .bipush 9, 2), (245, .if_icmp .ne 11, 3), (248, .iload 9, 2), (250, .iload 10, 2), (252, .iadd, 1), (253, .goto 13, 3), (256, .iload 11, 2), (258, .ifCond .eq 7, 3), (261, .iconst 1, 1), (262, .goto 4, 3), (265, .iconst 0, 1), (266, .iastore, 1), (267, .iinc 7 1, 3), (270, .goto (-247), 3), (273, .iload 5, 2), (275, .ifCond .eq 13, 3), (278, .aload_n 0, 1), (279, .getfield 43, 3), (282, .iconst 0, 1), (283, .iaload, 1), (284, .iconst 1, 1), (285, .if_icmp .ne 7, 3), (288, .iconst 1, 1), (289, .goto 4, 3), (292, .iconst 0, 1), (293, .ireturn, 1)]
def M_Mo_holdsLine : MT := (t_Mo_holdsLine, P_Mo, [], [])
theorem T_Mo_holdsLine : TabOK i_Mo_holdsLine M_Mo_holdsLine := tab_ok (by decide +kernel)
theorem H_Mo_holdsLine : ThrOK i_Mo_holdsLine M_Mo_holdsLine := ⟨fa_n, rfl, fa_n⟩
def t_Mo_factOf : List (Nat × Instr × Nat) := [(0, .iload_n 1, 1), (1, .tableswitch 106 0 7 #[47, 52, 57, 60, 63, 72, 80, 87], 47), (48, .iload_n 3, 1), (49, .bipush 6, 2), (51, .idiv, 1), (52, .ireturn, 1), (53, .iload_n 3, 1), (54, .bipush 6, 2), (56, .irem, 1), (57, .ireturn, 1), (58, .iload 4, 2), (60, .ireturn, 1), (61, .iload 5, 2), (63, .ireturn, 1), (64, .aload_n 0, 1), (65, .iload 4, 2), (67, .iload 5, 2), (69, .invokevirtual 276, 3), (72, .ireturn, 1), (73, .aload_n 0, 1), (74, .iload 5, 2), (76, .iconst 2, 1), (77, .invokevirtual 77, 3), (80, .ireturn, 1), (81, .aload_n 0, 1), (82, .getfield 13, 3), (85, .iconst 5, 1), (86, .iaload, 1), (87, .ireturn, 1), (88, .aload_n 0, 1), (89, .iload 5, 2), (91, .iload_n 3, 1), (92, .bipush 6, 2), (94, .idiv, 1), (95, .invokevirtual 279, 3), (98, .ifCond .eq 7, 3), (101, .iconst 1, 1), (102, .goto 4, 3), (105, .iconst 0, 1), (106, .ireturn, 1), (107, .iload_n 2, 1), (108, .ireturn, 1)]
def M_Mo_factOf : MT := (t_Mo_factOf, P_Mo, [], [])
theorem T_Mo_factOf : TabOK i_Mo_factOf M_Mo_factOf := tab_ok (by decide +kernel)
theorem H_Mo_factOf : ThrOK i_Mo_factOf M_Mo_factOf := ⟨fa_n, rfl, fa_n⟩
def t_Mo_apartOf : List (Nat × Instr × Nat) := [(0, .aload_n 0, 1), (1, .iload_n 1, 1), (2, .iconst 0, 1), (3, .invokevirtual 77, 3), (6, .aload_n 0, 1), (7, .iload_n 2, 1), (8, .iconst 0, 1), (9, .invokevirtual 77, 3), (12, .isub, 1), (13, .invokestatic 268, 3), (16, .aload_n 0, 1), (17, .iload_n 1, 1), (18, .iconst 1, 1), (19, .invokevirtual 77, 3), (22, .aload_n 0, 1), (23, .iload_n 2, 1), (24, .iconst 1, 1), (25, .invokevirtual 77, 3), (28, .isub, 1), (29, .invokestatic 268, 3), (32, .invokestatic 273, 3), (35, .ireturn, 1)]
def M_Mo_apartOf : MT := (t_Mo_apartOf, P_Mo, [], [])
theorem T_Mo_apartOf : TabOK i_Mo_apartOf M_Mo_apartOf := tab_ok (by decide +kernel)
theorem H_Mo_apartOf : ThrOK i_Mo_apartOf M_Mo_apartOf := ⟨fa_n, rfl, fa_n⟩
def t_Mo_knows : List (Nat × Instr × Nat) := [(0, .aload_n 0, 1), (1, .iload_n 1, 1), (2, .iconst 4, 1), (3, .invokevirtual 77, 3), (6, .iload_n 2, 1), (7, .invokestatic 80, 3), (10, .ireturn, 1)]
def M_Mo_knows : MT := (t_Mo_knows, P_Mo, [], [])
theorem T_Mo_knows : TabOK i_Mo_knows M_Mo_knows := tab_ok (by decide +kernel)
theorem H_Mo_knows : ThrOK i_Mo_knows M_Mo_knows := ⟨fa_n, rfl, fa_n⟩
def t_Mo_has : List (Nat × Instr × Nat) := [(0, .iload_n 0, 1), (1, .iload_n 1, 1), (2, .ishr, 1), (3, .iconst 1, 1), (4, .iand, 1), (5, .iconst 1, 1), (6, .if_icmp .ne 7, 3), (9, .iconst 1, 1), (10, .goto 4, 3), (13, .iconst 0, 1), (14, .ireturn, 1)]
def M_Mo_has : MT := (t_Mo_has, P_Mo, [], [])
theorem T_Mo_has : TabOK i_Mo_has M_Mo_has := tab_ok (by decide +kernel)
theorem H_Mo_has : ThrOK i_Mo_has M_Mo_has := ⟨fa_n, rfl, fa_n⟩
def t_Mo_takenAs : List (Nat × Instr × Nat) := [(0, .iload_n 1, 1), (1, .bipush 6, 2), (3, .idiv, 1), (4, .aload_n 0, 1), (5, .iconst 0, 1), (6, .iload_n 1, 1), (7, .iload_n 2, 1), (8, .iload_n 3, 1), (9, .invokevirtual 289, 3), (12, .iadd, 1), (13, .aload_n 0, 1), (14, .invokevirtual 84, 3), (17, .irem, 1), (18, .ireturn, 1)]
def M_Mo_takenAs : MT := (t_Mo_takenAs, P_Mo, [], [])
theorem T_Mo_takenAs : TabOK i_Mo_takenAs M_Mo_takenAs := tab_ok (by decide +kernel)
theorem H_Mo_takenAs : ThrOK i_Mo_takenAs M_Mo_takenAs := ⟨fa_n, rfl, fa_n⟩
def t_Mo_audience : List (Nat × Instr × Nat) := [(0, .aload_n 0, 1), (1, .iconst 0, 1), (2, .putfield 3, 3), (5, .aload_n 0, 1), (6, .aload_n 0, 1), (7, .iload_n 1, 1), (8, .invokevirtual 306, 3), (11, .ifCond .ne 12, 3), (14, .aload_n 0, 1), (15, .iload_n 2, 1), (16, .iload_n 3, 1), (17, .invokevirtual 309, 3), (20, .ifCond .eq 7, 3), (23, .iconst 1, 1), (24, .goto 4, 3), (27, .iconst 0, 1), (28, .iconst 1, 1), (29, .invokevirtual 265, 3), (32, .ifCond .eq 7, 3), (35, .iconst 0, 1), (36, .goto 15, 3), (39, .aload_n 0, 1), (40, .iload_n 2, 1), (41, .iload_n 3, 1), (42, .invokestatic 312, 3), (45, .iload_n 1, 1), (46, .iload 4, 2), (48, .invokevirtual 315, 3), (51, .ireturn, 1)]
def M_Mo_audience : MT := (t_Mo_audience, P_Mo, [], [])
theorem T_Mo_audience : TabOK i_Mo_audience M_Mo_audience := tab_ok (by decide +kernel)
theorem H_Mo_audience : ThrOK i_Mo_audience M_Mo_audience := ⟨fa_n, rfl, fa_n⟩
def t_Mo_hearers : List (Nat × Instr × Nat) := [(0, .iconst 0, 1), (1, .istore 4, 2), (3, .iconst 0, 1), (4, .istore 5, 2), (6, .iload 5, 2), (8, .aload_n 0, 1), (9, .invokevirtual 100, 3), (12, .if_icmp .ge 60, 3), (15, .iload 5, 2), (17, .iload_n 2, 1), (18, .if_icmp .ne 7, 3), (21, .iconst (-1), 1), (22, .goto 11, 3), (25, .aload_n 0, 1), (26, .iload_n 1, 1), (27, .iload_n 2, 1), (28, .iload 5, 2), (30, .invokevirtual 303, 3), (33, .istore 6, 2), (35, .iload 4, 2), (37, .iload 6, 2), (39, .ifCond .lt 23, 3), (42, .iload_n 3, 1), (43, .ifCond .eq 12, 3), (46, .iload 6, 2), (48, .iload_n 1, 1), (49, .bipush 6, 2), (51, .idiv, 1), (52, .if_icmp .ne 10, 3), (55, .iconst 1, 1), (56, .iload 5, 2), (58, .ishl, 1), (59, .goto 4, 3), (62, .iconst 0, 1), (63, .ior, 1), (64, .istore 4, 2), (66, .iinc 5 1, 3), (69, .goto (-63), 3), (72, .iload 4, 2), (74, .ireturn, 1)]
def M_Mo_hearers : MT := (t_Mo_hearers, P_Mo, [], [])
theorem T_Mo_hearers : TabOK i_Mo_hearers M_Mo_hearers := tab_ok (by decide +kernel)
theorem H_Mo_hearers : ThrOK i_Mo_hearers M_Mo_hearers := ⟨fa_n, rfl, fa_n⟩
def t_Mo_thing : List (Nat × Instr × Nat) := [(0, .aload_n 0, 1), (1, .iconst 0, 1), (2, .putfield 3, 3), (5, .aload_n 0, 1), (6, .aload_n 0, 1), (7, .iload_n 1, 1), (8, .invokevirtual 92, 3), (11, .iconst 1, 1), (12, .invokevirtual 265, 3), (15, .ifCond .ne 25, 3), (18, .aload_n 0, 1), (19, .iload_n 2, 1), (20, .iconst 0, 1), (21, .iconst 3, 1), (22, .invokestatic 88, 3), (25, .ifCond .ne 7, 3), (28, .iconst 1, 1), (29, .goto 4, 3), (32, .iconst 0, 1), (33, .iconst 2, 1), (34, .invokevirtual 265, 3), (37, .ifCond .eq 5, 3), (40, .iconst 0, 1), (41, .ireturn, 1), (42, .iload_n 2, 1), (43, .tableswitch 43 0 2 #[25, 31, 37], 25), (68, .aload_n 0, 1), (69, .iload_n 1, 1), (70, .invokevirtual 96, 3), (73, .ireturn, 1), (74, .aload_n 0, 1), (75, .iload_n 1, 1), (76, .invokevirtual 333, 3), (79, .ireturn, 1), (80, .aload_n 0, 1), (81, .iload_n 1, 1), (82, .invokevirtual 336, 3), (85, .ireturn, 1), (86, .aload_n 0, 1), (87, .iload_n 1, 1), (88, .invokevirtual 339, 3), (91, .ireturn, 1)]
def M_Mo_thing : MT := (t_Mo_thing, P_Mo, [], [])
theorem T_Mo_thing : TabOK i_Mo_thing M_Mo_thing := tab_ok (by decide +kernel)
theorem H_Mo_thing : ThrOK i_Mo_thing M_Mo_thing := ⟨fa_n, rfl, fa_n⟩
def t_Mo_leftOf : List (Nat × Instr × Nat) := [(0, .iconst 0, 1), (1, .istore_n 2, 1), (2, .iconst 0, 1), (3, .istore_n 3, 1), (4, .iload_n 3, 1), (5, .aload_n 0, 1), (6, .iload_n 1, 1), (7, .invokevirtual 96, 3), (10, .if_icmp .ge 26, 3), (13, .iload_n 2, 1), (14, .aload_n 0, 1), (15, .iload_n 1, 1), (16, .iload_n 3, 1), (17, .invokevirtual 319, 3), (20, .ifCond .eq 7, 3), (23, .iconst 0, 1), (24, .goto 4, 3), (27, .iconst 1, 1), (28, .iadd, 1), (29, .istore_n 2, 1), (30, .iinc 3 1, 3), (33, .goto (-29), 3), (36, .iload_n 2, 1), (37, .ireturn, 1)]
def M_Mo_leftOf : MT := (t_Mo_leftOf, P_Mo, [], [])
theorem T_Mo_leftOf : TabOK i_Mo_leftOf M_Mo_leftOf := tab_ok (by decide +kernel)
theorem H_Mo_leftOf : ThrOK i_Mo_leftOf M_Mo_leftOf := ⟨fa_n, rfl, fa_n⟩
def t_Mo_isSaid : List (Nat × Instr × Nat) := [(0, .aload_n 0, 1), (1, .getfield 59, 3), (4, .bipush 6, 2), (6, .iload_n 1, 1), (7, .imul, 1), (8, .iload_n 2, 1), (9, .iadd, 1), (10, .lshr, 1), (11, .lconst 1, 1), (12, .land, 1), (13, .lconst 1, 1), (14, .lcmp, 1), (15, .ifCond .ne 7, 3), (18, .iconst 1, 1), (19, .goto 4, 3), (22, .iconst 0, 1), (23, .ireturn, 1)]
def M_Mo_isSaid : MT := (t_Mo_isSaid, P_Mo, [], [])
theorem T_Mo_isSaid : TabOK i_Mo_isSaid M_Mo_isSaid := tab_ok (by decide +kernel)
theorem H_Mo_isSaid : ThrOK i_Mo_isSaid M_Mo_isSaid := ⟨fa_n, rfl, fa_n⟩
def t_Mo_knowers : List (Nat × Instr × Nat) := [(0, .iconst 0, 1), (1, .istore_n 2, 1), (2, .iconst 0, 1), (3, .istore_n 3, 1), (4, .iload_n 3, 1), (5, .aload_n 0, 1), (6, .invokevirtual 100, 3), (9, .if_icmp .ge 28, 3), (12, .iload_n 2, 1), (13, .aload_n 0, 1), (14, .iload_n 3, 1), (15, .iload_n 1, 1), (16, .invokevirtual 279, 3), (19, .ifCond .eq 9, 3), (22, .iconst 1, 1), (23, .iload_n 3, 1), (24, .ishl, 1), (25, .goto 4, 3), (28, .iconst 0, 1), (29, .ior, 1), (30, .istore_n 2, 1), (31, .iinc 3 1, 3), (34, .goto (-30), 3), (37, .iload_n 2, 1), (38, .ireturn, 1)]
def M_Mo_knowers : MT := (t_Mo_knowers, P_Mo, [], [])
theorem T_Mo_knowers : TabOK i_Mo_knowers M_Mo_knowers := tab_ok (by decide +kernel)
theorem H_Mo_knowers : ThrOK i_Mo_knowers M_Mo_knowers := ⟨fa_n, rfl, fa_n⟩
def t_Mo_sourcesOf : List (Nat × Instr × Nat) := [(0, .iconst 1, 1), (1, .aload_n 0, 1), (2, .invokevirtual 84, 3), (5, .ishl, 1), (6, .iconst 1, 1), (7, .isub, 1), (8, .iconst 1, 1), (9, .iload_n 1, 1), (10, .ishl, 1), (11, .iconst (-1), 1), (12, .ixor, 1), (13, .iand, 1), (14, .istore_n 2, 1), (15, .iconst (-1), 1), (16, .istore_n 3, 1), (17, .iload_n 2, 1), (18, .istore 4, 2), (20, .iload 4, 2), (22, .ifCond .lt 57, 3), (25, .iload 4, 2), (27, .iload_n 2, 1), (28, .iconst (-1), 1), (29, .ixor, 1), (30, .iand, 1), (31, .ifCond .ne 42, 3), (34, .iload_n 3, 1), (35, .ifCond .lt 18, 3), (38, .iload 4, 2), (40, .invokestatic 325, 3), (43, .iload_n 3, 1), (44, .invokestatic 325, 3), (47, .if_icmp .le 6, 3), (50, .goto 23, 3), (53, .aload_n 0, 1), (54, .iload 4, 2), (56, .invokevirtual 330, 3), (59, .iload_n 1, 1), (60, .invokestatic 80, 3), (63, .ifCond .eq 8, 3), (66, .iload 4, 2), (68, .goto 4, 3), (71, .iload_n 3, 1), (72, .istore_n 3, 1), (73, .iinc 4 (-1), 3), (76, .goto (-56), 3), (79, .iload_n 3, 1), (80, .ireturn, 1)]
def M_Mo_sourcesOf : MT := (t_Mo_sourcesOf, P_Mo, [], [])
theorem T_Mo_sourcesOf : TabOK i_Mo_sourcesOf M_Mo_sourcesOf := tab_ok (by decide +kernel)
theorem H_Mo_sourcesOf : ThrOK i_Mo_sourcesOf M_Mo_sourcesOf := ⟨fa_n, rfl, fa_n⟩
def t_Mo_closes : List (Nat × Instr × Nat) := [(0, .iload_n 1, 1), (1, .istore_n 2, 1), (2, .iconst (-1), 1), (3, .istore_n 3, 1), (4, .iload_n 2, 1), (5, .iload_n 3, 1), (6, .if_icmp .eq 70, 3), (9, .iload_n 2, 1), (10, .istore_n 3, 1), (11, .iconst 0, 1), (12, .istore 4, 2), (14, .iload 4, 2), (16, .aload_n 0, 1), (17, .invokevirtual 164, 3), (20, .if_icmp .ge 53, 3), (23, .iload_n 2, 1), (24, .iload_n 2, 1), (25, .aload_n 0, 1), (26, .iload 4, 2), (28, .iconst 0, 1), (29, .invokevirtual 322, 3), (32, .invokestatic 80, 3), (35, .ifCond .eq 29, 3), (38, .iload_n 2, 1), (39, .aload_n 0, 1), (40, .iload 4, 2), (42, .iconst 1, 1), (43, .invokevirtual 322, 3), (46, .invokestatic 80, 3), (49, .ifCond .eq 15, 3), (52, .iconst 1, 1), (53, .aload_n 0, 1), (54, .iload 4, 2), (56, .iconst 2, 1), (57, .invokevirtual 322, 3), (60, .ishl, 1), (61, .goto 4, 3), (64, .iconst 0, 1), (65, .ior, 1), (66, .istore_n 2, 1), (67, .iinc 4 1, 3), (70, .goto (-56), 3), (73, .goto (-69), 3), (76, .iload_n 2, 1), (77, .ireturn, 1)]
def M_Mo_closes : MT := (t_Mo_closes, P_Mo, [], [])
theorem T_Mo_closes : TabOK i_Mo_closes M_Mo_closes := tab_ok (by decide +kernel)
theorem H_Mo_closes : ThrOK i_Mo_closes M_Mo_closes := ⟨fa_n, rfl, fa_n⟩
def t_Mo_ofRule : List (Nat × Instr × Nat) := [(0, .aload_n 0, 1), (1, .getfield 13, 3), (4, .bipush 79, 2), (6, .iconst 3, 1), (7, .iload_n 1, 1), (8, .imul, 1), (9, .iadd, 1), (10, .iload_n 2, 1), (11, .iadd, 1), (12, .iaload, 1), (13, .ireturn, 1)]
def M_Mo_ofRule : MT := (t_Mo_ofRule, P_Mo, [], [])
theorem T_Mo_ofRule : TabOK i_Mo_ofRule M_Mo_ofRule := tab_ok (by decide +kernel)
theorem H_Mo_ofRule : ThrOK i_Mo_ofRule M_Mo_ofRule := ⟨fa_n, rfl, fa_n⟩
def t_Mo_person : List (Nat × Instr × Nat) := [(0, .aload_n 0, 1), (1, .iconst 0, 1), (2, .putfield 3, 3), (5, .aload_n 0, 1), (6, .aload_n 0, 1), (7, .iload_n 1, 1), (8, .invokevirtual 306, 3), (11, .iconst 1, 1), (12, .invokevirtual 265, 3), (15, .ifCond .ne 26, 3), (18, .aload_n 0, 1), (19, .iload_n 2, 1), (20, .iconst 0, 1), (21, .bipush 7, 2), (23, .invokestatic 88, 3), (26, .ifCond .ne 7, 3), (29, .iconst 1, 1), (30, .goto 4, 3), (33, .iconst 0, 1), (34, .iconst 2, 1), (35, .invokevirtual 265, 3), (38, .ifCond .eq 5, 3), (41, .iconst 0, 1), (42, .ireturn, 1), (43, .iload_n 2, 1), (44, .bipush 6, 2), (46, .if_icmp .ne 16, 3), (49, .aload_n 0, 1), (50, .aload_n 0, 1), (51, .iload_n 1, 1), (52, .iconst 4, 1), (53, .invokevirtual 77, 3), (56, .invokevirtual 330, 3), (59, .goto 23, 3), (62, .iload_n 2, 1), (63, .bipush 7, 2), (65, .if_icmp .ne 11, 3), (68, .aload_n 0, 1), (69, .iload_n 1, 1), (70, .invokevirtual 342, 3), (73, .goto 9, 3), (76, .aload_n 0, 1), (77, .iload_n 1, 1), (78, .iload_n 2, 1), (79, .invokevirtual 77, 3), (82, .ireturn, 1)]
def M_Mo_person : MT := (t_Mo_person, P_Mo, [], [])
theorem T_Mo_person : TabOK i_Mo_person M_Mo_person := tab_ok (by decide +kernel)
theorem H_Mo_person : ThrOK i_Mo_person M_Mo_person := ⟨fa_n, rfl, fa_n⟩
def t_Mo_lostBy : List (Nat × Instr × Nat) := [(0, .aload_n 0, 1), (1, .iload_n 1, 1), (2, .iconst 4, 1), (3, .invokevirtual 77, 3), (6, .istore_n 2, 1), (7, .iconst 0, 1), (8, .istore_n 3, 1), (9, .iload_n 3, 1), (10, .aload_n 0, 1), (11, .invokevirtual 100, 3), (14, .if_icmp .ge 37, 3), (17, .iload_n 2, 1), (18, .iload_n 3, 1), (19, .iload_n 1, 1), (20, .if_icmp .eq 11, 3), (23, .aload_n 0, 1), (24, .iload_n 3, 1), (25, .invokevirtual 293, 3), (28, .ifCond .ne 7, 3), (31, .iload_n 2, 1), (32, .goto 11, 3), (35, .aload_n 0, 1), (36, .iload_n 3, 1), (37, .iconst 4, 1), (38, .invokevirtual 77, 3), (41, .iconst (-1), 1), (42, .ixor, 1), (43, .iand, 1), (44, .istore_n 2, 1), (45, .iinc 3 1, 3), (48, .goto (-39), 3), (51, .iload_n 2, 1), (52, .ireturn, 1)]
def M_Mo_lostBy : MT := (t_Mo_lostBy, P_Mo, [], [])
theorem T_Mo_lostBy : TabOK i_Mo_lostBy M_Mo_lostBy := tab_ok (by decide +kernel)
theorem H_Mo_lostBy : ThrOK i_Mo_lostBy M_Mo_lostBy := ⟨fa_n, rfl, fa_n⟩
def t_Mo_rule : List (Nat × Instr × Nat) := [(0, .aload_n 0, 1), (1, .iconst 0, 1), (2, .putfield 3, 3), (5, .aload_n 0, 1), (6, .iload_n 2, 1), (7, .iconst 0, 1), (8, .iconst 2, 1), (9, .invokestatic 88, 3), (12, .ifCond .ne 7, 3), (15, .iconst 1, 1), (16, .goto 4, 3), (19, .iconst 0, 1), (20, .iconst 1, 1), (21, .invokevirtual 265, 3), (24, .ifCond .eq 5, 3), (27, .iconst 0, 1), (28, .ireturn, 1), (29, .iload_n 1, 1), (30, .iconst 0, 1), (31, .aload_n 0, 1), (32, .invokevirtual 164, 3), (35, .iconst 1, 1), (36, .isub, 1), (37, .invokestatic 88, 3), (40, .ifCond .eq 12, 3), (43, .aload_n 0, 1), (44, .iload_n 1, 1), (45, .iload_n 2, 1), (46, .invokevirtual 322, 3), (49, .goto 4, 3), (52, .iconst (-1), 1), (53, .ireturn, 1)]
def M_Mo_rule : MT := (t_Mo_rule, P_Mo, [], [])
theorem T_Mo_rule : TabOK i_Mo_rule M_Mo_rule := tab_ok (by decide +kernel)
theorem H_Mo_rule : ThrOK i_Mo_rule M_Mo_rule := ⟨fa_n, rfl, fa_n⟩
def t_Mo_store : List (Nat × Instr × Nat) := [(0, .aload_n 0, 1), (1, .iconst 0, 1), (2, .putfield 3, 3), (5, .aload_n 0, 1), (6, .getfield 59, 3), (9, .lreturn, 1)]
def M_Mo_store : MT := (t_Mo_store, P_Mo, [], [])
theorem T_Mo_store : TabOK i_Mo_store M_Mo_store := tab_ok (by decide +kernel)
theorem H_Mo_store : ThrOK i_Mo_store M_Mo_store := ⟨fa_n, rfl, fa_n⟩
def t_Mo_apart : List (Nat × Instr × Nat) := [(0, .aload_n 0, 1), (1, .iconst 0, 1), (2, .putfield 3, 3), (5, .aload_n 0, 1), (6, .aload_n 0, 1), (7, .iload_n 1, 1), (8, .invokevirtual 306, 3), (11, .ifCond .ne 11, 3), (14, .aload_n 0, 1), (15, .iload_n 2, 1), (16, .invokevirtual 306, 3), (19, .ifCond .eq 7, 3), (22, .iconst 1, 1), (23, .goto 4, 3), (26, .iconst 0, 1), (27, .iconst 1, 1), (28, .invokevirtual 265, 3), (31, .ifCond .ne 21, 3), (34, .aload_n 0, 1), (35, .iload_n 1, 1), (36, .iload_n 2, 1), (37, .if_icmp .ne 7, 3), (40, .iconst 1, 1), (41, .goto 4, 3), (44, .iconst 0, 1), (45, .iconst 2, 1), (46, .invokevirtual 265, 3), (49, .ifCond .eq 7, 3), (52, .iconst 0, 1), (53, .goto 9, 3), (56, .aload_n 0, 1), (57, .iload_n 1, 1), (58, .iload_n 2, 1), (59, .invokevirtual 276, 3), (62, .ireturn, 1)]
def M_Mo_apart : MT := (t_Mo_apart, P_Mo, [], [])
theorem T_Mo_apart : TabOK i_Mo_apart M_Mo_apart := tab_ok (by decide +kernel)
theorem H_Mo_apart : ThrOK i_Mo_apart M_Mo_apart := ⟨fa_n, rfl, fa_n⟩
def t_Mo_say : List (Nat × Instr × Nat) := [(0, .aload_n 0, 1), (1, .iconst 0, 1), (2, .putfield 3, 3), (5, .aload_n 0, 1), (6, .aload_n 0, 1), (7, .iload_n 1, 1), (8, .invokevirtual 306, 3), (11, .ifCond .ne 12, 3), (14, .aload_n 0, 1), (15, .iload_n 2, 1), (16, .iload_n 3, 1), (17, .invokevirtual 309, 3), (20, .ifCond .eq 7, 3), (23, .iconst 1, 1), (24, .goto 4, 3), (27, .iconst 0, 1), (28, .iconst 1, 1), (29, .invokevirtual 265, 3), (32, .ifCond .ne 26, 3), (35, .aload_n 0, 1), (36, .aload_n 0, 1), (37, .iload_n 1, 1), (38, .iload_n 2, 1), (39, .iload_n 3, 1), (40, .invokevirtual 361, 3), (43, .ifCond .ne 7, 3), (46, .iconst 1, 1), (47, .goto 4, 3), (50, .iconst 0, 1), (51, .iconst 2, 1), (52, .invokevirtual 265, 3), (55, .ifCond .eq 5, 3), (58, .iconst 0, 1), (59, .ireturn, 1), (60, .aload_n 0, 1), (61, .invokevirtual 364, 3), (64, .aload_n 0, 1), (65, .iload_n 1, 1), (66, .iload_n 2, 1), (67, .iload_n 3, 1), (68, .invokestatic 312, 3), (71, .invokevirtual 367, 3), (74, .ireturn, 1)]
def M_Mo_say : MT := (t_Mo_say, P_Mo, [], [])
theorem T_Mo_say : TabOK i_Mo_say M_Mo_say := tab_ok (by decide +kernel)
theorem H_Mo_say : ThrOK i_Mo_say M_Mo_say := ⟨fa_n, rfl, fa_n⟩
def t_Mo_canSay : List (Nat × Instr × Nat) := [(0, .aload_n 0, 1), (1, .iload_n 1, 1), (2, .invokevirtual 293, 3), (5, .ifCond .eq 25, 3), (8, .aload_n 0, 1), (9, .iload_n 1, 1), (10, .iload_n 2, 1), (11, .invokevirtual 279, 3), (14, .ifCond .eq 16, 3), (17, .aload_n 0, 1), (18, .iload_n 2, 1), (19, .iload_n 3, 1), (20, .invokevirtual 319, 3), (23, .ifCond .ne 7, 3), (26, .iconst 1, 1), (27, .goto 4, 3), (30, .iconst 0, 1), (31, .ireturn, 1)]
def M_Mo_canSay : MT := (t_Mo_canSay, P_Mo, [], [])
theorem T_Mo_canSay : TabOK i_Mo_canSay M_Mo_canSay := tab_ok (by decide +kernel)
theorem H_Mo_canSay : ThrOK i_Mo_canSay M_Mo_canSay := ⟨fa_n, rfl, fa_n⟩
def t_Mo_remembers : List (Nat × Instr × Nat) := [(0, .aload_n 0, 1), (1, .getfield 70, 3), (4, .bipush 12, 2), (6, .if_icmp .ne 65, 3), (9, .iconst 0, 1), (10, .istore_n 1, 1), (11, .iload_n 1, 1), (12, .sipush 11165, 3), (15, .if_icmp .ge 25, 3), (18, .aload_n 0, 1), (19, .getfield 26, 3), (22, .iload_n 1, 1), (23, .aload_n 0, 1), (24, .getfield 26, 3), (27, .iload_n 1, 1), (28, .sipush 1015, 3), (31, .iadd, 1), (32, .iaload, 1), (33, .iastore, 1), (34, .iinc 1 1, 3), (37, .goto (-26), 3), (40, .iconst 1, 1), (41, .istore_n 1, 1), (42, .iload_n 1, 1), (43, .bipush 12, 2), (45, .if_icmp .ge 23, 3), (48, .aload_n 0, 1), (49, .getfield 29, 3), (52, .iload_n 1, 1), (53, .iconst 1, 1), (54, .isub, 1), (55, .aload_n 0, 1), (56, .getfield 29, 3), (59, .iload_n 1, 1), (60, .laload, 1), (61, .lastore, 1), (62, .iinc 1 1, 3), (65, .goto (-23), 3), (68, .goto 13, 3), (71, .aload_n 0, 1), (72, .dup, 1), (73, .getfield 70, 3), (76, .iconst 1, 1), (77, .iadd, 1), (78, .putfield 70, 3), (81, .iconst 0, 1), (82, .istore_n 1, 1), (83, .iload_n 1, 1), (84, .sipush 1015, 3), (87, .if_icmp .ge 32, 3), (90, .aload_n 0, 1), (91, .getfield 26, 3), (94, .sipush 1015, 3), (97, .aload_n 0, 1), (98, .getfield 70, 3), (101, .iconst 1, 1), (102, .isub, 1), (103, .imul, 1), (104, .iload_n 1, 1), (105, .iadd, 1), (106, .aload_n 0, 1), (107, .getfield 13, 3), (110, .iload_n 1, 1), (111, .iaload, 1), (112, .iastore, 1), (113, .iinc 1 1, 3), (116, .goto (-33), 3), (119, .aload_n 0, 1), (120, .getfield 29, 3), (123, .aload_n 0, 1), (124, .getfield 70, 3), (127, .iconst 1, 1), (128, .isub, 1), (129, .aload_n 0, 1), (130, .getfield 59, 3), (133, .lastore, 1), (134, .return_, 1)]
def M_Mo_remembers : MT := (t_Mo_remembers, P_Mo, [], [])
theorem T_Mo_remembers : TabOK i_Mo_remembers M_Mo_remembers := tab_ok (by decide +kernel)
theorem H_Mo_remembers : ThrOK i_Mo_remembers M_Mo_remembers := ⟨fa_n, rfl, fa_n⟩
def t_Mo_says : List (Nat × Instr × Nat) := [(0, .aload_n 0, 1), (1, .dup, 1), (2, .getfield 59, 3), (5, .lconst 1, 1), (6, .iload_n 2, 1), (7, .lshl, 1), (8, .lor, 1), (9, .putfield 59, 3), (12, .aload_n 0, 1), (13, .bipush 100, 2), (15, .invokevirtual 348, 3), (18, .aload_n 0, 1), (19, .iload_n 1, 1), (20, .iconst 3, 1), (21, .invokevirtual 77, 3), (24, .if_icmp .ge 7, 3), (27, .iconst 1, 1), (28, .goto 4, 3), (31, .iconst 0, 1), (32, .istore_n 3, 1), (33, .iconst 0, 1), (34, .istore 4, 2), (36, .iload 4, 2), (38, .aload_n 0, 1), (39, .invokevirtual 100, 3), (42, .if_icmp .ge 38, 3), (45, .aload_n 0, 1), (46, .getfield 46, 3), (49, .iload 4, 2), (51, .iload_n 3, 1), (52, .ifCond .ne 9, 3), (55, .iload 4, 2), (57, .iload_n 1, 1), (58, .if_icmp .ne 7, 3), (61, .iconst (-1), 1), (62, .goto 11, 3), (65, .aload_n 0, 1), (66, .iload_n 2, 1), (67, .iload_n 1, 1), (68, .iload 4, 2), (70, .invokevirtual 303, 3), (73, .iastore, 1), (74, .iinc 4 1, 3), (77, .goto (-41), 3), (80, .aload_n 0, 1), (81, .iload_n 1, 1), (82, .iload_n 2, 1), (83, .iload_n 3, 1), (84, .invokevirtual 351, 3), (87, .iconst 0, 1), (88, .istore 4, 2), (90, .iload 4, 2), (92, .aload_n 0, 1), (93, .invokevirtual 100, 3), (96, .if_icmp .ge 32, 3), (99, .aload_n 0, 1), (100, .getfield 46, 3), (103, .iload 4, 2), (105, .iaload, 1), (106, .ifCond .lt 16, 3), (109, .aload_n 0, 1), (110, .iload 4, 2), (112, .aload_n 0, 1), (113, .getfield 46, 3), (116, .iload 4, 2), (118, .iaload, 1), (119, .invokevirtual 355, 3), (122, .iinc 4 1, 3), (125, .goto (-35), 3), (128, .aload_n 0, 1), (129, .iconst 0, 1), (130, .iconst 3, 1), (131, .invokevirtual 358, 3), (134, .ireturn, 1)]
def M_Mo_says : MT := (t_Mo_says, P_Mo, [], [])
theorem T_Mo_says : TabOK i_Mo_says M_Mo_says := tab_ok (by decide +kernel)
theorem H_Mo_says : ThrOK i_Mo_says M_Mo_says := ⟨fa_n, rfl, fa_n⟩
def t_Mo_draw : List (Nat × Instr × Nat) := [(0, .aload_n 0, 1), (1, .getfield 13, 3), (4, .bipush 8, 2), (6, .ldc 103, 2), (8, .aload_n 0, 1), (9, .getfield 13, 3), (12, .bipush 8, 2), (14, .iaload, 1), (15, .imul, 1), (16, .sipush 12345, 3), (19, .iadd, 1), (20, .iastore, 1), (21, .aload_n 0, 1), (22, .getfield 13, 3), (25, .bipush 8, 2), (27, .iaload, 1), (28, .bipush 16, 2), (30, .ishr, 1), (31, .sipush 32767, 3), (34, .iand, 1), (35, .iload_n 1, 1), (36, .irem, 1), (37, .ireturn, 1)]
def M_Mo_draw : MT := (t_Mo_draw, P_Mo, [], [])
theorem T_Mo_draw : TabOK i_Mo_draw M_Mo_draw := tab_ok (by decide +kernel)
theorem H_Mo_draw : ThrOK i_Mo_draw M_Mo_draw := ⟨fa_n, rfl, fa_n⟩
def t_Mo_tells : List (Nat × Instr × Nat) := [(0, .sipush 899, 3), (3, .istore 4, 2), (5, .iload 4, 2), (7, .bipush 15, 2), (9, .if_icmp .lt 32, 3), (12, .aload_n 0, 1), (13, .getfield 13, 3), (16, .bipush 115, 2), (18, .iload 4, 2), (20, .iadd, 1), (21, .aload_n 0, 1), (22, .getfield 13, 3), (25, .bipush 115, 2), (27, .iload 4, 2), (29, .iadd, 1), (30, .bipush 15, 2), (32, .isub, 1), (33, .iaload, 1), (34, .iastore, 1), (35, .iinc 4 (-1), 3), (38, .goto (-33), 3), (41, .aload_n 0, 1), (42, .getfield 13, 3), (45, .bipush 115, 2), (47, .aload_n 0, 1), (48, .getfield 13, 3), (51, .iconst 5, 1), (52, .iaload, 1), (53, .iastore, 1), (54, .aload_n 0, 1), (55, .getfield 13, 3), (58, .bipush 116, 2), (60, .iload_n 1, 1), (61, .iastore, 1), (62, .aload_n 0, 1), (63, .getfield 13, 3), (66, .bipush 117, 2), (68, .iload_n 2, 1), (69, .iastore, 1), (70, .aload_n 0, 1), (71, .getfield 13, 3), (74, .bipush 118, 2), (76, .iconst 0, 1), (77, .iastore, 1), (78, .aload_n 0, 1), (79, .getfield 13, 3), (82, .bipush 119, 2), (84, .iload_n 3, 1), (85, .ifCond .eq 7, 3), (88, .iconst 1, 1), (89, .goto 4, 3), (92, .iconst 0, 1), (93, .iastore, 1), (94, .iconst 0, 1), (95, .istore 4, 2), (97, .iload 4, 2), (99, .bipush 10, 2), (101, .if_icmp .ge 20, 3), (104, .aload_n 0, 1), (105, .getfield 13, 3), (108, .bipush 120, 2), (110, .iload 4, 2), (112, .iadd, 1), (113, .iconst (-1), 1), (114, .iastore, 1), (115, .iinc 4 1, 3), (118, .goto (-21), 3), (121, .aload_n 0, 1), (122, .getfield 13, 3), (125, .bipush 7, 2), (127, .bipush 60, 2), (129, .aload_n 0, 1), (130, .getfield 13, 3), (133, .bipush 7, 2), (135, .iaload, 1), (136, .iconst 1, 1), (137, .iadd, 1), (138, .invokestatic 345, 3), (141, .iastore, 1), (142, .return_, 1)]
def M_Mo_tells : MT := (t_Mo_tells, P_Mo, [], [])
theorem T_Mo_tells : TabOK i_Mo_tells M_Mo_tells := tab_ok (by decide +kernel)
theorem H_Mo_tells : ThrOK i_Mo_tells M_Mo_tells := ⟨fa_n, rfl, fa_n⟩
def t_Mo_learns : List (Nat × Instr × Nat) := [(0, .aload_n 0, 1), (1, .iload_n 1, 1), (2, .iload_n 2, 1), (3, .invokevirtual 279, 3), (6, .ifCond .eq 4, 3), (9, .return_, 1), (10, .aload_n 0, 1), (11, .getfield 13, 3), (14, .iload_n 1, 1), (15, .iconst 4, 1), (16, .invokestatic 73, 3), (19, .dup2, 1), (20, .iaload, 1), (21, .iconst 1, 1), (22, .iload_n 2, 1), (23, .ishl, 1), (24, .ior, 1), (25, .iastore, 1), (26, .aload_n 0, 1), (27, .getfield 13, 3), (30, .bipush 118, 2), (32, .dup2, 1), (33, .iaload, 1), (34, .iconst 1, 1), (35, .iload_n 1, 1), (36, .ishl, 1), (37, .ior, 1), (38, .iastore, 1), (39, .aload_n 0, 1), (40, .getfield 13, 3), (43, .bipush 120, 2), (45, .iload_n 1, 1), (46, .iadd, 1), (47, .iload_n 2, 1), (48, .iastore, 1), (49, .return_, 1)]
def M_Mo_learns : MT := (t_Mo_learns, P_Mo, [], [])
theorem T_Mo_learns : TabOK i_Mo_learns M_Mo_learns := tab_ok (by decide +kernel)
theorem H_Mo_learns : ThrOK i_Mo_learns M_Mo_learns := ⟨fa_n, rfl, fa_n⟩
def t_Mo_ofLog : List (Nat × Instr × Nat) := [(0, .aload_n 0, 1), (1, .getfield 13, 3), (4, .bipush 115, 2), (6, .bipush 15, 2), (8, .iload_n 1, 1), (9, .imul, 1), (10, .iadd, 1), (11, .iload_n 2, 1), (12, .iadd, 1), (13, .iaload, 1), (14, .ireturn, 1)]
def M_Mo_ofLog : MT := (t_Mo_ofLog, P_Mo, [], [])
theorem T_Mo_ofLog : TabOK i_Mo_ofLog M_Mo_ofLog := tab_ok (by decide +kernel)
theorem H_Mo_ofLog : ThrOK i_Mo_ofLog M_Mo_ofLog := ⟨fa_n, rfl, fa_n⟩
def t_Mo_think : List (Nat × Instr × Nat) := [(0, .aload_n 0, 1), (1, .iconst 0, 1), (2, .putfield 3, 3), (5, .aload_n 0, 1), (6, .aload_n 0, 1), (7, .iload_n 1, 1), (8, .invokevirtual 306, 3), (11, .iconst 1, 1), (12, .invokevirtual 265, 3), (15, .ifCond .eq 5, 3), (18, .iconst 0, 1), (19, .ireturn, 1), (20, .aload_n 0, 1), (21, .invokevirtual 364, 3), (24, .aload_n 0, 1), (25, .iload_n 1, 1), (26, .iconst 4, 1), (27, .invokevirtual 77, 3), (30, .istore_n 2, 1), (31, .aload_n 0, 1), (32, .getfield 13, 3), (35, .iload_n 1, 1), (36, .iconst 4, 1), (37, .invokestatic 73, 3), (40, .aload_n 0, 1), (41, .iload_n 2, 1), (42, .invokevirtual 330, 3), (45, .iastore, 1), (46, .aload_n 0, 1), (47, .iload_n 1, 1), (48, .iconst 4, 1), (49, .invokevirtual 77, 3), (52, .iload_n 2, 1), (53, .iconst (-1), 1), (54, .ixor, 1), (55, .iand, 1), (56, .ireturn, 1)]
def M_Mo_think : MT := (t_Mo_think, P_Mo, [], [])
theorem T_Mo_think : TabOK i_Mo_think M_Mo_think := tab_ok (by decide +kernel)
theorem H_Mo_think : ThrOK i_Mo_think M_Mo_think := ⟨fa_n, rfl, fa_n⟩
def t_Mo_away : List (Nat × Instr × Nat) := [(0, .aload_n 0, 1), (1, .iconst 0, 1), (2, .putfield 3, 3), (5, .aload_n 0, 1), (6, .aload_n 0, 1), (7, .iload_n 1, 1), (8, .invokevirtual 306, 3), (11, .iconst 1, 1), (12, .invokevirtual 265, 3), (15, .ifCond .eq 5, 3), (18, .iconst 0, 1), (19, .ireturn, 1), (20, .aload_n 0, 1), (21, .invokevirtual 364, 3), (24, .aload_n 0, 1), (25, .iload_n 1, 1), (26, .invokevirtual 293, 3), (29, .ifCond .ne 7, 3), (32, .iconst 1, 1), (33, .goto 4, 3), (36, .iconst 0, 1), (37, .istore_n 3, 1), (38, .aload_n 0, 1), (39, .getfield 13, 3), (42, .iload_n 1, 1), (43, .iconst 5, 1), (44, .invokestatic 73, 3), (47, .iload_n 2, 1), (48, .ifCond .eq 7, 3), (51, .iconst 1, 1), (52, .goto 4, 3), (55, .iconst 0, 1), (56, .iastore, 1), (57, .iload_n 3, 1), (58, .iload_n 2, 1), (59, .if_icmp .eq 7, 3), (62, .iconst 1, 1), (63, .goto 4, 3), (66, .iconst 0, 1), (67, .ireturn, 1)]
def M_Mo_away : MT := (t_Mo_away, P_Mo, [], [])
theorem T_Mo_away : TabOK i_Mo_away M_Mo_away := tab_ok (by decide +kernel)
theorem H_Mo_away : ThrOK i_Mo_away M_Mo_away := ⟨fa_n, rfl, fa_n⟩
def t_Mo_change : List (Nat × Instr × Nat) := [(0, .aload_n 0, 1), (1, .iconst 0, 1), (2, .putfield 3, 3), (5, .aload_n 0, 1), (6, .aload_n 0, 1), (7, .iload_n 1, 1), (8, .invokevirtual 306, 3), (11, .ifCond .ne 11, 3), (14, .aload_n 0, 1), (15, .iload_n 2, 1), (16, .invokevirtual 306, 3), (19, .ifCond .eq 7, 3), (22, .iconst 1, 1), (23, .goto 4, 3), (26, .iconst 0, 1), (27, .iconst 1, 1), (28, .invokevirtual 265, 3), (31, .ifCond .ne 21, 3), (34, .aload_n 0, 1), (35, .iload_n 1, 1), (36, .iload_n 2, 1), (37, .if_icmp .ne 7, 3), (40, .iconst 1, 1), (41, .goto 4, 3), (44, .iconst 0, 1), (45, .iconst 2, 1), (46, .invokevirtual 265, 3), (49, .ifCond .eq 5, 3), (52, .iconst 0, 1), (53, .ireturn, 1), (54, .aload_n 0, 1), (55, .invokevirtual 364, 3), (58, .aload_n 0, 1), (59, .iload_n 1, 1), (60, .iload_n 2, 1), (61, .invokevirtual 370, 3), (64, .aload_n 0, 1), (65, .iload_n 1, 1), (66, .iload_n 2, 1), (67, .invokevirtual 276, 3), (70, .ireturn, 1)]
def M_Mo_change : MT := (t_Mo_change, P_Mo, [], [])
theorem T_Mo_change : TabOK i_Mo_change M_Mo_change := tab_ok (by decide +kernel)
theorem H_Mo_change : ThrOK i_Mo_change M_Mo_change := ⟨fa_n, rfl, fa_n⟩
def t_Mo_trades : List (Nat × Instr × Nat) := [(0, .iconst 0, 1), (1, .istore_n 3, 1), (2, .iload_n 3, 1), (3, .iconst 1, 1), (4, .if_icmp .gt 45, 3), (7, .aload_n 0, 1), (8, .iload_n 1, 1), (9, .iload_n 3, 1), (10, .invokevirtual 77, 3), (13, .istore 4, 2), (15, .aload_n 0, 1), (16, .getfield 13, 3), (19, .iload_n 1, 1), (20, .iload_n 3, 1), (21, .invokestatic 73, 3), (24, .aload_n 0, 1), (25, .iload_n 2, 1), (26, .iload_n 3, 1), (27, .invokevirtual 77, 3), (30, .iastore, 1), (31, .aload_n 0, 1), (32, .getfield 13, 3), (35, .iload_n 2, 1), (36, .iload_n 3, 1), (37, .invokestatic 73, 3), (40, .iload 4, 2), (42, .iastore, 1), (43, .iinc 3 1, 3), (46, .goto (-44), 3), (49, .return_, 1)]
def M_Mo_trades : MT := (t_Mo_trades, P_Mo, [], [])
theorem T_Mo_trades : TabOK i_Mo_trades M_Mo_trades := tab_ok (by decide +kernel)
theorem H_Mo_trades : ThrOK i_Mo_trades M_Mo_trades := ⟨fa_n, rfl, fa_n⟩
def t_Mo_day : List (Nat × Instr × Nat) := [(0, .aload_n 0, 1), (1, .iconst 0, 1), (2, .putfield 3, 3), (5, .aload_n 0, 1), (6, .invokevirtual 364, 3), (9, .aload_n 0, 1), (10, .invokevirtual 100, 3), (13, .aload_n 0, 1), (14, .invokevirtual 373, 3), (17, .invokestatic 325, 3), (20, .isub, 1), (21, .istore_n 1, 1), (22, .iconst 0, 1), (23, .istore_n 2, 1), (24, .iload_n 2, 1), (25, .aload_n 0, 1), (26, .invokevirtual 100, 3), (29, .if_icmp .ge 20, 3), (32, .aload_n 0, 1), (33, .getfield 13, 3), (36, .iload_n 2, 1), (37, .iconst 5, 1), (38, .invokestatic 73, 3), (41, .iconst 0, 1), (42, .iastore, 1), (43, .iinc 2 1, 3), (46, .goto (-22), 3), (49, .aload_n 0, 1), (50, .getfield 13, 3), (53, .iconst 5, 1), (54, .dup2, 1), (55, .iaload, 1), (56, .iconst 1, 1), (57, .iadd, 1), (58, .iastore, 1), (59, .iload_n 1, 1), (60, .ireturn, 1)]
def M_Mo_day : MT := (t_Mo_day, P_Mo, [], [])
theorem T_Mo_day : TabOK i_Mo_day M_Mo_day := tab_ok (by decide +kernel)
theorem H_Mo_day : ThrOK i_Mo_day M_Mo_day := ⟨fa_n, rfl, fa_n⟩
def t_Mo_here : List (Nat × Instr × Nat) := [(0, .iconst 0, 1), (1, .istore_n 1, 1), (2, .iconst 0, 1), (3, .istore_n 2, 1), (4, .iload_n 2, 1), (5, .aload_n 0, 1), (6, .invokevirtual 100, 3), (9, .if_icmp .ge 27, 3), (12, .iload_n 1, 1), (13, .aload_n 0, 1), (14, .iload_n 2, 1), (15, .invokevirtual 293, 3), (18, .ifCond .eq 9, 3), (21, .iconst 1, 1), (22, .iload_n 2, 1), (23, .ishl, 1), (24, .goto 4, 3), (27, .iconst 0, 1), (28, .ior, 1), (29, .istore_n 1, 1), (30, .iinc 2 1, 3), (33, .goto (-29), 3), (36, .iload_n 1, 1), (37, .ireturn, 1)]
def M_Mo_here : MT := (t_Mo_here, P_Mo, [], [])
theorem T_Mo_here : TabOK i_Mo_here M_Mo_here := tab_ok (by decide +kernel)
theorem H_Mo_here : ThrOK i_Mo_here M_Mo_here := ⟨fa_n, rfl, fa_n⟩
def t_Mo_term : List (Nat × Instr × Nat) := [(0, .aload_n 0, 1), (1, .iconst 0, 1), (2, .putfield 3, 3), (5, .aload_n 0, 1), (6, .iload_n 1, 1), (7, .iconst 0, 1), (8, .bipush 40, 2), (10, .invokestatic 88, 3), (13, .ifCond .ne 7, 3), (16, .iconst 1, 1), (17, .goto 4, 3), (20, .iconst 0, 1), (21, .iconst 1, 1), (22, .invokevirtual 265, 3), (25, .ifCond .eq 5, 3), (28, .iconst 0, 1), (29, .ireturn, 1), (30, .aload_n 0, 1), (31, .invokevirtual 364, 3), (34, .aload_n 0, 1), (35, .iload_n 1, 1), (36, .invokevirtual 379, 3), (39, .ireturn, 1)]
def M_Mo_term : MT := (t_Mo_term, P_Mo, [], [])
theorem T_Mo_term : TabOK i_Mo_term M_Mo_term := tab_ok (by decide +kernel)
theorem H_Mo_term : ThrOK i_Mo_term M_Mo_term := ⟨fa_n, rfl, fa_n⟩
def t_Mo_sayings : List (Nat × Instr × Nat) := [(0, .iconst 0, 1), (1, .istore_n 2, 1), (2, .iconst 0, 1), (3, .istore_n 3, 1), (4, .iload_n 3, 1), (5, .iload_n 1, 1), (6, .if_icmp .ge 89, 3), (9, .aload_n 0, 1), (10, .invokevirtual 100, 3), (13, .ifCond .le 82, 3), (16, .aload_n 0, 1), (17, .invokevirtual 84, 3), (20, .ifCond .le 75, 3), (23, .aload_n 0, 1), (24, .aload_n 0, 1), (25, .invokevirtual 100, 3), (28, .invokevirtual 348, 3), (31, .istore 4, 2), (33, .aload_n 0, 1), (34, .aload_n 0, 1), (35, .invokevirtual 84, 3), (38, .invokevirtual 348, 3), (41, .istore 5, 2), (43, .aload_n 0, 1), (44, .iload 5, 2), (46, .invokevirtual 376, 3), (49, .istore 6, 2), (51, .iload 6, 2), (53, .ifCond .lt 36, 3), (56, .aload_n 0, 1), (57, .iload 4, 2), (59, .iload 5, 2), (61, .iload 6, 2), (63, .invokevirtual 361, 3), (66, .ifCond .ne 6, 3), (69, .goto 20, 3), (72, .aload_n 0, 1), (73, .iload 4, 2), (75, .iload 5, 2), (77, .iload 6, 2), (79, .invokestatic 312, 3), (82, .invokevirtual 367, 3), (85, .pop, 1), (86, .iinc 2 1, 3), (89, .iinc 3 1, 3), (92, .goto (-88), 3), (95, .iload_n 2, 1), (96, .ireturn, 1)]
def M_Mo_sayings : MT := (t_Mo_sayings, P_Mo, [], [])
theorem T_Mo_sayings : TabOK i_Mo_sayings M_Mo_sayings := tab_ok (by decide +kernel)
theorem H_Mo_sayings : ThrOK i_Mo_sayings M_Mo_sayings := ⟨fa_n, rfl, fa_n⟩
def t_Mo_firstLeft : List (Nat × Instr × Nat) := [(0, .iconst 0, 1), (1, .istore_n 2, 1), (2, .iload_n 2, 1), (3, .aload_n 0, 1), (4, .iload_n 1, 1), (5, .invokevirtual 96, 3), (8, .if_icmp .ge 20, 3), (11, .aload_n 0, 1), (12, .iload_n 1, 1), (13, .iload_n 2, 1), (14, .invokevirtual 319, 3), (17, .ifCond .ne 5, 3), (20, .iload_n 2, 1), (21, .ireturn, 1), (22, .iinc 2 1, 3), (25, .goto (-23), 3), (28, .iconst (-1), 1), (29, .ireturn, 1)]
def M_Mo_firstLeft : MT := (t_Mo_firstLeft, P_Mo, [], [])
theorem T_Mo_firstLeft : TabOK i_Mo_firstLeft M_Mo_firstLeft := tab_ok (by decide +kernel)
theorem H_Mo_firstLeft : ThrOK i_Mo_firstLeft M_Mo_firstLeft := ⟨fa_n, rfl, fa_n⟩
def t_Mo_sayable : List (Nat × Instr × Nat) := [(0, .aload_n 0, 1), (1, .iconst 0, 1), (2, .putfield 3, 3), (5, .aload_n 0, 1), (6, .invokevirtual 382, 3), (9, .aload_n 0, 1), (10, .invokevirtual 385, 3), (13, .iconst (-1), 1), (14, .ixor, 1), (15, .iand, 1), (16, .ireturn, 1)]
def M_Mo_sayable : MT := (t_Mo_sayable, P_Mo, [], [])
theorem T_Mo_sayable : TabOK i_Mo_sayable M_Mo_sayable := tab_ok (by decide +kernel)
theorem H_Mo_sayable : ThrOK i_Mo_sayable M_Mo_sayable := ⟨fa_n, rfl, fa_n⟩
def t_Mo_knownHere : List (Nat × Instr × Nat) := [(0, .iconst 0, 1), (1, .istore_n 1, 1), (2, .iconst 0, 1), (3, .istore_n 2, 1), (4, .iload_n 2, 1), (5, .aload_n 0, 1), (6, .invokevirtual 100, 3), (9, .if_icmp .ge 30, 3), (12, .iload_n 1, 1), (13, .aload_n 0, 1), (14, .iload_n 2, 1), (15, .invokevirtual 293, 3), (18, .ifCond .eq 12, 3), (21, .aload_n 0, 1), (22, .iload_n 2, 1), (23, .iconst 4, 1), (24, .invokevirtual 77, 3), (27, .goto 4, 3), (30, .iconst 0, 1), (31, .ior, 1), (32, .istore_n 1, 1), (33, .iinc 2 1, 3), (36, .goto (-32), 3), (39, .iload_n 1, 1), (40, .ireturn, 1)]
def M_Mo_knownHere : MT := (t_Mo_knownHere, P_Mo, [], [])
theorem T_Mo_knownHere : TabOK i_Mo_knownHere M_Mo_knownHere := tab_ok (by decide +kernel)
theorem H_Mo_knownHere : ThrOK i_Mo_knownHere M_Mo_knownHere := ⟨fa_n, rfl, fa_n⟩
def t_Mo_silentThings : List (Nat × Instr × Nat) := [(0, .iconst 0, 1), (1, .istore_n 1, 1), (2, .iconst 0, 1), (3, .istore_n 2, 1), (4, .iload_n 2, 1), (5, .aload_n 0, 1), (6, .invokevirtual 84, 3), (9, .if_icmp .ge 27, 3), (12, .iload_n 1, 1), (13, .aload_n 0, 1), (14, .iload_n 2, 1), (15, .invokevirtual 333, 3), (18, .ifCond .ne 9, 3), (21, .iconst 1, 1), (22, .iload_n 2, 1), (23, .ishl, 1), (24, .goto 4, 3), (27, .iconst 0, 1), (28, .ior, 1), (29, .istore_n 1, 1), (30, .iinc 2 1, 3), (33, .goto (-29), 3), (36, .iload_n 1, 1), (37, .ireturn, 1)]
def M_Mo_silentThings : MT := (t_Mo_silentThings, P_Mo, [], [])
theorem T_Mo_silentThings : TabOK i_Mo_silentThings M_Mo_silentThings := tab_ok (by decide +kernel)
theorem H_Mo_silentThings : ThrOK i_Mo_silentThings M_Mo_silentThings := ⟨fa_n, rfl, fa_n⟩
def t_Mo_dumb : List (Nat × Instr × Nat) := [(0, .aload_n 0, 1), (1, .iconst 0, 1), (2, .putfield 3, 3), (5, .aload_n 0, 1), (6, .invokevirtual 385, 3), (9, .istore_n 1, 1), (10, .iconst 0, 1), (11, .istore_n 2, 1), (12, .iconst 0, 1), (13, .istore_n 3, 1), (14, .iload_n 3, 1), (15, .aload_n 0, 1), (16, .invokevirtual 100, 3), (19, .if_icmp .ge 40, 3), (22, .iload_n 2, 1), (23, .aload_n 0, 1), (24, .iload_n 3, 1), (25, .invokevirtual 293, 3), (28, .ifCond .eq 16, 3), (31, .aload_n 0, 1), (32, .iload_n 3, 1), (33, .iconst 4, 1), (34, .invokevirtual 77, 3), (37, .iload_n 1, 1), (38, .iconst (-1), 1), (39, .ixor, 1), (40, .iand, 1), (41, .ifCond .ne 9, 3), (44, .iconst 1, 1), (45, .iload_n 3, 1), (46, .ishl, 1), (47, .goto 4, 3), (50, .iconst 0, 1), (51, .ior, 1), (52, .istore_n 2, 1), (53, .iinc 3 1, 3), (56, .goto (-42), 3), (59, .iload_n 2, 1), (60, .ireturn, 1)]
def M_Mo_dumb : MT := (t_Mo_dumb, P_Mo, [], [])
theorem T_Mo_dumb : TabOK i_Mo_dumb M_Mo_dumb := tab_ok (by decide +kernel)
theorem H_Mo_dumb : ThrOK i_Mo_dumb M_Mo_dumb := ⟨fa_n, rfl, fa_n⟩
def t_Mo_silent : List (Nat × Instr × Nat) := [(0, .aload_n 0, 1), (1, .iconst 0, 1), (2, .putfield 3, 3), (5, .aload_n 0, 1), (6, .invokevirtual 385, 3), (9, .ireturn, 1)]
def M_Mo_silent : MT := (t_Mo_silent, P_Mo, [], [])
theorem T_Mo_silent : TabOK i_Mo_silent M_Mo_silent := tab_ok (by decide +kernel)
theorem H_Mo_silent : ThrOK i_Mo_silent M_Mo_silent := ⟨fa_n, rfl, fa_n⟩
def t_Mo_plan : List (Nat × Instr × Nat) := [(0, .aload_n 0, 1), (1, .iconst 0, 1), (2, .putfield 3, 3), (5, .aload_n 0, 1), (6, .aload_n 0, 1), (7, .iload_n 1, 1), (8, .invokevirtual 92, 3), (11, .iconst 1, 1), (12, .invokevirtual 265, 3), (15, .ifCond .eq 5, 3), (18, .iconst 0, 1), (19, .ireturn, 1), (20, .aload_n 0, 1), (21, .iload_n 1, 1), (22, .invokevirtual 410, 3), (25, .istore_n 3, 1), (26, .iload_n 3, 1), (27, .bipush 99, 2), (29, .if_icmp .lt 7, 3), (32, .iconst (-1), 1), (33, .goto 24, 3), (36, .iload_n 2, 1), (37, .ifCond .ne 7, 3), (40, .iload_n 3, 1), (41, .goto 16, 3), (44, .iload_n 3, 1), (45, .ifCond .ne 7, 3), (48, .iconst (-1), 1), (49, .goto 8, 3), (52, .aload_n 0, 1), (53, .iload_n 1, 1), (54, .invokevirtual 413, 3), (57, .ireturn, 1)]
def M_Mo_plan : MT := (t_Mo_plan, P_Mo, [], [])
theorem T_Mo_plan : TabOK i_Mo_plan M_Mo_plan := tab_ok (by decide +kernel)
theorem H_Mo_plan : ThrOK i_Mo_plan M_Mo_plan := ⟨fa_n, rfl, fa_n⟩
def t_Mo_plans : List (Nat × Instr × Nat) := [(0, .aload_n 0, 1), (1, .iload_n 1, 1), (2, .invokevirtual 400, 3), (5, .aload_n 0, 1), (6, .iload_n 1, 1), (7, .invokevirtual 404, 3), (10, .istore_n 2, 1), (11, .aload_n 0, 1), (12, .iload_n 1, 1), (13, .invokevirtual 336, 3), (16, .istore_n 3, 1), (17, .bipush 63, 2), (19, .istore 4, 2), (21, .iload 4, 2), (23, .iload_n 2, 1), (24, .if_icmp .lt 106, 3), (27, .iconst 1, 1), (28, .aload_n 0, 1), (29, .invokevirtual 100, 3), (32, .ishl, 1), (33, .iconst 1, 1), (34, .isub, 1), (35, .istore 5, 2), (37, .iload 5, 2), (39, .iload_n 3, 1), (40, .if_icmp .lt 84, 3), (43, .iload_n 2, 1), (44, .iload 4, 2), (46, .iconst (-1), 1), (47, .ixor, 1), (48, .iand, 1), (49, .ifCond .ne 69, 3), (52, .iload_n 3, 1), (53, .iload 5, 2), (55, .iconst (-1), 1), (56, .ixor, 1), (57, .iand, 1), (58, .ifCond .eq 6, 3), (61, .goto 57, 3), (64, .aload_n 0, 1), (65, .invokevirtual 373, 3), (68, .iload 5, 2), (70, .iconst (-1), 1), (71, .ixor, 1), (72, .iand, 1), (73, .ifCond .ne 7, 3), (76, .iconst 1, 1), (77, .goto 4, 3), (80, .iconst 0, 1), (81, .istore 6, 2), (83, .aload_n 0, 1), (84, .getfield 53, 3), (87, .iload 4, 2), (89, .iload 5, 2), (91, .invokestatic 391, 3), (94, .iload 6, 2), (96, .ifCond .eq 7, 3), (99, .iconst 0, 1), (100, .goto 16, 3), (103, .bipush 99, 2), (105, .aload_n 0, 1), (106, .iload 4, 2), (108, .iload 5, 2), (110, .invokevirtual 407, 3), (113, .invokestatic 345, 3), (116, .i2b, 1), (117, .bastore, 1), (118, .iinc 5 (-1), 3), (121, .goto (-84), 3), (124, .iinc 4 (-1), 3), (127, .goto (-106), 3), (130, .aload_n 0, 1), (131, .getfield 53, 3), (134, .iload_n 2, 1), (135, .iload_n 3, 1), (136, .invokestatic 391, 3), (139, .baload, 1), (140, .ireturn, 1)]
def M_Mo_plans : MT := (t_Mo_plans, P_Mo, [], [])
theorem T_Mo_plans : TabOK i_Mo_plans M_Mo_plans := tab_ok (by decide +kernel)
theorem H_Mo_plans : ThrOK i_Mo_plans M_Mo_plans := ⟨fa_n, rfl, fa_n⟩
def t_Mo_laysRight : List (Nat × Instr × Nat) := [(0, .iconst 0, 1), (1, .istore_n 2, 1), (2, .iload_n 2, 1), (3, .aload_n 0, 1), (4, .invokevirtual 100, 3), (7, .if_icmp .ge 55, 3), (10, .iconst 0, 1), (11, .istore_n 3, 1), (12, .iload_n 3, 1), (13, .aload_n 0, 1), (14, .iload_n 1, 1), (15, .invokevirtual 96, 3), (18, .if_icmp .ge 38, 3), (21, .aload_n 0, 1), (22, .getfield 49, 3), (25, .iload_n 2, 1), (26, .iload_n 3, 1), (27, .invokestatic 388, 3), (30, .aload_n 0, 1), (31, .iload_n 1, 1), (32, .iload_n 3, 1), (33, .invokestatic 312, 3), (36, .iload_n 2, 1), (37, .iconst 1, 1), (38, .invokevirtual 315, 3), (41, .aload_n 0, 1), (42, .iload_n 1, 1), (43, .invokevirtual 336, 3), (46, .iconst (-1), 1), (47, .ixor, 1), (48, .iand, 1), (49, .iastore, 1), (50, .iinc 3 1, 3), (53, .goto (-41), 3), (56, .iinc 2 1, 3), (59, .goto (-57), 3), (62, .return_, 1)]
def M_Mo_laysRight : MT := (t_Mo_laysRight, P_Mo, [], [])
theorem T_Mo_laysRight : TabOK i_Mo_laysRight M_Mo_laysRight := tab_ok (by decide +kernel)
theorem H_Mo_laysRight : ThrOK i_Mo_laysRight M_Mo_laysRight := ⟨fa_n, rfl, fa_n⟩
def t_Mo_rightAt : List (Nat × Instr × Nat) := [(0, .bipush 6, 2), (2, .iload_n 0, 1), (3, .imul, 1), (4, .iload_n 1, 1), (5, .iadd, 1), (6, .ireturn, 1)]
def M_Mo_rightAt : MT := (t_Mo_rightAt, P_Mo, [], [])
theorem T_Mo_rightAt : TabOK i_Mo_rightAt M_Mo_rightAt := tab_ok (by decide +kernel)
theorem H_Mo_rightAt : ThrOK i_Mo_rightAt M_Mo_rightAt := ⟨fa_n, rfl, fa_n⟩
def t_Mo_saidOf : List (Nat × Instr × Nat) := [(0, .iconst 0, 1), (1, .istore_n 2, 1), (2, .iconst 0, 1), (3, .istore_n 3, 1), (4, .iload_n 3, 1), (5, .bipush 6, 2), (7, .if_icmp .ge 37, 3), (10, .iload_n 2, 1), (11, .iload_n 3, 1), (12, .aload_n 0, 1), (13, .iload_n 1, 1), (14, .invokevirtual 96, 3), (17, .if_icmp .ge 12, 3), (20, .aload_n 0, 1), (21, .iload_n 1, 1), (22, .iload_n 3, 1), (23, .invokevirtual 319, 3), (26, .ifCond .eq 9, 3), (29, .iconst 1, 1), (30, .iload_n 3, 1), (31, .ishl, 1), (32, .goto 4, 3), (35, .iconst 0, 1), (36, .ior, 1), (37, .istore_n 2, 1), (38, .iinc 3 1, 3), (41, .goto (-37), 3), (44, .iload_n 2, 1), (45, .ireturn, 1)]
def M_Mo_saidOf : MT := (t_Mo_saidOf, P_Mo, [], [])
theorem T_Mo_saidOf : TabOK i_Mo_saidOf M_Mo_saidOf := tab_ok (by decide +kernel)
theorem H_Mo_saidOf : ThrOK i_Mo_saidOf M_Mo_saidOf := ⟨fa_n, rfl, fa_n⟩
def t_Mo_planAt : List (Nat × Instr × Nat) := [(0, .iload_n 0, 1), (1, .bipush 10, 2), (3, .ishl, 1), (4, .iload_n 1, 1), (5, .ior, 1), (6, .ireturn, 1)]
def M_Mo_planAt : MT := (t_Mo_planAt, P_Mo, [], [])
theorem T_Mo_planAt : TabOK i_Mo_planAt M_Mo_planAt := tab_ok (by decide +kernel)
theorem H_Mo_planAt : ThrOK i_Mo_planAt M_Mo_planAt := ⟨fa_n, rfl, fa_n⟩
def t_Mo_leastStep : List (Nat × Instr × Nat) := [(0, .bipush 99, 2), (2, .istore_n 3, 1), (3, .iconst 0, 1), (4, .istore 4, 2), (6, .iload 4, 2), (8, .aload_n 0, 1), (9, .invokevirtual 100, 3), (12, .if_icmp .ge 53, 3), (15, .iconst 0, 1), (16, .istore 5, 2), (18, .iload 5, 2), (20, .bipush 6, 2), (22, .if_icmp .ge 37, 3), (25, .aload_n 0, 1), (26, .iload_n 1, 1), (27, .iload_n 2, 1), (28, .iload 4, 2), (30, .iload 5, 2), (32, .invokevirtual 394, 3), (35, .ifCond .eq 18, 3), (38, .iload_n 3, 1), (39, .aload_n 0, 1), (40, .iload_n 1, 1), (41, .iload_n 2, 1), (42, .iload 4, 2), (44, .iload 5, 2), (46, .invokevirtual 397, 3), (49, .invokestatic 345, 3), (52, .istore_n 3, 1), (53, .iinc 5 1, 3), (56, .goto (-38), 3), (59, .iinc 4 1, 3), (62, .goto (-56), 3), (65, .iload_n 3, 1), (66, .ireturn, 1)]
def M_Mo_leastStep : MT := (t_Mo_leastStep, P_Mo, [], [])
theorem T_Mo_leastStep : TabOK i_Mo_leastStep M_Mo_leastStep := tab_ok (by decide +kernel)
theorem H_Mo_leastStep : ThrOK i_Mo_leastStep M_Mo_leastStep := ⟨fa_n, rfl, fa_n⟩
def t_Mo_canStep : List (Nat × Instr × Nat) := [(0, .iload_n 2, 1), (1, .iload_n 3, 1), (2, .invokestatic 80, 3), (5, .ifCond .eq 24, 3), (8, .aload_n 0, 1), (9, .iload_n 3, 1), (10, .invokevirtual 293, 3), (13, .ifCond .eq 16, 3), (16, .iload_n 1, 1), (17, .iload 4, 2), (19, .invokestatic 80, 3), (22, .ifCond .ne 7, 3), (25, .iconst 1, 1), (26, .goto 4, 3), (29, .iconst 0, 1), (30, .ireturn, 1)]
def M_Mo_canStep : MT := (t_Mo_canStep, P_Mo, [], [])
theorem T_Mo_canStep : TabOK i_Mo_canStep M_Mo_canStep := tab_ok (by decide +kernel)
theorem H_Mo_canStep : ThrOK i_Mo_canStep M_Mo_canStep := ⟨fa_n, rfl, fa_n⟩
def t_Mo_byStep : List (Nat × Instr × Nat) := [(0, .iconst 1, 1), (1, .aload_n 0, 1), (2, .getfield 53, 3), (5, .iload_n 1, 1), (6, .iconst 1, 1), (7, .iload 4, 2), (9, .ishl, 1), (10, .ior, 1), (11, .iload_n 2, 1), (12, .aload_n 0, 1), (13, .getfield 49, 3), (16, .iload_n 3, 1), (17, .iload 4, 2), (19, .invokestatic 388, 3), (22, .iaload, 1), (23, .ior, 1), (24, .invokestatic 391, 3), (27, .baload, 1), (28, .iadd, 1), (29, .ireturn, 1)]
def M_Mo_byStep : MT := (t_Mo_byStep, P_Mo, [], [])
theorem T_Mo_byStep : TabOK i_Mo_byStep M_Mo_byStep := tab_ok (by decide +kernel)
theorem H_Mo_byStep : ThrOK i_Mo_byStep M_Mo_byStep := ⟨fa_n, rfl, fa_n⟩
def t_Mo_firstStep : List (Nat × Instr × Nat) := [(0, .aload_n 0, 1), (1, .iload_n 1, 1), (2, .invokevirtual 404, 3), (5, .istore_n 2, 1), (6, .aload_n 0, 1), (7, .iload_n 1, 1), (8, .invokevirtual 336, 3), (11, .istore_n 3, 1), (12, .aload_n 0, 1), (13, .getfield 53, 3), (16, .iload_n 2, 1), (17, .iload_n 3, 1), (18, .invokestatic 391, 3), (21, .baload, 1), (22, .istore 4, 2), (24, .iconst 0, 1), (25, .istore 5, 2), (27, .iload 5, 2), (29, .aload_n 0, 1), (30, .invokevirtual 100, 3), (33, .if_icmp .ge 62, 3), (36, .iconst 0, 1), (37, .istore 6, 2), (39, .iload 6, 2), (41, .bipush 6, 2), (43, .if_icmp .ge 46, 3), (46, .aload_n 0, 1), (47, .iload_n 2, 1), (48, .iload_n 3, 1), (49, .iload 5, 2), (51, .iload 6, 2), (53, .invokevirtual 394, 3), (56, .ifCond .eq 27, 3), (59, .aload_n 0, 1), (60, .iload_n 2, 1), (61, .iload_n 3, 1), (62, .iload 5, 2), (64, .iload 6, 2), (66, .invokevirtual 397, 3), (69, .iload 4, 2), (71, .if_icmp .ne 12, 3), (74, .bipush 10, 2), (76, .iload 5, 2), (78, .imul, 1), (79, .iload 6, 2), (81, .iadd, 1), (82, .ireturn, 1), (83, .iinc 6 1, 3), (86, .goto (-47), 3), (89, .iinc 5 1, 3), (92, .goto (-65), 3), (95, .iconst (-1), 1), (96, .ireturn, 1)]
def M_Mo_firstStep : MT := (t_Mo_firstStep, P_Mo, [], [])
theorem T_Mo_firstStep : TabOK i_Mo_firstStep M_Mo_firstStep := tab_ok (by decide +kernel)
theorem H_Mo_firstStep : ThrOK i_Mo_firstStep M_Mo_firstStep := ⟨fa_n, rfl, fa_n⟩
def t_Mo_kept : List (Nat × Instr × Nat) := [(0, .aload_n 0, 1), (1, .iconst 0, 1), (2, .putfield 3, 3), (5, .aload_n 0, 1), (6, .aload_n 0, 1), (7, .iload_n 1, 1), (8, .invokevirtual 306, 3), (11, .ifCond .ne 11, 3), (14, .aload_n 0, 1), (15, .iload_n 2, 1), (16, .invokevirtual 92, 3), (19, .ifCond .eq 7, 3), (22, .iconst 1, 1), (23, .goto 4, 3), (26, .iconst 0, 1), (27, .iconst 1, 1), (28, .invokevirtual 265, 3), (31, .ifCond .eq 5, 3), (34, .iconst 0, 1), (35, .ireturn, 1), (36, .aload_n 0, 1), (37, .iload_n 1, 1), (38, .iload_n 2, 1), (39, .invokevirtual 279, 3), (42, .ifCond .eq 6, 3), (45, .bipush (-2), 2), (47, .ireturn, 1), (48, .aload_n 0, 1), (49, .iload_n 2, 1), (50, .invokevirtual 416, 3), (53, .aload_n 0, 1), (54, .invokevirtual 373, 3), (57, .iconst 1, 1), (58, .iload_n 1, 1), (59, .ishl, 1), (60, .iconst (-1), 1), (61, .ixor, 1), (62, .iand, 1), (63, .istore_n 3, 1), (64, .iload_n 3, 1), (65, .istore 4, 2), (67, .iload_n 3, 1), (68, .istore 5, 2), (70, .iload 5, 2), (72, .ifCond .lt 68, 3), (75, .iload 5, 2), (77, .iload_n 3, 1), (78, .iconst (-1), 1), (79, .ixor, 1), (80, .iand, 1), (81, .ifCond .ne 53, 3), (84, .iload 5, 2), (86, .invokestatic 325, 3), (89, .iload 4, 2), (91, .invokestatic 325, 3), (94, .if_icmp .le 6, 3), (97, .goto 37, 3), (100, .aload_n 0, 1), (101, .aload_n 0, 1), (102, .iload_n 2, 1), (103, .invokevirtual 336, 3), (106, .aload_n 0, 1), (107, .invokevirtual 373, 3), (110, .iload 5, 2), (112, .iconst (-1), 1), (113, .ixor, 1), (114, .iand, 1), (115, .invokevirtual 419, 3), (118, .iload_n 1, 1), (119, .invokestatic 80, 3), (122, .ifCond .eq 8, 3), (125, .iload 4, 2), (127, .goto 5, 3), (130, .iload 5, 2), (132, .istore 4, 2), (134, .iinc 5 (-1), 3), (137, .goto (-67), 3), (140, .iload 4, 2), (142, .ireturn, 1)]
def M_Mo_kept : MT := (t_Mo_kept, P_Mo, [], [])
theorem T_Mo_kept : TabOK i_Mo_kept M_Mo_kept := tab_ok (by decide +kernel)
theorem H_Mo_kept : ThrOK i_Mo_kept M_Mo_kept := ⟨fa_n, rfl, fa_n⟩
def t_Mo_laysTeaches : List (Nat × Instr × Nat) := [(0, .aload_n 0, 1), (1, .iload_n 1, 1), (2, .invokevirtual 400, 3), (5, .iconst 0, 1), (6, .istore_n 2, 1), (7, .iload_n 2, 1), (8, .aload_n 0, 1), (9, .invokevirtual 100, 3), (12, .if_icmp .ge 52, 3), (15, .aload_n 0, 1), (16, .getfield 56, 3), (19, .iload_n 2, 1), (20, .iconst 0, 1), (21, .iastore, 1), (22, .iconst 0, 1), (23, .istore_n 3, 1), (24, .iload_n 3, 1), (25, .aload_n 0, 1), (26, .iload_n 1, 1), (27, .invokevirtual 96, 3), (30, .if_icmp .ge 28, 3), (33, .aload_n 0, 1), (34, .getfield 56, 3), (37, .iload_n 2, 1), (38, .dup2, 1), (39, .iaload, 1), (40, .aload_n 0, 1), (41, .getfield 49, 3), (44, .iload_n 2, 1), (45, .iload_n 3, 1), (46, .invokestatic 388, 3), (49, .iaload, 1), (50, .ior, 1), (51, .iastore, 1), (52, .iinc 3 1, 3), (55, .goto (-31), 3), (58, .iinc 2 1, 3), (61, .goto (-54), 3), (64, .return_, 1)]
def M_Mo_laysTeaches : MT := (t_Mo_laysTeaches, P_Mo, [], [])
theorem T_Mo_laysTeaches : TabOK i_Mo_laysTeaches M_Mo_laysTeaches := tab_ok (by decide +kernel)
theorem H_Mo_laysTeaches : ThrOK i_Mo_laysTeaches M_Mo_laysTeaches := ⟨fa_n, rfl, fa_n⟩
def t_Mo_spreads : List (Nat × Instr × Nat) := [(0, .iload_n 1, 1), (1, .istore_n 3, 1), (2, .iconst (-1), 1), (3, .istore 4, 2), (5, .iload_n 3, 1), (6, .iload 4, 2), (8, .if_icmp .eq 54, 3), (11, .iload_n 3, 1), (12, .istore 4, 2), (14, .iconst 0, 1), (15, .istore 5, 2), (17, .iload 5, 2), (19, .aload_n 0, 1), (20, .invokevirtual 100, 3), (23, .if_icmp .ge 36, 3), (26, .iload_n 3, 1), (27, .iload_n 3, 1), (28, .iload_n 2, 1), (29, .iand, 1), (30, .iload 5, 2), (32, .invokestatic 80, 3), (35, .ifCond .eq 15, 3), (38, .aload_n 0, 1), (39, .getfield 56, 3), (42, .iload 5, 2), (44, .iaload, 1), (45, .iload_n 2, 1), (46, .iand, 1), (47, .goto 4, 3), (50, .iconst 0, 1), (51, .ior, 1), (52, .istore_n 3, 1), (53, .iinc 5 1, 3), (56, .goto (-39), 3), (59, .goto (-54), 3), (62, .iload_n 3, 1), (63, .ireturn, 1)]
def M_Mo_spreads : MT := (t_Mo_spreads, P_Mo, [], [])
theorem T_Mo_spreads : TabOK i_Mo_spreads M_Mo_spreads := tab_ok (by decide +kernel)
theorem H_Mo_spreads : ThrOK i_Mo_spreads M_Mo_spreads := ⟨fa_n, rfl, fa_n⟩
def t_Mo_seats : List (Nat × Instr × Nat) := [(0, .aload_n 0, 1), (1, .iconst 0, 1), (2, .putfield 3, 3), (5, .aload_n 0, 1), (6, .aload_n 0, 1), (7, .iload_n 1, 1), (8, .invokevirtual 306, 3), (11, .ifCond .ne 12, 3), (14, .aload_n 0, 1), (15, .iload_n 2, 1), (16, .iload_n 3, 1), (17, .invokevirtual 309, 3), (20, .ifCond .eq 7, 3), (23, .iconst 1, 1), (24, .goto 4, 3), (27, .iconst 0, 1), (28, .iconst 1, 1), (29, .invokevirtual 265, 3), (32, .ifCond .eq 5, 3), (35, .iconst 0, 1), (36, .ireturn, 1), (37, .iload_n 2, 1), (38, .iload_n 3, 1), (39, .invokestatic 312, 3), (42, .istore 5, 2), (44, .iconst (-1), 1), (45, .istore 6, 2), (47, .aload_n 0, 1), (48, .iload 5, 2), (50, .iload_n 1, 1), (51, .iconst 0, 1), (52, .invokevirtual 315, 3), (55, .invokestatic 325, 3), (58, .istore 7, 2), (60, .iconst 0, 1), (61, .istore 8, 2), (63, .iload 8, 2), (65, .aload_n 0, 1), (66, .invokevirtual 100, 3), (69, .if_icmp .ge 83, 3), (72, .iload 8, 2), (74, .iconst 1, 1), (75, .iadd, 1), (76, .istore 9, 2), (78, .iload 9, 2), (80, .aload_n 0, 1), (81, .invokevirtual 100, 3), (84, .if_icmp .ge 62, 3), (87, .aload_n 0, 1), (88, .iload 8, 2), (90, .iload 9, 2), (92, .invokevirtual 370, 3), (95, .aload_n 0, 1), (96, .iload 5, 2), (98, .iload_n 1, 1), (99, .iconst 0, 1), (100, .invokevirtual 315, 3), (103, .invokestatic 325, 3), (106, .istore 10, 2), (108, .aload_n 0, 1), (109, .iload 8, 2), (111, .iload 9, 2), (113, .invokevirtual 370, 3), (116, .iload 10, 2), (118, .iload 7, 2), (120, .if_icmp .gt 6, 3), (123, .goto 17, 3), (126, .bipush 10, 2), (128, .iload 8, 2), (130, .imul, 1), (131, .iload 9, 2), (133, .iadd, 1), (134, .istore 6, 2), (136, .iload 10, 2), (138, .istore 7, 2), (140, .iinc 9 1, 3), (143, .goto (-65), 3), (146, .iinc 8 1, 3), (149, .goto (-86), 3), (152, .iload 4, 2), (154, .ifCond .eq 8, 3), (157, .iload 7, 2), (159, .goto 5, 3), (162, .iload 6, 2), (164, .ireturn, 1)]
def M_Mo_seats : MT := (t_Mo_seats, P_Mo, [], [])
theorem T_Mo_seats : TabOK i_Mo_seats M_Mo_seats := tab_ok (by decide +kernel)
theorem H_Mo_seats : ThrOK i_Mo_seats M_Mo_seats := ⟨fa_n, rfl, fa_n⟩
def t_Mo_what : List (Nat × Instr × Nat) := [(0, .aload_n 0, 1), (1, .invokevirtual 251, 3), (4, .aload_n 0, 1), (5, .aload_n 0, 1), (6, .iload_n 1, 1), (7, .invokevirtual 306, 3), (10, .iconst 1, 1), (11, .invokevirtual 265, 3), (14, .ifCond .eq 5, 3), (17, .lconst 0, 1), (18, .lreturn, 1), (19, .aload_n 0, 1), (20, .getfield 110, 3), (23, .aload_n 0, 1), (24, .invokevirtual 100, 3), (27, .if_icmp .ne 7, 3), (30, .iconst 1, 1), (31, .goto 4, 3), (34, .iconst 0, 1), (35, .istore_n 2, 1), (36, .iconst 0, 1), (37, .istore_n 3, 1), (38, .iload_n 3, 1), (39, .aload_n 0, 1), (40, .getfield 110, 3), (43, .if_icmp .ge 48, 3), (46, .iload_n 2, 1), (47, .ifCond .eq 44, 3), (50, .aload_n 0, 1), (51, .aload_n 0, 1), (52, .getfield 33, 3), (55, .iload_n 3, 1), (56, .baload, 1), (57, .invokevirtual 92, 3), (60, .ifCond .eq 19, 3), (63, .aload_n 0, 1), (64, .getfield 33, 3), (67, .iload_n 3, 1), (68, .baload, 1), (69, .sipush 255, 3), (72, .iand, 1), (73, .sipush 255, 3), (76, .if_icmp .ne 7, 3), (79, .iconst 1, 1), (80, .goto 4, 3), (83, .iconst 0, 1), (84, .istore_n 2, 1), (85, .iinc 3 1, 3), (88, .goto (-50), 3), (91, .aload_n 0, 1), (92, .iload_n 2, 1), (93, .ifCond .ne 7, 3), (96, .iconst 1, 1), (97, .goto 4, 3), (100, .iconst 0, 1), (101, .iconst 2, 1), (102, .invokevirtual 265, 3), (105, .ifCond .eq 5, 3), (108, .lconst 0, 1), (109, .lreturn, 1), (110, .lconst 0, 1), (111, .lstore_n 3, 1), (112, .iconst 0, 1), (113, .istore 5, 2), (115, .iload 5, 2), (117, .aload_n 0, 1), (118, .invokevirtual 84, 3), (121, .if_icmp .ge 60, 3), (124, .iconst 0, 1), (125, .istore 6, 2), (127, .iload 6, 2), (129, .aload_n 0, 1), (130, .iload 5, 2), (132, .invokevirtual 96, 3), (135, .if_icmp .ge 40, 3), (138, .lload_n 3, 1), (139, .aload_n 0, 1), (140, .iload 5, 2), (142, .iload 6, 2), (144, .invokestatic 312, 3), (147, .iload_n 1, 1), (148, .invokevirtual 422, 3), (151, .ifCond .eq 15, 3), (154, .lconst 1, 1), (155, .iload 5, 2), (157, .iload 6, 2), (159, .invokestatic 312, 3), (162, .lshl, 1), (163, .goto 4, 3), (166, .lconst 0, 1), (167, .lor, 1), (168, .lstore_n 3, 1), (169, .iinc 6 1, 3), (172, .goto (-45), 3), (175, .iinc 5 1, 3), (178, .goto (-63), 3), (181, .lload_n 3, 1), (182, .lreturn, 1)]
def M_Mo_what : MT := (t_Mo_what, P_Mo, [], [])
theorem T_Mo_what : TabOK i_Mo_what M_Mo_what := tab_ok (by decide +kernel)
theorem H_Mo_what : ThrOK i_Mo_what M_Mo_what := ⟨fa_n, rfl, fa_n⟩
def t_Mo_comesSo : List (Nat × Instr × Nat) := [(0, .iconst 1, 1), (1, .istore_n 3, 1), (2, .iconst 0, 1), (3, .istore 4, 2), (5, .iload 4, 2), (7, .aload_n 0, 1), (8, .invokevirtual 100, 3), (11, .if_icmp .ge 72, 3), (14, .iload_n 3, 1), (15, .ifCond .eq 68, 3), (18, .iload 4, 2), (20, .iload_n 2, 1), (21, .if_icmp .ne 7, 3), (24, .iconst (-1), 1), (25, .goto 11, 3), (28, .aload_n 0, 1), (29, .iload_n 1, 1), (30, .iload_n 2, 1), (31, .iload 4, 2), (33, .invokevirtual 303, 3), (36, .istore 5, 2), (38, .iload 4, 2), (40, .iload_n 2, 1), (41, .if_icmp .eq 30, 3), (44, .aload_n 0, 1), (45, .getfield 33, 3), (48, .iload 4, 2), (50, .baload, 1), (51, .sipush 255, 3), (54, .iand, 1), (55, .iload 5, 2), (57, .ifCond .ge 9, 3), (60, .sipush 255, 3), (63, .goto 5, 3), (66, .iload 5, 2), (68, .if_icmp .ne 7, 3), (71, .iconst 1, 1), (72, .goto 4, 3), (75, .iconst 0, 1), (76, .istore_n 3, 1), (77, .iinc 4 1, 3), (80, .goto (-75), 3), (83, .iload_n 3, 1), (84, .ireturn, 1)]
def M_Mo_comesSo : MT := (t_Mo_comesSo, P_Mo, [], [])
theorem T_Mo_comesSo : TabOK i_Mo_comesSo M_Mo_comesSo := tab_ok (by decide +kernel)
theorem H_Mo_comesSo : ThrOK i_Mo_comesSo M_Mo_comesSo := ⟨fa_n, rfl, fa_n⟩
def t_Mo_exam : List (Nat × Instr × Nat) := [(0, .aload_n 0, 1), (1, .iconst 0, 1), (2, .putfield 3, 3), (5, .iconst 0, 1), (6, .istore_n 1, 1), (7, .iconst 0, 1), (8, .istore_n 2, 1), (9, .iload_n 2, 1), (10, .aload_n 0, 1), (11, .invokevirtual 100, 3), (14, .if_icmp .ge 43, 3), (17, .iload_n 1, 1), (18, .aload_n 0, 1), (19, .iload_n 2, 1), (20, .invokevirtual 293, 3), (23, .ifCond .eq 25, 3), (26, .aload_n 0, 1), (27, .aload_n 0, 1), (28, .iload_n 2, 1), (29, .iconst 4, 1), (30, .invokevirtual 77, 3), (33, .invokevirtual 330, 3), (36, .aload_n 0, 1), (37, .iload_n 2, 1), (38, .iconst 4, 1), (39, .invokevirtual 77, 3), (42, .iconst (-1), 1), (43, .ixor, 1), (44, .iand, 1), (45, .goto 4, 3), (48, .iconst 0, 1), (49, .ior, 1), (50, .istore_n 1, 1), (51, .iinc 2 1, 3), (54, .goto (-45), 3), (57, .iconst 0, 1), (58, .istore_n 2, 1), (59, .iload_n 2, 1), (60, .aload_n 0, 1), (61, .invokevirtual 84, 3), (64, .if_icmp .ge 29, 3), (67, .iload_n 1, 1), (68, .aload_n 0, 1), (69, .iload_n 2, 1), (70, .invokevirtual 425, 3), (73, .ifCond .eq 7, 3), (76, .iload_n 1, 1), (77, .goto 8, 3), (80, .iconst 1, 1), (81, .iload_n 2, 1), (82, .ishl, 1), (83, .iconst (-1), 1), (84, .ixor, 1), (85, .iand, 1), (86, .istore_n 1, 1), (87, .iinc 2 1, 3), (90, .goto (-31), 3), (93, .iload_n 1, 1), (94, .ireturn, 1)]
def M_Mo_exam : MT := (t_Mo_exam, P_Mo, [], [])
theorem T_Mo_exam : TabOK i_Mo_exam M_Mo_exam := tab_ok (by decide +kernel)
theorem H_Mo_exam : ThrOK i_Mo_exam M_Mo_exam := ⟨fa_n, rfl, fa_n⟩
def t_Mo_nothingSaid : List (Nat × Instr × Nat) := [(0, .aload_n 0, 1), (1, .iload_n 1, 1), (2, .invokevirtual 333, 3), (5, .aload_n 0, 1), (6, .iload_n 1, 1), (7, .invokevirtual 96, 3), (10, .if_icmp .ne 7, 3), (13, .iconst 1, 1), (14, .goto 4, 3), (17, .iconst 0, 1), (18, .ireturn, 1)]
def M_Mo_nothingSaid : MT := (t_Mo_nothingSaid, P_Mo, [], [])
theorem T_Mo_nothingSaid : TabOK i_Mo_nothingSaid M_Mo_nothingSaid := tab_ok (by decide +kernel)
theorem H_Mo_nothingSaid : ThrOK i_Mo_nothingSaid M_Mo_nothingSaid := ⟨fa_n, rfl, fa_n⟩
def t_Mo_last : List (Nat × Instr × Nat) := [(0, .aload_n 0, 1), (1, .iconst 0, 1), (2, .putfield 3, 3), (5, .aload_n 0, 1), (6, .invokevirtual 434, 3), (9, .iconst 1, 1), (10, .istore_n 1, 1), (11, .iload_n 1, 1), (12, .ifCond .eq 11, 3), (15, .aload_n 0, 1), (16, .invokevirtual 437, 3), (19, .istore_n 1, 1), (20, .goto (-9), 3), (23, .aload_n 0, 1), (24, .invokevirtual 382, 3), (27, .istore_n 2, 1), (28, .aload_n 0, 1), (29, .invokevirtual 440, 3), (32, .iconst 0, 1), (33, .istore_n 3, 1), (34, .iconst 0, 1), (35, .istore 4, 2), (37, .iload 4, 2), (39, .aload_n 0, 1), (40, .invokevirtual 84, 3), (43, .if_icmp .ge 31, 3), (46, .iload_n 3, 1), (47, .iload_n 2, 1), (48, .iload 4, 2), (50, .invokestatic 80, 3), (53, .ifCond .eq 12, 3), (56, .aload_n 0, 1), (57, .iload 4, 2), (59, .invokevirtual 333, 3), (62, .goto 4, 3), (65, .iconst 0, 1), (66, .iadd, 1), (67, .istore_n 3, 1), (68, .iinc 4 1, 3), (71, .goto (-34), 3), (74, .iload_n 3, 1), (75, .ireturn, 1)]
def M_Mo_last : MT := (t_Mo_last, P_Mo, [], [])
theorem T_Mo_last : TabOK i_Mo_last M_Mo_last := tab_ok (by decide +kernel)
theorem H_Mo_last : ThrOK i_Mo_last M_Mo_last := ⟨fa_n, rfl, fa_n⟩
def t_Mo_keepsAll : List (Nat × Instr × Nat) := [(0, .iconst 0, 1), (1, .istore_n 1, 1), (2, .iload_n 1, 1), (3, .sipush 1015, 3), (6, .if_icmp .ge 21, 3), (9, .aload_n 0, 1), (10, .getfield 23, 3), (13, .iload_n 1, 1), (14, .aload_n 0, 1), (15, .getfield 13, 3), (18, .iload_n 1, 1), (19, .iaload, 1), (20, .iastore, 1), (21, .iinc 1 1, 3), (24, .goto (-22), 3), (27, .aload_n 0, 1), (28, .aload_n 0, 1), (29, .getfield 59, 3), (32, .putfield 428, 3), (35, .return_, 1)]
def M_Mo_keepsAll : MT := (t_Mo_keepsAll, P_Mo, [], [])
theorem T_Mo_keepsAll : TabOK i_Mo_keepsAll M_Mo_keepsAll := tab_ok (by decide +kernel)
theorem H_Mo_keepsAll : ThrOK i_Mo_keepsAll M_Mo_keepsAll := ⟨fa_n, rfl, fa_n⟩
def t_Mo_goesThrough : List (Nat × Instr × Nat) := [(0, .iconst 0, 1), (1, .istore_n 1, 1), (2, .iconst 0, 1), (3, .istore_n 2, 1), (4, .iload_n 2, 1), (5, .aload_n 0, 1), (6, .invokevirtual 100, 3), (9, .if_icmp .ge 69, 3), (12, .iconst 0, 1), (13, .istore_n 3, 1), (14, .iload_n 3, 1), (15, .aload_n 0, 1), (16, .invokevirtual 84, 3), (19, .if_icmp .ge 53, 3), (22, .iconst 0, 1), (23, .istore 4, 2), (25, .iload 4, 2), (27, .aload_n 0, 1), (28, .iload_n 3, 1), (29, .invokevirtual 96, 3), (32, .if_icmp .ge 34, 3), (35, .aload_n 0, 1), (36, .iload_n 2, 1), (37, .iload_n 3, 1), (38, .iload 4, 2), (40, .invokevirtual 361, 3), (43, .ifCond .eq 17, 3), (46, .iload_n 1, 1), (47, .aload_n 0, 1), (48, .iload_n 2, 1), (49, .iload_n 3, 1), (50, .iload 4, 2), (52, .invokestatic 312, 3), (55, .invokevirtual 431, 3), (58, .ior, 1), (59, .istore_n 1, 1), (60, .iinc 4 1, 3), (63, .goto (-38), 3), (66, .iinc 3 1, 3), (69, .goto (-55), 3), (72, .iinc 2 1, 3), (75, .goto (-71), 3), (78, .iload_n 1, 1), (79, .ireturn, 1)]
def M_Mo_goesThrough : MT := (t_Mo_goesThrough, P_Mo, [], [])
theorem T_Mo_goesThrough : TabOK i_Mo_goesThrough M_Mo_goesThrough := tab_ok (by decide +kernel)
theorem H_Mo_goesThrough : ThrOK i_Mo_goesThrough M_Mo_goesThrough := ⟨fa_n, rfl, fa_n⟩
def t_Mo_saysAll : List (Nat × Instr × Nat) := [(0, .iconst 0, 1), (1, .istore_n 3, 1), (2, .iconst 0, 1), (3, .istore 4, 2), (5, .iload 4, 2), (7, .aload_n 0, 1), (8, .invokevirtual 100, 3), (11, .if_icmp .ge 34, 3), (14, .aload_n 0, 1), (15, .getfield 46, 3), (18, .iload 4, 2), (20, .iload 4, 2), (22, .iload_n 1, 1), (23, .if_icmp .ne 7, 3), (26, .iconst (-1), 1), (27, .goto 11, 3), (30, .aload_n 0, 1), (31, .iload_n 2, 1), (32, .iload_n 1, 1), (33, .iload 4, 2), (35, .invokevirtual 303, 3), (38, .iastore, 1), (39, .iinc 4 1, 3), (42, .goto (-37), 3), (45, .iconst 0, 1), (46, .istore 4, 2), (48, .iload 4, 2), (50, .aload_n 0, 1), (51, .invokevirtual 100, 3), (54, .if_icmp .ge 63, 3), (57, .aload_n 0, 1), (58, .getfield 46, 3), (61, .iload 4, 2), (63, .iaload, 1), (64, .ifCond .lt 47, 3), (67, .aload_n 0, 1), (68, .iload 4, 2), (70, .aload_n 0, 1), (71, .getfield 46, 3), (74, .iload 4, 2), (76, .iaload, 1), (77, .invokevirtual 279, 3), (80, .ifCond .eq 6, 3), (83, .goto 28, 3), (86, .aload_n 0, 1), (87, .getfield 13, 3), (90, .iload 4, 2), (92, .iconst 4, 1), (93, .invokestatic 73, 3), (96, .dup2, 1), (97, .iaload, 1), (98, .iconst 1, 1), (99, .aload_n 0, 1), (100, .getfield 46, 3), (103, .iload 4, 2), (105, .iaload, 1), (106, .ishl, 1), (107, .ior, 1), (108, .iastore, 1), (109, .iconst 1, 1), (110, .istore_n 3, 1), (111, .iinc 4 1, 3), (114, .goto (-66), 3), (117, .iload_n 3, 1), (118, .ireturn, 1)]
def M_Mo_saysAll : MT := (t_Mo_saysAll, P_Mo, [], [])
theorem T_Mo_saysAll : TabOK i_Mo_saysAll M_Mo_saysAll := tab_ok (by decide +kernel)
theorem H_Mo_saysAll : ThrOK i_Mo_saysAll M_Mo_saysAll := ⟨fa_n, rfl, fa_n⟩
def t_Mo_bringsBack : List (Nat × Instr × Nat) := [(0, .iconst 0, 1), (1, .istore_n 1, 1), (2, .iload_n 1, 1), (3, .sipush 1015, 3), (6, .if_icmp .ge 21, 3), (9, .aload_n 0, 1), (10, .getfield 13, 3), (13, .iload_n 1, 1), (14, .aload_n 0, 1), (15, .getfield 23, 3), (18, .iload_n 1, 1), (19, .iaload, 1), (20, .iastore, 1), (21, .iinc 1 1, 3), (24, .goto (-22), 3), (27, .aload_n 0, 1), (28, .aload_n 0, 1), (29, .getfield 428, 3), (32, .putfield 59, 3), (35, .return_, 1)]
def M_Mo_bringsBack : MT := (t_Mo_bringsBack, P_Mo, [], [])
theorem T_Mo_bringsBack : TabOK i_Mo_bringsBack M_Mo_bringsBack := tab_ok (by decide +kernel)
theorem H_Mo_bringsBack : ThrOK i_Mo_bringsBack M_Mo_bringsBack := ⟨fa_n, rfl, fa_n⟩
def t_Mo_alike : List (Nat × Instr × Nat) := [(0, .aload_n 0, 1), (1, .iconst 0, 1), (2, .putfield 3, 3), (5, .aload_n 0, 1), (6, .aload_n 0, 1), (7, .iload_n 1, 1), (8, .invokevirtual 306, 3), (11, .ifCond .ne 11, 3), (14, .aload_n 0, 1), (15, .iload_n 2, 1), (16, .invokevirtual 306, 3), (19, .ifCond .eq 7, 3), (22, .iconst 1, 1), (23, .goto 4, 3), (26, .iconst 0, 1), (27, .iconst 1, 1), (28, .invokevirtual 265, 3), (31, .ifCond .ne 21, 3), (34, .aload_n 0, 1), (35, .iload_n 1, 1), (36, .iload_n 2, 1), (37, .if_icmp .ne 7, 3), (40, .iconst 1, 1), (41, .goto 4, 3), (44, .iconst 0, 1), (45, .iconst 2, 1), (46, .invokevirtual 265, 3), (49, .ifCond .eq 7, 3), (52, .iconst 0, 1), (53, .goto 9, 3), (56, .aload_n 0, 1), (57, .iload_n 1, 1), (58, .iload_n 2, 1), (59, .invokevirtual 443, 3), (62, .ireturn, 1)]
def M_Mo_alike : MT := (t_Mo_alike, P_Mo, [], [])
theorem T_Mo_alike : TabOK i_Mo_alike M_Mo_alike := tab_ok (by decide +kernel)
theorem H_Mo_alike : ThrOK i_Mo_alike M_Mo_alike := ⟨fa_n, rfl, fa_n⟩
def t_Mo_alikeOf : List (Nat × Instr × Nat) := [(0, .iconst 1, 1), (1, .aload_n 0, 1), (2, .invokevirtual 84, 3), (5, .ishl, 1), (6, .iconst 1, 1), (7, .isub, 1), (8, .aload_n 0, 1), (9, .iload_n 1, 1), (10, .iconst 4, 1), (11, .invokevirtual 77, 3), (14, .aload_n 0, 1), (15, .iload_n 2, 1), (16, .iconst 4, 1), (17, .invokevirtual 77, 3), (20, .ixor, 1), (21, .iconst (-1), 1), (22, .ixor, 1), (23, .iand, 1), (24, .ireturn, 1)]
def M_Mo_alikeOf : MT := (t_Mo_alikeOf, P_Mo, [], [])
theorem T_Mo_alikeOf : TabOK i_Mo_alikeOf M_Mo_alikeOf := tab_ok (by decide +kernel)
theorem H_Mo_alikeOf : ThrOK i_Mo_alikeOf M_Mo_alikeOf := ⟨fa_n, rfl, fa_n⟩
def t_Mo_ask : List (Nat × Instr × Nat) := [(0, .aload_n 0, 1), (1, .iconst 0, 1), (2, .putfield 3, 3), (5, .aload_n 0, 1), (6, .aload_n 0, 1), (7, .iload_n 1, 1), (8, .invokevirtual 306, 3), (11, .ifCond .ne 11, 3), (14, .aload_n 0, 1), (15, .iload_n 2, 1), (16, .invokevirtual 306, 3), (19, .ifCond .eq 7, 3), (22, .iconst 1, 1), (23, .goto 4, 3), (26, .iconst 0, 1), (27, .iconst 1, 1), (28, .invokevirtual 265, 3), (31, .ifCond .ne 21, 3), (34, .aload_n 0, 1), (35, .iload_n 1, 1), (36, .iload_n 2, 1), (37, .if_icmp .ne 7, 3), (40, .iconst 1, 1), (41, .goto 4, 3), (44, .iconst 0, 1), (45, .iconst 2, 1), (46, .invokevirtual 265, 3), (49, .ifCond .eq 5, 3), (52, .iconst 0, 1), (53, .ireturn, 1), (54, .aload_n 0, 1), (55, .iload_n 1, 1), (56, .iconst 4, 1), (57, .invokevirtual 77, 3), (60, .aload_n 0, 1), (61, .iload_n 2, 1), (62, .iconst 4, 1), (63, .invokevirtual 77, 3), (66, .ixor, 1), (67, .istore_n 3, 1), (68, .iload_n 3, 1), (69, .ifCond .ne 7, 3), (72, .iconst (-1), 1), (73, .goto 7, 3), (76, .iload_n 3, 1), (77, .invokestatic 446, 3), (80, .ireturn, 1)]
def M_Mo_ask : MT := (t_Mo_ask, P_Mo, [], [])
theorem T_Mo_ask : TabOK i_Mo_ask M_Mo_ask := tab_ok (by decide +kernel)
theorem H_Mo_ask : ThrOK i_Mo_ask M_Mo_ask := ⟨fa_n, rfl, fa_n⟩
def t_Mo_groups : List (Nat × Instr × Nat) := [(0, .aload_n 0, 1), (1, .iconst 0, 1), (2, .putfield 3, 3), (5, .iconst 0, 1), (6, .istore_n 2, 1), (7, .iconst 0, 1), (8, .istore_n 3, 1), (9, .iconst 0, 1), (10, .istore 4, 2), (12, .iload 4, 2), (14, .aload_n 0, 1), (15, .invokevirtual 100, 3), (18, .if_icmp .ge 45, 3), (21, .iload_n 2, 1), (22, .aload_n 0, 1), (23, .iload 4, 2), (25, .invokevirtual 449, 3), (28, .invokestatic 446, 3), (31, .iload 4, 2), (33, .if_icmp .ne 7, 3), (36, .iconst 1, 1), (37, .goto 4, 3), (40, .iconst 0, 1), (41, .iadd, 1), (42, .istore_n 2, 1), (43, .iload_n 3, 1), (44, .aload_n 0, 1), (45, .iload 4, 2), (47, .invokevirtual 449, 3), (50, .invokestatic 325, 3), (53, .invokestatic 273, 3), (56, .istore_n 3, 1), (57, .iinc 4 1, 3), (60, .goto (-48), 3), (63, .iload_n 1, 1), (64, .ifCond .eq 7, 3), (67, .iload_n 3, 1), (68, .goto 4, 3), (71, .iload_n 2, 1), (72, .ireturn, 1)]
def M_Mo_groups : MT := (t_Mo_groups, P_Mo, [], [])
theorem T_Mo_groups : TabOK i_Mo_groups M_Mo_groups := tab_ok (by decide +kernel)
theorem H_Mo_groups : ThrOK i_Mo_groups M_Mo_groups := ⟨fa_n, rfl, fa_n⟩
def t_Mo_groupOf : List (Nat × Instr × Nat) := [(0, .iconst 0, 1), (1, .istore_n 2, 1), (2, .iconst 0, 1), (3, .istore_n 3, 1), (4, .iload_n 3, 1), (5, .aload_n 0, 1), (6, .invokevirtual 100, 3), (9, .if_icmp .ge 34, 3), (12, .iload_n 2, 1), (13, .aload_n 0, 1), (14, .iload_n 3, 1), (15, .iconst 4, 1), (16, .invokevirtual 77, 3), (19, .aload_n 0, 1), (20, .iload_n 1, 1), (21, .iconst 4, 1), (22, .invokevirtual 77, 3), (25, .if_icmp .ne 9, 3), (28, .iconst 1, 1), (29, .iload_n 3, 1), (30, .ishl, 1), (31, .goto 4, 3), (34, .iconst 0, 1), (35, .ior, 1), (36, .istore_n 2, 1), (37, .iinc 3 1, 3), (40, .goto (-36), 3), (43, .iload_n 2, 1), (44, .ireturn, 1)]
def M_Mo_groupOf : MT := (t_Mo_groupOf, P_Mo, [], [])
theorem T_Mo_groupOf : TabOK i_Mo_groupOf M_Mo_groupOf := tab_ok (by decide +kernel)
theorem H_Mo_groupOf : ThrOK i_Mo_groupOf M_Mo_groupOf := ⟨fa_n, rfl, fa_n⟩
def t_Mo_keeps : List (Nat × Instr × Nat) := [(0, .aload_n 0, 1), (1, .iconst 0, 1), (2, .putfield 3, 3), (5, .aload_n 0, 1), (6, .aload_n 0, 1), (7, .iload_n 1, 1), (8, .invokevirtual 306, 3), (11, .ifCond .ne 11, 3), (14, .aload_n 0, 1), (15, .iload_n 2, 1), (16, .invokevirtual 306, 3), (19, .ifCond .eq 7, 3), (22, .iconst 1, 1), (23, .goto 4, 3), (26, .iconst 0, 1), (27, .iconst 1, 1), (28, .invokevirtual 265, 3), (31, .ifCond .ne 34, 3), (34, .aload_n 0, 1), (35, .iload_n 1, 1), (36, .iload_n 2, 1), (37, .if_icmp .ne 7, 3), (40, .iconst 1, 1), (41, .goto 4, 3), (44, .iconst 0, 1), (45, .iconst 2, 1), (46, .invokevirtual 265, 3), (49, .ifCond .ne 16, 3), (52, .aload_n 0, 1), (53, .iload_n 1, 1), (54, .iload_n 2, 1), (55, .invokevirtual 455, 3), (58, .ifCond .le 7, 3), (61, .iconst 1, 1), (62, .goto 4, 3), (65, .iconst 0, 1), (66, .ireturn, 1)]
def M_Mo_keeps : MT := (t_Mo_keeps, P_Mo, [], [])
theorem T_Mo_keeps : TabOK i_Mo_keeps M_Mo_keeps := tab_ok (by decide +kernel)
theorem H_Mo_keeps : ThrOK i_Mo_keeps M_Mo_keeps := ⟨fa_n, rfl, fa_n⟩
def t_Mo_marginOf : List (Nat × Instr × Nat) := [(0, .aload_n 0, 1), (1, .aload_n 0, 1), (2, .iload_n 1, 1), (3, .iconst 4, 1), (4, .invokevirtual 77, 3), (7, .aload_n 0, 1), (8, .iload_n 2, 1), (9, .iconst 4, 1), (10, .invokevirtual 77, 3), (13, .iand, 1), (14, .invokevirtual 452, 3), (17, .istore_n 3, 1), (18, .aload_n 0, 1), (19, .aload_n 0, 1), (20, .iload_n 1, 1), (21, .iconst 4, 1), (22, .invokevirtual 77, 3), (25, .aload_n 0, 1), (26, .iload_n 2, 1), (27, .iconst 4, 1), (28, .invokevirtual 77, 3), (31, .iconst (-1), 1), (32, .ixor, 1), (33, .iand, 1), (34, .invokevirtual 452, 3), (37, .iload_n 3, 1), (38, .iconst 1, 1), (39, .iadd, 1), (40, .iconst 2, 1), (41, .idiv, 1), (42, .iadd, 1), (43, .aload_n 0, 1), (44, .aload_n 0, 1), (45, .iload_n 2, 1), (46, .iconst 4, 1), (47, .invokevirtual 77, 3), (50, .aload_n 0, 1), (51, .iload_n 1, 1), (52, .iconst 4, 1), (53, .invokevirtual 77, 3), (56, .iconst (-1), 1), (57, .ixor, 1), (58, .iand, 1), (59, .invokevirtual 452, 3), (62, .isub, 1), (63, .iload_n 3, 1), (64, .iconst 2, 1), (65, .idiv, 1), (66, .isub, 1), (67, .ireturn, 1)]
def M_Mo_marginOf : MT := (t_Mo_marginOf, P_Mo, [], [])
theorem T_Mo_marginOf : TabOK i_Mo_marginOf M_Mo_marginOf := tab_ok (by decide +kernel)
theorem H_Mo_marginOf : ThrOK i_Mo_marginOf M_Mo_marginOf := ⟨fa_n, rfl, fa_n⟩
def t_Mo_leftIn : List (Nat × Instr × Nat) := [(0, .iconst 0, 1), (1, .istore_n 2, 1), (2, .iconst 0, 1), (3, .istore_n 3, 1), (4, .iload_n 3, 1), (5, .aload_n 0, 1), (6, .invokevirtual 84, 3), (9, .if_icmp .ge 29, 3), (12, .iload_n 2, 1), (13, .iload_n 1, 1), (14, .iload_n 3, 1), (15, .invokestatic 80, 3), (18, .ifCond .eq 11, 3), (21, .aload_n 0, 1), (22, .iload_n 3, 1), (23, .invokevirtual 333, 3), (26, .goto 4, 3), (29, .iconst 0, 1), (30, .iadd, 1), (31, .istore_n 2, 1), (32, .iinc 3 1, 3), (35, .goto (-31), 3), (38, .iload_n 2, 1), (39, .ireturn, 1)]
def M_Mo_leftIn : MT := (t_Mo_leftIn, P_Mo, [], [])
theorem T_Mo_leftIn : TabOK i_Mo_leftIn M_Mo_leftIn := tab_ok (by decide +kernel)
theorem H_Mo_leftIn : ThrOK i_Mo_leftIn M_Mo_leftIn := ⟨fa_n, rfl, fa_n⟩
def t_Mo_margin : List (Nat × Instr × Nat) := [(0, .aload_n 0, 1), (1, .iconst 0, 1), (2, .putfield 3, 3), (5, .aload_n 0, 1), (6, .aload_n 0, 1), (7, .iload_n 1, 1), (8, .invokevirtual 306, 3), (11, .ifCond .ne 11, 3), (14, .aload_n 0, 1), (15, .iload_n 2, 1), (16, .invokevirtual 306, 3), (19, .ifCond .eq 7, 3), (22, .iconst 1, 1), (23, .goto 4, 3), (26, .iconst 0, 1), (27, .iconst 1, 1), (28, .invokevirtual 265, 3), (31, .ifCond .ne 21, 3), (34, .aload_n 0, 1), (35, .iload_n 1, 1), (36, .iload_n 2, 1), (37, .if_icmp .ne 7, 3), (40, .iconst 1, 1), (41, .goto 4, 3), (44, .iconst 0, 1), (45, .iconst 2, 1), (46, .invokevirtual 265, 3), (49, .ifCond .eq 7, 3), (52, .iconst 0, 1), (53, .goto 9, 3), (56, .aload_n 0, 1), (57, .iload_n 1, 1), (58, .iload_n 2, 1), (59, .invokevirtual 455, 3), (62, .ireturn, 1)]
def M_Mo_margin : MT := (t_Mo_margin, P_Mo, [], [])
theorem T_Mo_margin : TabOK i_Mo_margin M_Mo_margin := tab_ok (by decide +kernel)
theorem H_Mo_margin : ThrOK i_Mo_margin M_Mo_margin := ⟨fa_n, rfl, fa_n⟩
def t_Mo_call : List (Nat × Instr × Nat) := [(0, .aload_n 0, 1), (1, .iconst 0, 1), (2, .putfield 3, 3), (5, .aload_n 0, 1), (6, .aload_n 0, 1), (7, .iload_n 1, 1), (8, .invokevirtual 92, 3), (11, .iconst 1, 1), (12, .invokevirtual 265, 3), (15, .ifCond .eq 5, 3), (18, .iconst 0, 1), (19, .ireturn, 1), (20, .iconst (-1), 1), (21, .istore_n 3, 1), (22, .iconst 0, 1), (23, .istore 4, 2), (25, .iconst 0, 1), (26, .istore 5, 2), (28, .iload 5, 2), (30, .aload_n 0, 1), (31, .invokevirtual 100, 3), (34, .if_icmp .ge 80, 3), (37, .aload_n 0, 1), (38, .iload 5, 2), (40, .invokevirtual 293, 3), (43, .ifCond .eq 65, 3), (46, .aload_n 0, 1), (47, .iload 5, 2), (49, .iload_n 1, 1), (50, .invokevirtual 279, 3), (53, .ifCond .eq 55, 3), (56, .aload_n 0, 1), (57, .iload_n 1, 1), (58, .invokevirtual 333, 3), (61, .ifCond .ne 6, 3), (64, .goto 44, 3), (67, .bipush 100, 2), (69, .aload_n 0, 1), (70, .iload 5, 2), (72, .iconst 3, 1), (73, .invokevirtual 77, 3), (76, .isub, 1), (77, .aload_n 0, 1), (78, .iload 5, 2), (80, .iload_n 1, 1), (81, .invokevirtual 458, 3), (84, .imul, 1), (85, .istore 6, 2), (87, .iload_n 3, 1), (88, .ifCond .lt 13, 3), (91, .iload 6, 2), (93, .iload 4, 2), (95, .if_icmp .gt 6, 3), (98, .goto 10, 3), (101, .iload 5, 2), (103, .istore_n 3, 1), (104, .iload 6, 2), (106, .istore 4, 2), (108, .iinc 5 1, 3), (111, .goto (-83), 3), (114, .iload_n 2, 1), (115, .ifCond .eq 8, 3), (118, .iload 4, 2), (120, .goto 4, 3), (123, .iload_n 3, 1), (124, .ireturn, 1)]
def M_Mo_call : MT := (t_Mo_call, P_Mo, [], [])
theorem T_Mo_call : TabOK i_Mo_call M_Mo_call := tab_ok (by decide +kernel)
theorem H_Mo_call : ThrOK i_Mo_call M_Mo_call := ⟨fa_n, rfl, fa_n⟩
def t_Mo_mostBy : List (Nat × Instr × Nat) := [(0, .iconst 0, 1), (1, .istore_n 3, 1), (2, .iconst 0, 1), (3, .istore 4, 2), (5, .iload 4, 2), (7, .aload_n 0, 1), (8, .iload_n 2, 1), (9, .invokevirtual 96, 3), (12, .if_icmp .ge 47, 3), (15, .aload_n 0, 1), (16, .iload_n 2, 1), (17, .iload 4, 2), (19, .invokevirtual 319, 3), (22, .ifCond .ne 31, 3), (25, .iload_n 3, 1), (26, .aload_n 0, 1), (27, .iload_n 2, 1), (28, .iload 4, 2), (30, .invokestatic 312, 3), (33, .iload_n 1, 1), (34, .iconst 1, 1), (35, .invokevirtual 315, 3), (38, .aload_n 0, 1), (39, .iload_n 2, 1), (40, .invokevirtual 336, 3), (43, .iconst (-1), 1), (44, .ixor, 1), (45, .iand, 1), (46, .invokestatic 325, 3), (49, .invokestatic 273, 3), (52, .istore_n 3, 1), (53, .iinc 4 1, 3), (56, .goto (-51), 3), (59, .iload_n 3, 1), (60, .ireturn, 1)]
def M_Mo_mostBy : MT := (t_Mo_mostBy, P_Mo, [], [])
theorem T_Mo_mostBy : TabOK i_Mo_mostBy M_Mo_mostBy := tab_ok (by decide +kernel)
theorem H_Mo_mostBy : ThrOK i_Mo_mostBy M_Mo_mostBy := ⟨fa_n, rfl, fa_n⟩
def t_Mo_trial : List (Nat × Instr × Nat) := [(0, .aload_n 0, 1), (1, .iconst 0, 1), (2, .putfield 3, 3), (5, .aload_n 0, 1), (6, .iload_n 2, 1), (7, .iconst (-1), 1), (8, .if_icmp .eq 15, 3), (11, .aload_n 0, 1), (12, .iload_n 2, 1), (13, .invokevirtual 92, 3), (16, .ifCond .eq 7, 3), (19, .iconst 1, 1), (20, .goto 4, 3), (23, .iconst 0, 1), (24, .iconst 1, 1), (25, .invokevirtual 265, 3), (28, .ifCond .ne 26, 3), (31, .aload_n 0, 1), (32, .iload_n 1, 1), (33, .iconst 0, 1), (34, .bipush 40, 2), (36, .invokestatic 88, 3), (39, .ifCond .ne 7, 3), (42, .iconst 1, 1), (43, .goto 4, 3), (46, .iconst 0, 1), (47, .iconst 2, 1), (48, .invokevirtual 265, 3), (51, .ifCond .eq 5, 3), (54, .iconst 0, 1), (55, .ireturn, 1), (56, .aload_n 0, 1), (57, .invokevirtual 434, 3), (60, .aload_n 0, 1), (61, .iload_n 1, 1), (62, .invokevirtual 379, 3), (65, .istore_n 3, 1), (66, .iload_n 2, 1), (67, .iconst (-1), 1), (68, .if_icmp .ne 7, 3), (71, .iload_n 3, 1), (72, .goto 11, 3), (75, .aload_n 0, 1), (76, .iload_n 2, 1), (77, .invokevirtual 336, 3), (80, .invokestatic 325, 3), (83, .istore 4, 2), (85, .aload_n 0, 1), (86, .invokevirtual 440, 3), (89, .iload 4, 2), (91, .ireturn, 1)]
def M_Mo_trial : MT := (t_Mo_trial, P_Mo, [], [])
theorem T_Mo_trial : TabOK i_Mo_trial M_Mo_trial := tab_ok (by decide +kernel)
theorem H_Mo_trial : ThrOK i_Mo_trial M_Mo_trial := ⟨fa_n, rfl, fa_n⟩
def t_Mo_span : List (Nat × Instr × Nat) := [(0, .aload_n 0, 1), (1, .iconst 0, 1), (2, .putfield 3, 3), (5, .aload_n 0, 1), (6, .iload_n 1, 1), (7, .iconst 0, 1), (8, .bipush 40, 2), (10, .invokestatic 88, 3), (13, .ifCond .ne 7, 3), (16, .iconst 1, 1), (17, .goto 4, 3), (20, .iconst 0, 1), (21, .iconst 1, 1), (22, .invokevirtual 265, 3), (25, .ifCond .eq 5, 3), (28, .iconst 0, 1), (29, .ireturn, 1), (30, .aload_n 0, 1), (31, .invokevirtual 434, 3), (34, .iconst (-1), 1), (35, .istore_n 3, 1), (36, .iconst 1, 1), (37, .istore 4, 2), (39, .iload 4, 2), (41, .bipush 6, 2), (43, .if_icmp .gt 58, 3), (46, .aload_n 0, 1), (47, .getfield 13, 3), (50, .bipush 8, 2), (52, .iload 4, 2), (54, .iastore, 1), (55, .aload_n 0, 1), (56, .iload_n 1, 1), (57, .invokevirtual 379, 3), (60, .istore 5, 2), (62, .aload_n 0, 1), (63, .invokevirtual 440, 3), (66, .iload_n 3, 1), (67, .ifCond .ge 8, 3), (70, .iload 5, 2), (72, .goto 22, 3), (75, .iload_n 2, 1), (76, .ifCond .eq 12, 3), (79, .iload_n 3, 1), (80, .iload 5, 2), (82, .invokestatic 273, 3), (85, .goto 9, 3), (88, .iload_n 3, 1), (89, .iload 5, 2), (91, .invokestatic 345, 3), (94, .istore_n 3, 1), (95, .iinc 4 1, 3), (98, .goto (-59), 3), (101, .iload_n 3, 1), (102, .ireturn, 1)]
def M_Mo_span : MT := (t_Mo_span, P_Mo, [], [])
theorem T_Mo_span : TabOK i_Mo_span M_Mo_span := tab_ok (by decide +kernel)
theorem H_Mo_span : ThrOK i_Mo_span M_Mo_span := ⟨fa_n, rfl, fa_n⟩
def t_Mo_how : List (Nat × Instr × Nat) := [(0, .aload_n 0, 1), (1, .iconst 0, 1), (2, .putfield 3, 3), (5, .aload_n 0, 1), (6, .aload_n 0, 1), (7, .iload_n 1, 1), (8, .invokevirtual 306, 3), (11, .ifCond .ne 11, 3), (14, .aload_n 0, 1), (15, .iload_n 2, 1), (16, .invokevirtual 92, 3), (19, .ifCond .eq 7, 3), (22, .iconst 1, 1), (23, .goto 4, 3), (26, .iconst 0, 1), (27, .iconst 1, 1), (28, .invokevirtual 265, 3), (31, .ifCond .eq 7, 3), (34, .iconst 0, 1), (35, .goto 10, 3), (38, .aload_n 0, 1), (39, .iload_n 1, 1), (40, .iload_n 2, 1), (41, .iconst 0, 1), (42, .invokevirtual 461, 3), (45, .ireturn, 1)]
def M_Mo_how : MT := (t_Mo_how, P_Mo, [], [])
theorem T_Mo_how : TabOK i_Mo_how M_Mo_how := tab_ok (by decide +kernel)
theorem H_Mo_how : ThrOK i_Mo_how M_Mo_how := ⟨fa_n, rfl, fa_n⟩
def t_Mo_rowOf : List (Nat × Instr × Nat) := [(0, .iload_n 3, 1), (1, .istore 4, 2), (3, .iload 4, 2), (5, .aload_n 0, 1), (6, .getfield 13, 3), (9, .bipush 7, 2), (11, .iaload, 1), (12, .if_icmp .ge 39, 3), (15, .aload_n 0, 1), (16, .iload 4, 2), (18, .iconst 3, 1), (19, .invokevirtual 358, 3), (22, .iload_n 1, 1), (23, .invokestatic 80, 3), (26, .ifCond .eq 19, 3), (29, .aload_n 0, 1), (30, .iload 4, 2), (32, .iconst 5, 1), (33, .iload_n 1, 1), (34, .iadd, 1), (35, .invokevirtual 358, 3), (38, .iload_n 2, 1), (39, .if_icmp .ne 6, 3), (42, .iload 4, 2), (44, .ireturn, 1), (45, .iinc 4 1, 3), (48, .goto (-45), 3), (51, .iconst (-1), 1), (52, .ireturn, 1)]
def M_Mo_rowOf : MT := (t_Mo_rowOf, P_Mo, [], [])
theorem T_Mo_rowOf : TabOK i_Mo_rowOf M_Mo_rowOf := tab_ok (by decide +kernel)
theorem H_Mo_rowOf : ThrOK i_Mo_rowOf M_Mo_rowOf := ⟨fa_n, rfl, fa_n⟩
def t_Mo_teacher : List (Nat × Instr × Nat) := [(0, .aload_n 0, 1), (1, .iconst 0, 1), (2, .putfield 3, 3), (5, .iconst (-1), 1), (6, .istore_n 1, 1), (7, .iconst 0, 1), (8, .istore_n 2, 1), (9, .iload_n 2, 1), (10, .aload_n 0, 1), (11, .invokevirtual 100, 3), (14, .if_icmp .ge 36, 3), (17, .aload_n 0, 1), (18, .iload_n 2, 1), (19, .invokevirtual 464, 3), (22, .ifCond .le 22, 3), (25, .iload_n 1, 1), (26, .ifCond .lt 16, 3), (29, .aload_n 0, 1), (30, .iload_n 2, 1), (31, .invokevirtual 464, 3), (34, .aload_n 0, 1), (35, .iload_n 1, 1), (36, .invokevirtual 464, 3), (39, .if_icmp .le 5, 3), (42, .iload_n 2, 1), (43, .istore_n 1, 1), (44, .iinc 2 1, 3), (47, .goto (-38), 3), (50, .iload_n 1, 1), (51, .ireturn, 1)]
def M_Mo_teacher : MT := (t_Mo_teacher, P_Mo, [], [])
theorem T_Mo_teacher : TabOK i_Mo_teacher M_Mo_teacher := tab_ok (by decide +kernel)
theorem H_Mo_teacher : ThrOK i_Mo_teacher M_Mo_teacher := ⟨fa_n, rfl, fa_n⟩
def t_Mo_taught : List (Nat × Instr × Nat) := [(0, .iconst 0, 1), (1, .istore_n 2, 1), (2, .iconst 0, 1), (3, .istore_n 3, 1), (4, .iload_n 3, 1), (5, .aload_n 0, 1), (6, .getfield 13, 3), (9, .bipush 7, 2), (11, .iaload, 1), (12, .if_icmp .ge 35, 3), (15, .iload_n 2, 1), (16, .aload_n 0, 1), (17, .iload_n 3, 1), (18, .iconst 1, 1), (19, .invokevirtual 358, 3), (22, .iload_n 1, 1), (23, .if_icmp .ne 15, 3), (26, .aload_n 0, 1), (27, .iload_n 3, 1), (28, .iconst 3, 1), (29, .invokevirtual 358, 3), (32, .invokestatic 325, 3), (35, .goto 4, 3), (38, .iconst 0, 1), (39, .iadd, 1), (40, .istore_n 2, 1), (41, .iinc 3 1, 3), (44, .goto (-40), 3), (47, .iload_n 2, 1), (48, .ireturn, 1)]
def M_Mo_taught : MT := (t_Mo_taught, P_Mo, [], [])
theorem T_Mo_taught : TabOK i_Mo_taught M_Mo_taught := tab_ok (by decide +kernel)
theorem H_Mo_taught : ThrOK i_Mo_taught M_Mo_taught := ⟨fa_n, rfl, fa_n⟩
def t_Mo_chain : List (Nat × Instr × Nat) := [(0, .aload_n 0, 1), (1, .iconst 0, 1), (2, .putfield 3, 3), (5, .aload_n 0, 1), (6, .aload_n 0, 1), (7, .iload_n 1, 1), (8, .invokevirtual 306, 3), (11, .ifCond .ne 11, 3), (14, .aload_n 0, 1), (15, .iload_n 2, 1), (16, .invokevirtual 92, 3), (19, .ifCond .eq 7, 3), (22, .iconst 1, 1), (23, .goto 4, 3), (26, .iconst 0, 1), (27, .iconst 1, 1), (28, .invokevirtual 265, 3), (31, .ifCond .eq 5, 3), (34, .iconst 0, 1), (35, .ireturn, 1), (36, .aload_n 0, 1), (37, .iload_n 1, 1), (38, .iload_n 2, 1), (39, .invokevirtual 279, 3), (42, .ifCond .ne 13, 3), (45, .iload_n 3, 1), (46, .ifCond .eq 7, 3), (49, .iconst (-1), 1), (50, .goto 4, 3), (53, .iconst 0, 1), (54, .ireturn, 1), (55, .iconst 0, 1), (56, .istore 4, 2), (58, .iload_n 1, 1), (59, .istore 5, 2), (61, .aload_n 0, 1), (62, .iload_n 1, 1), (63, .iload_n 2, 1), (64, .iconst 0, 1), (65, .invokevirtual 461, 3), (68, .istore 6, 2), (70, .iload 6, 2), (72, .ifCond .lt 40, 3), (75, .iinc 4 1, 3), (78, .aload_n 0, 1), (79, .iload 6, 2), (81, .iconst 1, 1), (82, .invokevirtual 358, 3), (85, .istore 5, 2), (87, .aload_n 0, 1), (88, .iload 5, 2), (90, .aload_n 0, 1), (91, .iload 6, 2), (93, .iconst 2, 1), (94, .invokevirtual 358, 3), (97, .bipush 6, 2), (99, .idiv, 1), (100, .iload 6, 2), (102, .iconst 1, 1), (103, .iadd, 1), (104, .invokevirtual 461, 3), (107, .istore 6, 2), (109, .goto (-39), 3), (112, .iload_n 3, 1), (113, .ifCond .eq 8, 3), (116, .iload 5, 2), (118, .goto 5, 3), (121, .iload 4, 2), (123, .ireturn, 1)]
def M_Mo_chain : MT := (t_Mo_chain, P_Mo, [], [])
theorem T_Mo_chain : TabOK i_Mo_chain M_Mo_chain := tab_ok (by decide +kernel)
theorem H_Mo_chain : ThrOK i_Mo_chain M_Mo_chain := ⟨fa_n, rfl, fa_n⟩
def t_Mo_spot : List (Nat × Instr × Nat) := [(0, .aload_n 0, 1), (1, .iconst 0, 1), (2, .putfield 3, 3), (5, .aload_n 0, 1), (6, .aload_n 0, 1), (7, .iload_n 1, 1), (8, .invokevirtual 306, 3), (11, .ifCond .ne 21, 3), (14, .aload_n 0, 1), (15, .iload_n 2, 1), (16, .invokevirtual 306, 3), (19, .ifCond .ne 13, 3), (22, .aload_n 0, 1), (23, .iload_n 3, 1), (24, .iload 4, 2), (26, .invokevirtual 309, 3), (29, .ifCond .eq 7, 3), (32, .iconst 1, 1), (33, .goto 4, 3), (36, .iconst 0, 1), (37, .iconst 1, 1), (38, .invokevirtual 265, 3), (41, .ifCond .ne 21, 3), (44, .aload_n 0, 1), (45, .iload_n 1, 1), (46, .iload_n 2, 1), (47, .if_icmp .ne 7, 3), (50, .iconst 1, 1), (51, .goto 4, 3), (54, .iconst 0, 1), (55, .iconst 2, 1), (56, .invokevirtual 265, 3), (59, .ifCond .eq 5, 3), (62, .iconst 0, 1), (63, .ireturn, 1), (64, .iconst 0, 1), (65, .istore 5, 2), (67, .iload 5, 2), (69, .bipush 100, 2), (71, .if_icmp .ge 64, 3), (74, .aload_n 0, 1), (75, .iload 5, 2), (77, .bipush 10, 2), (79, .idiv, 1), (80, .iload 5, 2), (82, .bipush 10, 2), (84, .irem, 1), (85, .invokevirtual 141, 3), (88, .istore 6, 2), (90, .iload 6, 2), (92, .ifCond .lt 9, 3), (95, .iload 6, 2), (97, .iload_n 1, 1), (98, .if_icmp .ne 31, 3), (101, .aload_n 0, 1), (102, .iload_n 1, 1), (103, .iload_n 2, 1), (104, .iload_n 3, 1), (105, .iload 4, 2), (107, .invokestatic 312, 3), (110, .iload 5, 2), (112, .bipush 10, 2), (114, .idiv, 1), (115, .iload 5, 2), (117, .bipush 10, 2), (119, .irem, 1), (120, .invokevirtual 467, 3), (123, .ifCond .eq 6, 3), (126, .iload 5, 2), (128, .ireturn, 1), (129, .iinc 5 1, 3), (132, .goto (-65), 3), (135, .iconst (-1), 1), (136, .ireturn, 1)]
def M_Mo_spot : MT := (t_Mo_spot, P_Mo, [], [])
theorem T_Mo_spot : TabOK i_Mo_spot M_Mo_spot := tab_ok (by decide +kernel)
theorem H_Mo_spot : ThrOK i_Mo_spot M_Mo_spot := ⟨fa_n, rfl, fa_n⟩
def t_Mo_isHeardAt : List (Nat × Instr × Nat) := [(0, .aload_n 0, 1), (1, .iload_n 1, 1), (2, .iconst 0, 1), (3, .invokevirtual 77, 3), (6, .istore 6, 2), (8, .aload_n 0, 1), (9, .iload_n 1, 1), (10, .iconst 1, 1), (11, .invokevirtual 77, 3), (14, .istore 7, 2), (16, .aload_n 0, 1), (17, .getfield 13, 3), (20, .iload_n 1, 1), (21, .iconst 0, 1), (22, .invokestatic 73, 3), (25, .iload 4, 2), (27, .iastore, 1), (28, .aload_n 0, 1), (29, .getfield 13, 3), (32, .iload_n 1, 1), (33, .iconst 1, 1), (34, .invokestatic 73, 3), (37, .iload 5, 2), (39, .iastore, 1), (40, .aload_n 0, 1), (41, .iload_n 3, 1), (42, .iload_n 2, 1), (43, .iload_n 1, 1), (44, .invokevirtual 303, 3), (47, .ifCond .lt 7, 3), (50, .iconst 1, 1), (51, .goto 4, 3), (54, .iconst 0, 1), (55, .istore 8, 2), (57, .aload_n 0, 1), (58, .getfield 13, 3), (61, .iload_n 1, 1), (62, .iconst 0, 1), (63, .invokestatic 73, 3), (66, .iload 6, 2), (68, .iastore, 1), (69, .aload_n 0, 1), (70, .getfield 13, 3), (73, .iload_n 1, 1), (74, .iconst 1, 1), (75, .invokestatic 73, 3), (78, .iload 7, 2), (80, .iastore, 1), (81, .iload 8, 2), (83, .ireturn, 1)]
def M_Mo_isHeardAt : MT := (t_Mo_isHeardAt, P_Mo, [], [])
theorem T_Mo_isHeardAt : TabOK i_Mo_isHeardAt M_Mo_isHeardAt := tab_ok (by decide +kernel)
theorem H_Mo_isHeardAt : ThrOK i_Mo_isHeardAt M_Mo_isHeardAt := ⟨fa_n, rfl, fa_n⟩
def t_Mo_speakers : List (Nat × Instr × Nat) := [(0, .aload_n 0, 1), (1, .iconst 0, 1), (2, .putfield 3, 3), (5, .aload_n 0, 1), (6, .aload_n 0, 1), (7, .iload_n 1, 1), (8, .invokevirtual 92, 3), (11, .iconst 1, 1), (12, .invokevirtual 265, 3), (15, .ifCond .eq 5, 3), (18, .iconst 0, 1), (19, .ireturn, 1), (20, .aload_n 0, 1), (21, .iload_n 1, 1), (22, .invokevirtual 336, 3), (25, .aload_n 0, 1), (26, .invokevirtual 373, 3), (29, .iand, 1), (30, .istore_n 2, 1), (31, .iconst 0, 1), (32, .istore_n 3, 1), (33, .iload_n 3, 1), (34, .aload_n 0, 1), (35, .invokevirtual 100, 3), (38, .if_icmp .ge 21, 3), (41, .aload_n 0, 1), (42, .getfield 56, 3), (45, .iload_n 3, 1), (46, .aload_n 0, 1), (47, .iload_n 3, 1), (48, .iload_n 1, 1), (49, .invokevirtual 471, 3), (52, .iastore, 1), (53, .iinc 3 1, 3), (56, .goto (-23), 3), (59, .iconst (-1), 1), (60, .istore_n 3, 1), (61, .iload_n 2, 1), (62, .istore 4, 2), (64, .iload 4, 2), (66, .ifCond .lt 107, 3), (69, .iload 4, 2), (71, .iload_n 2, 1), (72, .iconst (-1), 1), (73, .ixor, 1), (74, .iand, 1), (75, .ifCond .ne 92, 3), (78, .iload_n 3, 1), (79, .ifCond .lt 18, 3), (82, .iload 4, 2), (84, .invokestatic 325, 3), (87, .iload_n 3, 1), (88, .invokestatic 325, 3), (91, .if_icmp .le 6, 3), (94, .goto 73, 3), (97, .aload_n 0, 1), (98, .iload_n 1, 1), (99, .invokevirtual 336, 3), (102, .istore 5, 2), (104, .iconst 0, 1), (105, .istore 6, 2), (107, .iload 6, 2), (109, .aload_n 0, 1), (110, .invokevirtual 100, 3), (113, .if_icmp .ge 35, 3), (116, .iload 5, 2), (118, .iload 4, 2), (120, .iload 6, 2), (122, .invokestatic 80, 3), (125, .ifCond .eq 13, 3), (128, .aload_n 0, 1), (129, .getfield 56, 3), (132, .iload 6, 2), (134, .iaload, 1), (135, .goto 4, 3), (138, .iconst 0, 1), (139, .ior, 1), (140, .istore 5, 2), (142, .iinc 6 1, 3), (145, .goto (-38), 3), (148, .aload_n 0, 1), (149, .invokevirtual 373, 3), (152, .iload 5, 2), (154, .iconst (-1), 1), (155, .ixor, 1), (156, .iand, 1), (157, .ifCond .ne 8, 3), (160, .iload 4, 2), (162, .goto 4, 3), (165, .iload_n 3, 1), (166, .istore_n 3, 1), (167, .iinc 4 (-1), 3), (170, .goto (-106), 3), (173, .iload_n 3, 1), (174, .ireturn, 1)]
def M_Mo_speakers : MT := (t_Mo_speakers, P_Mo, [], [])
theorem T_Mo_speakers : TabOK i_Mo_speakers M_Mo_speakers := tab_ok (by decide +kernel)
theorem H_Mo_speakers : ThrOK i_Mo_speakers M_Mo_speakers := ⟨fa_n, rfl, fa_n⟩
def t_Mo_reached : List (Nat × Instr × Nat) := [(0, .iconst 0, 1), (1, .istore_n 3, 1), (2, .iconst 0, 1), (3, .istore 4, 2), (5, .iload 4, 2), (7, .aload_n 0, 1), (8, .iload_n 2, 1), (9, .invokevirtual 96, 3), (12, .if_icmp .ge 38, 3), (15, .iload_n 3, 1), (16, .aload_n 0, 1), (17, .iload_n 2, 1), (18, .iload 4, 2), (20, .invokevirtual 319, 3), (23, .ifCond .eq 7, 3), (26, .iconst 0, 1), (27, .goto 15, 3), (30, .aload_n 0, 1), (31, .iload_n 2, 1), (32, .iload 4, 2), (34, .invokestatic 312, 3), (37, .iload_n 1, 1), (38, .iconst 1, 1), (39, .invokevirtual 315, 3), (42, .ior, 1), (43, .istore_n 3, 1), (44, .iinc 4 1, 3), (47, .goto (-42), 3), (50, .iload_n 3, 1), (51, .ireturn, 1)]
def M_Mo_reached : MT := (t_Mo_reached, P_Mo, [], [])
theorem T_Mo_reached : TabOK i_Mo_reached M_Mo_reached := tab_ok (by decide +kernel)
theorem H_Mo_reached : ThrOK i_Mo_reached M_Mo_reached := ⟨fa_n, rfl, fa_n⟩
def t_Mo_between : List (Nat × Instr × Nat) := [(0, .aload_n 0, 1), (1, .iconst 0, 1), (2, .putfield 3, 3), (5, .aload_n 0, 1), (6, .aload_n 0, 1), (7, .iload_n 1, 1), (8, .invokevirtual 306, 3), (11, .ifCond .ne 11, 3), (14, .aload_n 0, 1), (15, .iload_n 2, 1), (16, .invokevirtual 306, 3), (19, .ifCond .eq 7, 3), (22, .iconst 1, 1), (23, .goto 4, 3), (26, .iconst 0, 1), (27, .iconst 1, 1), (28, .invokevirtual 265, 3), (31, .ifCond .ne 21, 3), (34, .aload_n 0, 1), (35, .iload_n 1, 1), (36, .iload_n 2, 1), (37, .if_icmp .ne 7, 3), (40, .iconst 1, 1), (41, .goto 4, 3), (44, .iconst 0, 1), (45, .iconst 2, 1), (46, .invokevirtual 265, 3), (49, .ifCond .eq 5, 3), (52, .iconst 0, 1), (53, .ireturn, 1), (54, .iconst 0, 1), (55, .istore_n 3, 1), (56, .iconst 0, 1), (57, .istore 4, 2), (59, .iload 4, 2), (61, .aload_n 0, 1), (62, .invokevirtual 84, 3), (65, .if_icmp .ge 76, 3), (68, .iconst 0, 1), (69, .istore 5, 2), (71, .iload 5, 2), (73, .aload_n 0, 1), (74, .iload 4, 2), (76, .invokevirtual 96, 3), (79, .if_icmp .ge 56, 3), (82, .aload_n 0, 1), (83, .iload_n 1, 1), (84, .iload 4, 2), (86, .iload 5, 2), (88, .invokevirtual 361, 3), (91, .ifCond .eq 19, 3), (94, .aload_n 0, 1), (95, .iload 4, 2), (97, .iload 5, 2), (99, .invokestatic 312, 3), (102, .iload_n 1, 1), (103, .iload_n 2, 1), (104, .invokevirtual 303, 3), (107, .goto 4, 3), (110, .iconst (-1), 1), (111, .istore 6, 2), (113, .iload_n 3, 1), (114, .iload 6, 2), (116, .ifCond .ge 7, 3), (119, .iconst 0, 1), (120, .goto 7, 3), (123, .iconst 1, 1), (124, .iload 6, 2), (126, .ishl, 1), (127, .ior, 1), (128, .istore_n 3, 1), (129, .iinc 5 1, 3), (132, .goto (-61), 3), (135, .iinc 4 1, 3), (138, .goto (-79), 3), (141, .iload_n 3, 1), (142, .ireturn, 1)]
def M_Mo_between : MT := (t_Mo_between, P_Mo, [], [])
theorem T_Mo_between : TabOK i_Mo_between M_Mo_between := tab_ok (by decide +kernel)
theorem H_Mo_between : ThrOK i_Mo_between M_Mo_between := ⟨fa_n, rfl, fa_n⟩
def t_Mo_echo : List (Nat × Instr × Nat) := [(0, .aload_n 0, 1), (1, .iconst 0, 1), (2, .putfield 3, 3), (5, .aload_n 0, 1), (6, .aload_n 0, 1), (7, .iload_n 1, 1), (8, .invokevirtual 306, 3), (11, .ifCond .ne 12, 3), (14, .aload_n 0, 1), (15, .iload_n 2, 1), (16, .iload_n 3, 1), (17, .invokevirtual 309, 3), (20, .ifCond .eq 7, 3), (23, .iconst 1, 1), (24, .goto 4, 3), (27, .iconst 0, 1), (28, .iconst 1, 1), (29, .invokevirtual 265, 3), (32, .ifCond .eq 5, 3), (35, .iconst 0, 1), (36, .ireturn, 1), (37, .iconst 0, 1), (38, .istore 5, 2), (40, .iconst (-1), 1), (41, .istore 6, 2), (43, .iconst 0, 1), (44, .istore 7, 2), (46, .iconst 0, 1), (47, .istore 8, 2), (49, .iload 8, 2), (51, .aload_n 0, 1), (52, .invokevirtual 84, 3), (55, .if_icmp .ge 56, 3), (58, .aload_n 0, 1), (59, .iload_n 2, 1), (60, .iload_n 3, 1), (61, .invokestatic 312, 3), (64, .iload_n 1, 1), (65, .iload 8, 2), (67, .invokevirtual 474, 3), (70, .istore 9, 2), (72, .iload 5, 2), (74, .iload 9, 2), (76, .ifCond .le 7, 3), (79, .iconst 1, 1), (80, .goto 4, 3), (83, .iconst 0, 1), (84, .iadd, 1), (85, .istore 5, 2), (87, .iload 9, 2), (89, .iload 7, 2), (91, .if_icmp .gt 6, 3), (94, .goto 11, 3), (97, .iload 8, 2), (99, .istore 6, 2), (101, .iload 9, 2), (103, .istore 7, 2), (105, .iinc 8 1, 3), (108, .goto (-59), 3), (111, .iload 4, 2), (113, .ifCond .eq 8, 3), (116, .iload 6, 2), (118, .goto 5, 3), (121, .iload 5, 2), (123, .ireturn, 1)]
def M_Mo_echo : MT := (t_Mo_echo, P_Mo, [], [])
theorem T_Mo_echo : TabOK i_Mo_echo M_Mo_echo := tab_ok (by decide +kernel)
theorem H_Mo_echo : ThrOK i_Mo_echo M_Mo_echo := ⟨fa_n, rfl, fa_n⟩
def t_Mo_takenBy : List (Nat × Instr × Nat) := [(0, .iconst 0, 1), (1, .istore 4, 2), (3, .iconst 0, 1), (4, .istore 5, 2), (6, .iload 5, 2), (8, .aload_n 0, 1), (9, .invokevirtual 100, 3), (12, .if_icmp .ge 37, 3), (15, .iload 4, 2), (17, .iload 5, 2), (19, .iload_n 2, 1), (20, .if_icmp .eq 19, 3), (23, .aload_n 0, 1), (24, .iload_n 1, 1), (25, .iload_n 2, 1), (26, .iload 5, 2), (28, .invokevirtual 303, 3), (31, .iload_n 3, 1), (32, .if_icmp .ne 7, 3), (35, .iconst 1, 1), (36, .goto 4, 3), (39, .iconst 0, 1), (40, .iadd, 1), (41, .istore 4, 2), (43, .iinc 5 1, 3), (46, .goto (-40), 3), (49, .iload 4, 2), (51, .ireturn, 1)]
def M_Mo_takenBy : MT := (t_Mo_takenBy, P_Mo, [], [])
theorem T_Mo_takenBy : TabOK i_Mo_takenBy M_Mo_takenBy := tab_ok (by decide +kernel)
theorem H_Mo_takenBy : ThrOK i_Mo_takenBy M_Mo_takenBy := ⟨fa_n, rfl, fa_n⟩
def t_Mo_learnt : List (Nat × Instr × Nat) := [(0, .aload_n 0, 1), (1, .iconst 0, 1), (2, .putfield 3, 3), (5, .aload_n 0, 1), (6, .aload_n 0, 1), (7, .iload_n 2, 1), (8, .invokevirtual 306, 3), (11, .iconst 1, 1), (12, .invokevirtual 265, 3), (15, .ifCond .eq 5, 3), (18, .iconst 0, 1), (19, .ireturn, 1), (20, .iload_n 1, 1), (21, .iconst 0, 1), (22, .aload_n 0, 1), (23, .getfield 13, 3), (26, .bipush 7, 2), (28, .iaload, 1), (29, .iconst 1, 1), (30, .isub, 1), (31, .invokestatic 88, 3), (34, .ifCond .eq 14, 3), (37, .aload_n 0, 1), (38, .iload_n 1, 1), (39, .iconst 5, 1), (40, .iload_n 2, 1), (41, .iadd, 1), (42, .invokevirtual 358, 3), (45, .goto 4, 3), (48, .iconst (-1), 1), (49, .ireturn, 1)]
def M_Mo_learnt : MT := (t_Mo_learnt, P_Mo, [], [])
theorem T_Mo_learnt : TabOK i_Mo_learnt M_Mo_learnt := tab_ok (by decide +kernel)
theorem H_Mo_learnt : ThrOK i_Mo_learnt M_Mo_learnt := ⟨fa_n, rfl, fa_n⟩
def t_Mo_log : List (Nat × Instr × Nat) := [(0, .aload_n 0, 1), (1, .iconst 0, 1), (2, .putfield 3, 3), (5, .aload_n 0, 1), (6, .iload_n 2, 1), (7, .iconst 0, 1), (8, .iconst 4, 1), (9, .invokestatic 88, 3), (12, .ifCond .ne 7, 3), (15, .iconst 1, 1), (16, .goto 4, 3), (19, .iconst 0, 1), (20, .iconst 1, 1), (21, .invokevirtual 265, 3), (24, .ifCond .eq 5, 3), (27, .iconst 0, 1), (28, .ireturn, 1), (29, .iload_n 1, 1), (30, .iconst 0, 1), (31, .aload_n 0, 1), (32, .getfield 13, 3), (35, .bipush 7, 2), (37, .iaload, 1), (38, .iconst 1, 1), (39, .isub, 1), (40, .invokestatic 88, 3), (43, .ifCond .eq 12, 3), (46, .aload_n 0, 1), (47, .iload_n 1, 1), (48, .iload_n 2, 1), (49, .invokevirtual 358, 3), (52, .goto 4, 3), (55, .iconst (-1), 1), (56, .ireturn, 1)]
def M_Mo_log : MT := (t_Mo_log, P_Mo, [], [])
theorem T_Mo_log : TabOK i_Mo_log M_Mo_log := tab_ok (by decide +kernel)
theorem H_Mo_log : ThrOK i_Mo_log M_Mo_log := ⟨fa_n, rfl, fa_n⟩
def t_Mo_seed : List (Nat × Instr × Nat) := [(0, .aload_n 0, 1), (1, .iconst 0, 1), (2, .putfield 3, 3), (5, .aload_n 0, 1), (6, .getfield 13, 3), (9, .bipush 8, 2), (11, .iaload, 1), (12, .istore_n 2, 1), (13, .aload_n 0, 1), (14, .getfield 13, 3), (17, .bipush 8, 2), (19, .iload_n 1, 1), (20, .iastore, 1), (21, .iload_n 2, 1), (22, .ireturn, 1)]
def M_Mo_seed : MT := (t_Mo_seed, P_Mo, [], [])
theorem T_Mo_seed : TabOK i_Mo_seed M_Mo_seed := tab_ok (by decide +kernel)
theorem H_Mo_seed : ThrOK i_Mo_seed M_Mo_seed := ⟨fa_n, rfl, fa_n⟩
def t_Mo_count : List (Nat × Instr × Nat) := [(0, .aload_n 0, 1), (1, .iconst 0, 1), (2, .putfield 3, 3), (5, .iload_n 1, 1), (6, .tableswitch 119 4 11 #[46, 119, 119, 69, 77, 90, 106, 114], 46), (52, .aload_n 0, 1), (53, .getfield 13, 3), (56, .iconst 4, 1), (57, .iaload, 1), (58, .iconst 1, 1), (59, .if_icmp .ne 14, 3), (62, .aload_n 0, 1), (63, .getfield 13, 3), (66, .sipush 1015, 3), (69, .iaload, 1), (70, .goto 4, 3), (73, .iconst (-1), 1), (74, .ireturn, 1), (75, .aload_n 0, 1), (76, .getfield 59, 3), (79, .invokestatic 477, 3), (82, .ireturn, 1), (83, .aload_n 0, 1), (84, .iconst 1, 1), (85, .aload_n 0, 1), (86, .invokevirtual 84, 3), (89, .ishl, 1), (90, .iconst 1, 1), (91, .isub, 1), (92, .invokevirtual 452, 3), (95, .ireturn, 1), (96, .iconst 1, 1), (97, .aload_n 0, 1), (98, .invokevirtual 100, 3), (101, .ishl, 1), (102, .iconst 1, 1), (103, .isub, 1), (104, .aload_n 0, 1), (105, .invokevirtual 373, 3), (108, .iconst (-1), 1), (109, .ixor, 1), (110, .iand, 1), (111, .ireturn, 1), (112, .aload_n 0, 1), (113, .getfield 13, 3), (116, .bipush 7, 2), (118, .iaload, 1), (119, .ireturn, 1), (120, .aload_n 0, 1), (121, .getfield 70, 3), (124, .ireturn, 1), (125, .iload_n 1, 1), (126, .iconst 0, 1), (127, .bipush 6, 2), (129, .invokestatic 88, 3), (132, .ifCond .eq 12, 3), (135, .aload_n 0, 1), (136, .getfield 13, 3), (139, .iload_n 1, 1), (140, .iaload, 1), (141, .goto 4, 3), (144, .iconst (-1), 1), (145, .ireturn, 1)]
def M_Mo_count : MT := (t_Mo_count, P_Mo, [], [])
theorem T_Mo_count : TabOK i_Mo_count M_Mo_count := tab_ok (by decide +kernel)
theorem H_Mo_count : ThrOK i_Mo_count M_Mo_count := ⟨fa_n, rfl, fa_n⟩
end
section
/-! tables, by program (wip/whole/gen_tab.py) -/
def t_L_school : List (Nat × Instr × Nat) := [(0, .aload_n 1, 1), (1, .iconst 0, 1), (2, .aload_n 0, 1), (3, .invokevirtual 7, 3), (6, .i2l, 1), (7, .lastore, 1), (8, .goto 9, 3), (11, .astore_n 2, 1), (12, .iconst 1, 1), (13, .ireturn, 1), (14, .astore_n 2, 1), (15, .iconst 2, 1), (16, .ireturn, 1), (17, .iconst 0, 1), (18, .ireturn, 1)]
def M_L_school : MT := (t_L_school, P_L, [], [(0, 8, 11, 13, 0, 2, 1), (0, 8, 14, 15, 1, 2, 1)])
theorem T_L_school : TabOK i_L_school M_L_school := tab_ok (by decide +kernel)
theorem H_L_school : ThrOK i_L_school M_L_school := ⟨fa_n, rfl, fa_c ⟨by decide, by decide, tb_of (i := 13169) (by decide +kernel), nw_of (i := 14159) (by decide +kernel), by decide, Or.inl ⟨2, rfl, rfl, by decide +kernel⟩⟩ (fa_c ⟨by decide, by decide, tb_of (i := 13170) (by decide +kernel), nw_of (i := 14228) (by decide +kernel), by decide, Or.inl ⟨2, rfl, rfl, by decide +kernel⟩⟩ (fa_n))⟩
def t_L_law : List (Nat × Instr × Nat) := [(0, .aload_n 1, 1), (1, .iconst 0, 1), (2, .aload_n 0, 1), (3, .invokevirtual 17, 3), (6, .i2l, 1), (7, .lastore, 1), (8, .goto 6, 3), (11, .astore_n 2, 1), (12, .iconst 1, 1), (13, .ireturn, 1), (14, .iconst 0, 1), (15, .ireturn, 1)]
def M_L_law : MT := (t_L_law, P_L, [], [(0, 8, 11, 13, 0, 2, 1)])
theorem T_L_law : TabOK i_L_law M_L_law := tab_ok (by decide +kernel)
theorem H_L_law : ThrOK i_L_law M_L_law := ⟨fa_n, rfl, fa_c ⟨by decide, by decide, tb_of (i := 13169) (by decide +kernel), nw_of (i := 14159) (by decide +kernel), by decide, Or.inl ⟨2, rfl, rfl, by decide +kernel⟩⟩ (fa_n)⟩
def t_L_thing : List (Nat × Instr × Nat) := [(0, .aload_n 3, 1), (1, .iconst 0, 1), (2, .aload_n 0, 1), (3, .iload_n 1, 1), (4, .iload_n 2, 1), (5, .invokevirtual 20, 3), (8, .i2l, 1), (9, .lastore, 1), (10, .goto 11, 3), (13, .astore 4, 2), (15, .iconst 1, 1), (16, .ireturn, 1), (17, .astore 4, 2), (19, .iconst 2, 1), (20, .ireturn, 1), (21, .iconst 0, 1), (22, .ireturn, 1)]
def M_L_thing : MT := (t_L_thing, P_L, [], [(0, 10, 13, 24, 2, 4, 2), (0, 10, 17, 26, 3, 4, 2)])
theorem T_L_thing : TabOK i_L_thing M_L_thing := tab_ok (by decide +kernel)
theorem H_L_thing : ThrOK i_L_thing M_L_thing := ⟨fa_n, rfl, fa_c ⟨by decide, by decide, tb_of (i := 15029) (by decide +kernel), nw_of (i := 15041) (by decide +kernel), by decide, Or.inr ⟨rfl, by decide +kernel⟩⟩ (fa_c ⟨by decide, by decide, tb_of (i := 15030) (by decide +kernel), nw_of (i := 15076) (by decide +kernel), by decide, Or.inr ⟨rfl, by decide +kernel⟩⟩ (fa_n))⟩
def t_L_person : List (Nat × Instr × Nat) := [(0, .aload_n 3, 1), (1, .iconst 0, 1), (2, .aload_n 0, 1), (3, .iload_n 1, 1), (4, .iload_n 2, 1), (5, .invokevirtual 28, 3), (8, .i2l, 1), (9, .lastore, 1), (10, .goto 11, 3), (13, .astore 4, 2), (15, .iconst 1, 1), (16, .ireturn, 1), (17, .astore 4, 2), (19, .iconst 2, 1), (20, .ireturn, 1), (21, .iconst 0, 1), (22, .ireturn, 1)]
def M_L_person : MT := (t_L_person, P_L, [], [(0, 10, 13, 24, 2, 4, 2), (0, 10, 17, 26, 3, 4, 2)])
theorem T_L_person : TabOK i_L_person M_L_person := tab_ok (by decide +kernel)
theorem H_L_person : ThrOK i_L_person M_L_person := ⟨fa_n, rfl, fa_c ⟨by decide, by decide, tb_of (i := 15029) (by decide +kernel), nw_of (i := 15041) (by decide +kernel), by decide, Or.inr ⟨rfl, by decide +kernel⟩⟩ (fa_c ⟨by decide, by decide, tb_of (i := 15030) (by decide +kernel), nw_of (i := 15076) (by decide +kernel), by decide, Or.inr ⟨rfl, by decide +kernel⟩⟩ (fa_n))⟩
def t_L_rule : List (Nat × Instr × Nat) := [(0, .aload_n 3, 1), (1, .iconst 0, 1), (2, .aload_n 0, 1), (3, .iload_n 1, 1), (4, .iload_n 2, 1), (5, .invokevirtual 31, 3), (8, .i2l, 1), (9, .lastore, 1), (10, .goto 7, 3), (13, .astore 4, 2), (15, .iconst 1, 1), (16, .ireturn, 1), (17, .iconst 0, 1), (18, .ireturn, 1)]
def M_L_rule : MT := (t_L_rule, P_L, [], [(0, 10, 13, 26, 3, 4, 2)])
theorem T_L_rule : TabOK i_L_rule M_L_rule := tab_ok (by decide +kernel)
theorem H_L_rule : ThrOK i_L_rule M_L_rule := ⟨fa_n, rfl, fa_c ⟨by decide, by decide, tb_of (i := 15030) (by decide +kernel), nw_of (i := 15076) (by decide +kernel), by decide, Or.inr ⟨rfl, by decide +kernel⟩⟩ (fa_n)⟩
def t_L_apart : List (Nat × Instr × Nat) := [(0, .aload_n 3, 1), (1, .iconst 0, 1), (2, .aload_n 0, 1), (3, .iload_n 1, 1), (4, .iload_n 2, 1), (5, .invokevirtual 34, 3), (8, .i2l, 1), (9, .lastore, 1), (10, .goto 11, 3), (13, .astore 4, 2), (15, .iconst 1, 1), (16, .ireturn, 1), (17, .astore 4, 2), (19, .iconst 2, 1), (20, .ireturn, 1), (21, .iconst 0, 1), (22, .ireturn, 1)]
def M_L_apart : MT := (t_L_apart, P_L, [], [(0, 10, 13, 24, 2, 4, 2), (0, 10, 17, 13, 0, 4, 2)])
theorem T_L_apart : TabOK i_L_apart M_L_apart := tab_ok (by decide +kernel)
theorem H_L_apart : ThrOK i_L_apart M_L_apart := ⟨fa_n, rfl, fa_c ⟨by decide, by decide, tb_of (i := 15029) (by decide +kernel), nw_of (i := 15041) (by decide +kernel), by decide, Or.inr ⟨rfl, by decide +kernel⟩⟩ (fa_c ⟨by decide, by decide, tb_of (i := 13169) (by decide +kernel), nw_of (i := 14159) (by decide +kernel), by decide, Or.inr ⟨rfl, by decide +kernel⟩⟩ (fa_n))⟩
def t_L_hears : List (Nat × Instr × Nat) := [(0, .aload 5, 2), (2, .iconst 0, 1), (3, .aload_n 0, 1), (4, .iload_n 1, 1), (5, .iload_n 2, 1), (6, .iload_n 3, 1), (7, .iload 4, 2), (9, .invokevirtual 37, 3), (12, .i2l, 1), (13, .lastore, 1), (14, .goto 11, 3), (17, .astore 6, 2), (19, .iconst 1, 1), (20, .ireturn, 1), (21, .astore 6, 2), (23, .iconst 2, 1), (24, .ireturn, 1), (25, .iconst 0, 1), (26, .ireturn, 1)]
def M_L_hears : MT := (t_L_hears, P_L, [], [(0, 14, 17, 24, 2, 6, 2), (0, 14, 21, 13, 0, 6, 2)])
theorem T_L_hears : TabOK i_L_hears M_L_hears := tab_ok (by decide +kernel)
theorem H_L_hears : ThrOK i_L_hears M_L_hears := ⟨fa_n, rfl, fa_c ⟨by decide, by decide, tb_of (i := 15029) (by decide +kernel), nw_of (i := 15041) (by decide +kernel), by decide, Or.inr ⟨rfl, by decide +kernel⟩⟩ (fa_c ⟨by decide, by decide, tb_of (i := 13169) (by decide +kernel), nw_of (i := 14159) (by decide +kernel), by decide, Or.inr ⟨rfl, by decide +kernel⟩⟩ (fa_n))⟩
def t_L_audience : List (Nat × Instr × Nat) := [(0, .aload 5, 2), (2, .iconst 0, 1), (3, .aload_n 0, 1), (4, .iload_n 1, 1), (5, .iload_n 2, 1), (6, .iload_n 3, 1), (7, .iload 4, 2), (9, .invokevirtual 41, 3), (12, .i2l, 1), (13, .lastore, 1), (14, .goto 7, 3), (17, .astore 6, 2), (19, .iconst 1, 1), (20, .ireturn, 1), (21, .iconst 0, 1), (22, .ireturn, 1)]
def M_L_audience : MT := (t_L_audience, P_L, [], [(0, 14, 17, 24, 2, 6, 2)])
theorem T_L_audience : TabOK i_L_audience M_L_audience := tab_ok (by decide +kernel)
theorem H_L_audience : ThrOK i_L_audience M_L_audience := ⟨fa_n, rfl, fa_c ⟨by decide, by decide, tb_of (i := 15029) (by decide +kernel), nw_of (i := 15041) (by decide +kernel), by decide, Or.inr ⟨rfl, by decide +kernel⟩⟩ (fa_n)⟩
def t_L_say : List (Nat × Instr × Nat) := [(0, .aload 4, 2), (2, .iconst 0, 1), (3, .aload_n 0, 1), (4, .iload_n 1, 1), (5, .iload_n 2, 1), (6, .iload_n 3, 1), (7, .invokevirtual 45, 3), (10, .i2l, 1), (11, .lastore, 1), (12, .goto 11, 3), (15, .astore 5, 2), (17, .iconst 1, 1), (18, .ireturn, 1), (19, .astore 5, 2), (21, .iconst 2, 1), (22, .ireturn, 1), (23, .iconst 0, 1), (24, .ireturn, 1)]
def M_L_say : MT := (t_L_say, P_L, [], [(0, 12, 15, 24, 2, 5, 2), (0, 12, 19, 49, 4, 5, 2)])
theorem T_L_say : TabOK i_L_say M_L_say := tab_ok (by decide +kernel)
theorem H_L_say : ThrOK i_L_say M_L_say := ⟨fa_n, rfl, fa_c ⟨by decide, by decide, tb_of (i := 15029) (by decide +kernel), nw_of (i := 15041) (by decide +kernel), by decide, Or.inr ⟨rfl, by decide +kernel⟩⟩ (fa_c ⟨by decide, by decide, tb_of (i := 15159) (by decide +kernel), nw_of (i := 15171) (by decide +kernel), by decide, Or.inr ⟨rfl, by decide +kernel⟩⟩ (fa_n))⟩
def t_L_think : List (Nat × Instr × Nat) := [(0, .aload_n 2, 1), (1, .iconst 0, 1), (2, .aload_n 0, 1), (3, .iload_n 1, 1), (4, .invokevirtual 51, 3), (7, .i2l, 1), (8, .lastore, 1), (9, .goto 6, 3), (12, .astore_n 3, 1), (13, .iconst 1, 1), (14, .ireturn, 1), (15, .iconst 0, 1), (16, .ireturn, 1)]
def M_L_think : MT := (t_L_think, P_L, [], [(0, 9, 12, 24, 2, 3, 1)])
theorem T_L_think : TabOK i_L_think M_L_think := tab_ok (by decide +kernel)
theorem H_L_think : ThrOK i_L_think M_L_think := ⟨fa_n, rfl, fa_c ⟨by decide, by decide, tb_of (i := 15029) (by decide +kernel), nw_of (i := 15041) (by decide +kernel), by decide, Or.inl ⟨3, rfl, rfl, by decide +kernel⟩⟩ (fa_n)⟩
def t_L_away : List (Nat × Instr × Nat) := [(0, .aload_n 3, 1), (1, .iconst 0, 1), (2, .aload_n 0, 1), (3, .iload_n 1, 1), (4, .iload_n 2, 1), (5, .invokevirtual 55, 3), (8, .ifCond .eq 7, 3), (11, .lconst 1, 1), (12, .goto 4, 3), (15, .lconst 0, 1), (16, .lastore, 1), (17, .goto 7, 3), (20, .astore 4, 2), (22, .iconst 1, 1), (23, .ireturn, 1), (24, .iconst 0, 1), (25, .ireturn, 1)]
def M_L_away : MT := (t_L_away, P_L, [], [(0, 17, 20, 24, 2, 4, 2)])
theorem T_L_away : TabOK i_L_away M_L_away := tab_ok (by decide +kernel)
theorem H_L_away : ThrOK i_L_away M_L_away := ⟨fa_n, rfl, fa_c ⟨by decide, by decide, tb_of (i := 15029) (by decide +kernel), nw_of (i := 15041) (by decide +kernel), by decide, Or.inr ⟨rfl, by decide +kernel⟩⟩ (fa_n)⟩
def t_L_change : List (Nat × Instr × Nat) := [(0, .aload_n 3, 1), (1, .iconst 0, 1), (2, .aload_n 0, 1), (3, .iload_n 1, 1), (4, .iload_n 2, 1), (5, .invokevirtual 59, 3), (8, .i2l, 1), (9, .lastore, 1), (10, .goto 11, 3), (13, .astore 4, 2), (15, .iconst 1, 1), (16, .ireturn, 1), (17, .astore 4, 2), (19, .iconst 2, 1), (20, .ireturn, 1), (21, .iconst 0, 1), (22, .ireturn, 1)]
def M_L_change : MT := (t_L_change, P_L, [], [(0, 10, 13, 24, 2, 4, 2), (0, 10, 17, 13, 0, 4, 2)])
theorem T_L_change : TabOK i_L_change M_L_change := tab_ok (by decide +kernel)
theorem H_L_change : ThrOK i_L_change M_L_change := ⟨fa_n, rfl, fa_c ⟨by decide, by decide, tb_of (i := 15029) (by decide +kernel), nw_of (i := 15041) (by decide +kernel), by decide, Or.inr ⟨rfl, by decide +kernel⟩⟩ (fa_c ⟨by decide, by decide, tb_of (i := 13169) (by decide +kernel), nw_of (i := 14159) (by decide +kernel), by decide, Or.inr ⟨rfl, by decide +kernel⟩⟩ (fa_n))⟩
def t_L_term : List (Nat × Instr × Nat) := [(0, .aload_n 2, 1), (1, .iconst 0, 1), (2, .aload_n 0, 1), (3, .iload_n 1, 1), (4, .invokevirtual 62, 3), (7, .i2l, 1), (8, .lastore, 1), (9, .goto 6, 3), (12, .astore_n 3, 1), (13, .iconst 1, 1), (14, .ireturn, 1), (15, .iconst 0, 1), (16, .ireturn, 1)]
def M_L_term : MT := (t_L_term, P_L, [], [(0, 9, 12, 13, 0, 3, 1)])
theorem T_L_term : TabOK i_L_term M_L_term := tab_ok (by decide +kernel)
theorem H_L_term : ThrOK i_L_term M_L_term := ⟨fa_n, rfl, fa_c ⟨by decide, by decide, tb_of (i := 13169) (by decide +kernel), nw_of (i := 14159) (by decide +kernel), by decide, Or.inl ⟨3, rfl, rfl, by decide +kernel⟩⟩ (fa_n)⟩
def t_L_plan : List (Nat × Instr × Nat) := [(0, .aload_n 3, 1), (1, .iconst 0, 1), (2, .aload_n 0, 1), (3, .iload_n 1, 1), (4, .iload_n 2, 1), (5, .invokevirtual 65, 3), (8, .i2l, 1), (9, .lastore, 1), (10, .goto 7, 3), (13, .astore 4, 2), (15, .iconst 1, 1), (16, .ireturn, 1), (17, .iconst 0, 1), (18, .ireturn, 1)]
def M_L_plan : MT := (t_L_plan, P_L, [], [(0, 10, 13, 24, 2, 4, 2)])
theorem T_L_plan : TabOK i_L_plan M_L_plan := tab_ok (by decide +kernel)
theorem H_L_plan : ThrOK i_L_plan M_L_plan := ⟨fa_n, rfl, fa_c ⟨by decide, by decide, tb_of (i := 15029) (by decide +kernel), nw_of (i := 15041) (by decide +kernel), by decide, Or.inr ⟨rfl, by decide +kernel⟩⟩ (fa_n)⟩
def t_L_kept : List (Nat × Instr × Nat) := [(0, .aload_n 3, 1), (1, .iconst 0, 1), (2, .aload_n 0, 1), (3, .iload_n 1, 1), (4, .iload_n 2, 1), (5, .invokevirtual 69, 3), (8, .i2l, 1), (9, .lastore, 1), (10, .goto 7, 3), (13, .astore 4, 2), (15, .iconst 1, 1), (16, .ireturn, 1), (17, .iconst 0, 1), (18, .ireturn, 1)]
def M_L_kept : MT := (t_L_kept, P_L, [], [(0, 10, 13, 24, 2, 4, 2)])
theorem T_L_kept : TabOK i_L_kept M_L_kept := tab_ok (by decide +kernel)
theorem H_L_kept : ThrOK i_L_kept M_L_kept := ⟨fa_n, rfl, fa_c ⟨by decide, by decide, tb_of (i := 15029) (by decide +kernel), nw_of (i := 15041) (by decide +kernel), by decide, Or.inr ⟨rfl, by decide +kernel⟩⟩ (fa_n)⟩
def t_L_seats : List (Nat × Instr × Nat) := [(0, .aload 5, 2), (2, .iconst 0, 1), (3, .aload_n 0, 1), (4, .iload_n 1, 1), (5, .iload_n 2, 1), (6, .iload_n 3, 1), (7, .iload 4, 2), (9, .invokevirtual 72, 3), (12, .i2l, 1), (13, .lastore, 1), (14, .goto 7, 3), (17, .astore 6, 2), (19, .iconst 1, 1), (20, .ireturn, 1), (21, .iconst 0, 1), (22, .ireturn, 1)]
def M_L_seats : MT := (t_L_seats, P_L, [], [(0, 14, 17, 24, 2, 6, 2)])
theorem T_L_seats : TabOK i_L_seats M_L_seats := tab_ok (by decide +kernel)
theorem H_L_seats : ThrOK i_L_seats M_L_seats := ⟨fa_n, rfl, fa_c ⟨by decide, by decide, tb_of (i := 15029) (by decide +kernel), nw_of (i := 15041) (by decide +kernel), by decide, Or.inr ⟨rfl, by decide +kernel⟩⟩ (fa_n)⟩
def t_L_what : List (Nat × Instr × Nat) := [(0, .aload_n 2, 1), (1, .iconst 0, 1), (2, .aload_n 0, 1), (3, .iload_n 1, 1), (4, .invokevirtual 75, 3), (7, .lastore, 1), (8, .goto 9, 3), (11, .astore_n 3, 1), (12, .iconst 1, 1), (13, .ireturn, 1), (14, .astore_n 3, 1), (15, .iconst 2, 1), (16, .ireturn, 1), (17, .iconst 0, 1), (18, .ireturn, 1)]
def M_L_what : MT := (t_L_what, P_L, [], [(0, 8, 11, 24, 2, 3, 1), (0, 8, 14, 13, 0, 3, 1)])
theorem T_L_what : TabOK i_L_what M_L_what := tab_ok (by decide +kernel)
theorem H_L_what : ThrOK i_L_what M_L_what := ⟨fa_n, rfl, fa_c ⟨by decide, by decide, tb_of (i := 15029) (by decide +kernel), nw_of (i := 15041) (by decide +kernel), by decide, Or.inl ⟨3, rfl, rfl, by decide +kernel⟩⟩ (fa_c ⟨by decide, by decide, tb_of (i := 13169) (by decide +kernel), nw_of (i := 14159) (by decide +kernel), by decide, Or.inl ⟨3, rfl, rfl, by decide +kernel⟩⟩ (fa_n))⟩
def t_L_alike : List (Nat × Instr × Nat) := [(0, .aload_n 3, 1), (1, .iconst 0, 1), (2, .aload_n 0, 1), (3, .iload_n 1, 1), (4, .iload_n 2, 1), (5, .invokevirtual 79, 3), (8, .i2l, 1), (9, .lastore, 1), (10, .goto 11, 3), (13, .astore 4, 2), (15, .iconst 1, 1), (16, .ireturn, 1), (17, .astore 4, 2), (19, .iconst 2, 1), (20, .ireturn, 1), (21, .iconst 0, 1), (22, .ireturn, 1)]
def M_L_alike : MT := (t_L_alike, P_L, [], [(0, 10, 13, 24, 2, 4, 2), (0, 10, 17, 13, 0, 4, 2)])
theorem T_L_alike : TabOK i_L_alike M_L_alike := tab_ok (by decide +kernel)
theorem H_L_alike : ThrOK i_L_alike M_L_alike := ⟨fa_n, rfl, fa_c ⟨by decide, by decide, tb_of (i := 15029) (by decide +kernel), nw_of (i := 15041) (by decide +kernel), by decide, Or.inr ⟨rfl, by decide +kernel⟩⟩ (fa_c ⟨by decide, by decide, tb_of (i := 13169) (by decide +kernel), nw_of (i := 14159) (by decide +kernel), by decide, Or.inr ⟨rfl, by decide +kernel⟩⟩ (fa_n))⟩
def t_L_ask : List (Nat × Instr × Nat) := [(0, .aload_n 3, 1), (1, .iconst 0, 1), (2, .aload_n 0, 1), (3, .iload_n 1, 1), (4, .iload_n 2, 1), (5, .invokevirtual 82, 3), (8, .i2l, 1), (9, .lastore, 1), (10, .goto 11, 3), (13, .astore 4, 2), (15, .iconst 1, 1), (16, .ireturn, 1), (17, .astore 4, 2), (19, .iconst 2, 1), (20, .ireturn, 1), (21, .iconst 0, 1), (22, .ireturn, 1)]
def M_L_ask : MT := (t_L_ask, P_L, [], [(0, 10, 13, 24, 2, 4, 2), (0, 10, 17, 13, 0, 4, 2)])
theorem T_L_ask : TabOK i_L_ask M_L_ask := tab_ok (by decide +kernel)
theorem H_L_ask : ThrOK i_L_ask M_L_ask := ⟨fa_n, rfl, fa_c ⟨by decide, by decide, tb_of (i := 15029) (by decide +kernel), nw_of (i := 15041) (by decide +kernel), by decide, Or.inr ⟨rfl, by decide +kernel⟩⟩ (fa_c ⟨by decide, by decide, tb_of (i := 13169) (by decide +kernel), nw_of (i := 14159) (by decide +kernel), by decide, Or.inr ⟨rfl, by decide +kernel⟩⟩ (fa_n))⟩
def t_L_keeps : List (Nat × Instr × Nat) := [(0, .aload_n 3, 1), (1, .iconst 0, 1), (2, .aload_n 0, 1), (3, .iload_n 1, 1), (4, .iload_n 2, 1), (5, .invokevirtual 85, 3), (8, .ifCond .eq 7, 3), (11, .lconst 1, 1), (12, .goto 4, 3), (15, .lconst 0, 1), (16, .lastore, 1), (17, .goto 11, 3), (20, .astore 4, 2), (22, .iconst 1, 1), (23, .ireturn, 1), (24, .astore 4, 2), (26, .iconst 2, 1), (27, .ireturn, 1), (28, .iconst 0, 1), (29, .ireturn, 1)]
def M_L_keeps : MT := (t_L_keeps, P_L, [], [(0, 17, 20, 24, 2, 4, 2), (0, 17, 24, 13, 0, 4, 2)])
theorem T_L_keeps : TabOK i_L_keeps M_L_keeps := tab_ok (by decide +kernel)
theorem H_L_keeps : ThrOK i_L_keeps M_L_keeps := ⟨fa_n, rfl, fa_c ⟨by decide, by decide, tb_of (i := 15029) (by decide +kernel), nw_of (i := 15041) (by decide +kernel), by decide, Or.inr ⟨rfl, by decide +kernel⟩⟩ (fa_c ⟨by decide, by decide, tb_of (i := 13169) (by decide +kernel), nw_of (i := 14159) (by decide +kernel), by decide, Or.inr ⟨rfl, by decide +kernel⟩⟩ (fa_n))⟩
def t_L_margin : List (Nat × Instr × Nat) := [(0, .aload_n 3, 1), (1, .iconst 0, 1), (2, .aload_n 0, 1), (3, .iload_n 1, 1), (4, .iload_n 2, 1), (5, .invokevirtual 89, 3), (8, .i2l, 1), (9, .lastore, 1), (10, .goto 11, 3), (13, .astore 4, 2), (15, .iconst 1, 1), (16, .ireturn, 1), (17, .astore 4, 2), (19, .iconst 2, 1), (20, .ireturn, 1), (21, .iconst 0, 1), (22, .ireturn, 1)]
def M_L_margin : MT := (t_L_margin, P_L, [], [(0, 10, 13, 24, 2, 4, 2), (0, 10, 17, 13, 0, 4, 2)])
theorem T_L_margin : TabOK i_L_margin M_L_margin := tab_ok (by decide +kernel)
theorem H_L_margin : ThrOK i_L_margin M_L_margin := ⟨fa_n, rfl, fa_c ⟨by decide, by decide, tb_of (i := 15029) (by decide +kernel), nw_of (i := 15041) (by decide +kernel), by decide, Or.inr ⟨rfl, by decide +kernel⟩⟩ (fa_c ⟨by decide, by decide, tb_of (i := 13169) (by decide +kernel), nw_of (i := 14159) (by decide +kernel), by decide, Or.inr ⟨rfl, by decide +kernel⟩⟩ (fa_n))⟩
def t_L_call : List (Nat × Instr × Nat) := [(0, .aload_n 3, 1), (1, .iconst 0, 1), (2, .aload_n 0, 1), (3, .iload_n 1, 1), (4, .iload_n 2, 1), (5, .invokevirtual 92, 3), (8, .i2l, 1), (9, .lastore, 1), (10, .goto 7, 3), (13, .astore 4, 2), (15, .iconst 1, 1), (16, .ireturn, 1), (17, .iconst 0, 1), (18, .ireturn, 1)]
def M_L_call : MT := (t_L_call, P_L, [], [(0, 10, 13, 24, 2, 4, 2)])
theorem T_L_call : TabOK i_L_call M_L_call := tab_ok (by decide +kernel)
theorem H_L_call : ThrOK i_L_call M_L_call := ⟨fa_n, rfl, fa_c ⟨by decide, by decide, tb_of (i := 15029) (by decide +kernel), nw_of (i := 15041) (by decide +kernel), by decide, Or.inr ⟨rfl, by decide +kernel⟩⟩ (fa_n)⟩
def t_L_trial : List (Nat × Instr × Nat) := [(0, .aload_n 3, 1), (1, .iconst 0, 1), (2, .aload_n 0, 1), (3, .iload_n 1, 1), (4, .iload_n 2, 1), (5, .invokevirtual 95, 3), (8, .i2l, 1), (9, .lastore, 1), (10, .goto 11, 3), (13, .astore 4, 2), (15, .iconst 1, 1), (16, .ireturn, 1), (17, .astore 4, 2), (19, .iconst 2, 1), (20, .ireturn, 1), (21, .iconst 0, 1), (22, .ireturn, 1)]
def M_L_trial : MT := (t_L_trial, P_L, [], [(0, 10, 13, 24, 2, 4, 2), (0, 10, 17, 13, 0, 4, 2)])
theorem T_L_trial : TabOK i_L_trial M_L_trial := tab_ok (by decide +kernel)
theorem H_L_trial : ThrOK i_L_trial M_L_trial := ⟨fa_n, rfl, fa_c ⟨by decide, by decide, tb_of (i := 15029) (by decide +kernel), nw_of (i := 15041) (by decide +kernel), by decide, Or.inr ⟨rfl, by decide +kernel⟩⟩ (fa_c ⟨by decide, by decide, tb_of (i := 13169) (by decide +kernel), nw_of (i := 14159) (by decide +kernel), by decide, Or.inr ⟨rfl, by decide +kernel⟩⟩ (fa_n))⟩
def t_L_span : List (Nat × Instr × Nat) := [(0, .aload_n 3, 1), (1, .iconst 0, 1), (2, .aload_n 0, 1), (3, .iload_n 1, 1), (4, .iload_n 2, 1), (5, .invokevirtual 98, 3), (8, .i2l, 1), (9, .lastore, 1), (10, .goto 7, 3), (13, .astore 4, 2), (15, .iconst 1, 1), (16, .ireturn, 1), (17, .iconst 0, 1), (18, .ireturn, 1)]
def M_L_span : MT := (t_L_span, P_L, [], [(0, 10, 13, 13, 0, 4, 2)])
theorem T_L_span : TabOK i_L_span M_L_span := tab_ok (by decide +kernel)
theorem H_L_span : ThrOK i_L_span M_L_span := ⟨fa_n, rfl, fa_c ⟨by decide, by decide, tb_of (i := 13169) (by decide +kernel), nw_of (i := 14159) (by decide +kernel), by decide, Or.inr ⟨rfl, by decide +kernel⟩⟩ (fa_n)⟩
def t_L_how : List (Nat × Instr × Nat) := [(0, .aload_n 3, 1), (1, .iconst 0, 1), (2, .aload_n 0, 1), (3, .iload_n 1, 1), (4, .iload_n 2, 1), (5, .invokevirtual 101, 3), (8, .i2l, 1), (9, .lastore, 1), (10, .goto 7, 3), (13, .astore 4, 2), (15, .iconst 1, 1), (16, .ireturn, 1), (17, .iconst 0, 1), (18, .ireturn, 1)]
def M_L_how : MT := (t_L_how, P_L, [], [(0, 10, 13, 24, 2, 4, 2)])
theorem T_L_how : TabOK i_L_how M_L_how := tab_ok (by decide +kernel)
theorem H_L_how : ThrOK i_L_how M_L_how := ⟨fa_n, rfl, fa_c ⟨by decide, by decide, tb_of (i := 15029) (by decide +kernel), nw_of (i := 15041) (by decide +kernel), by decide, Or.inr ⟨rfl, by decide +kernel⟩⟩ (fa_n)⟩
def t_L_chain : List (Nat × Instr × Nat) := [(0, .aload 4, 2), (2, .iconst 0, 1), (3, .aload_n 0, 1), (4, .iload_n 1, 1), (5, .iload_n 2, 1), (6, .iload_n 3, 1), (7, .invokevirtual 104, 3), (10, .i2l, 1), (11, .lastore, 1), (12, .goto 7, 3), (15, .astore 5, 2), (17, .iconst 1, 1), (18, .ireturn, 1), (19, .iconst 0, 1), (20, .ireturn, 1)]
def M_L_chain : MT := (t_L_chain, P_L, [], [(0, 12, 15, 24, 2, 5, 2)])
theorem T_L_chain : TabOK i_L_chain M_L_chain := tab_ok (by decide +kernel)
theorem H_L_chain : ThrOK i_L_chain M_L_chain := ⟨fa_n, rfl, fa_c ⟨by decide, by decide, tb_of (i := 15029) (by decide +kernel), nw_of (i := 15041) (by decide +kernel), by decide, Or.inr ⟨rfl, by decide +kernel⟩⟩ (fa_n)⟩
def t_L_spot : List (Nat × Instr × Nat) := [(0, .aload 5, 2), (2, .iconst 0, 1), (3, .aload_n 0, 1), (4, .iload_n 1, 1), (5, .iload_n 2, 1), (6, .iload_n 3, 1), (7, .iload 4, 2), (9, .invokevirtual 108, 3), (12, .i2l, 1), (13, .lastore, 1), (14, .goto 11, 3), (17, .astore 6, 2), (19, .iconst 1, 1), (20, .ireturn, 1), (21, .astore 6, 2), (23, .iconst 2, 1), (24, .ireturn, 1), (25, .iconst 0, 1), (26, .ireturn, 1)]
def M_L_spot : MT := (t_L_spot, P_L, [], [(0, 14, 17, 24, 2, 6, 2), (0, 14, 21, 13, 0, 6, 2)])
theorem T_L_spot : TabOK i_L_spot M_L_spot := tab_ok (by decide +kernel)
theorem H_L_spot : ThrOK i_L_spot M_L_spot := ⟨fa_n, rfl, fa_c ⟨by decide, by decide, tb_of (i := 15029) (by decide +kernel), nw_of (i := 15041) (by decide +kernel), by decide, Or.inr ⟨rfl, by decide +kernel⟩⟩ (fa_c ⟨by decide, by decide, tb_of (i := 13169) (by decide +kernel), nw_of (i := 14159) (by decide +kernel), by decide, Or.inr ⟨rfl, by decide +kernel⟩⟩ (fa_n))⟩
def t_L_speakers : List (Nat × Instr × Nat) := [(0, .aload_n 2, 1), (1, .iconst 0, 1), (2, .aload_n 0, 1), (3, .iload_n 1, 1), (4, .invokevirtual 111, 3), (7, .i2l, 1), (8, .lastore, 1), (9, .goto 6, 3), (12, .astore_n 3, 1), (13, .iconst 1, 1), (14, .ireturn, 1), (15, .iconst 0, 1), (16, .ireturn, 1)]
def M_L_speakers : MT := (t_L_speakers, P_L, [], [(0, 9, 12, 24, 2, 3, 1)])
theorem T_L_speakers : TabOK i_L_speakers M_L_speakers := tab_ok (by decide +kernel)
theorem H_L_speakers : ThrOK i_L_speakers M_L_speakers := ⟨fa_n, rfl, fa_c ⟨by decide, by decide, tb_of (i := 15029) (by decide +kernel), nw_of (i := 15041) (by decide +kernel), by decide, Or.inl ⟨3, rfl, rfl, by decide +kernel⟩⟩ (fa_n)⟩
def t_L_between : List (Nat × Instr × Nat) := [(0, .aload_n 3, 1), (1, .iconst 0, 1), (2, .aload_n 0, 1), (3, .iload_n 1, 1), (4, .iload_n 2, 1), (5, .invokevirtual 114, 3), (8, .i2l, 1), (9, .lastore, 1), (10, .goto 11, 3), (13, .astore 4, 2), (15, .iconst 1, 1), (16, .ireturn, 1), (17, .astore 4, 2), (19, .iconst 2, 1), (20, .ireturn, 1), (21, .iconst 0, 1), (22, .ireturn, 1)]
def M_L_between : MT := (t_L_between, P_L, [], [(0, 10, 13, 24, 2, 4, 2), (0, 10, 17, 13, 0, 4, 2)])
theorem T_L_between : TabOK i_L_between M_L_between := tab_ok (by decide +kernel)
theorem H_L_between : ThrOK i_L_between M_L_between := ⟨fa_n, rfl, fa_c ⟨by decide, by decide, tb_of (i := 15029) (by decide +kernel), nw_of (i := 15041) (by decide +kernel), by decide, Or.inr ⟨rfl, by decide +kernel⟩⟩ (fa_c ⟨by decide, by decide, tb_of (i := 13169) (by decide +kernel), nw_of (i := 14159) (by decide +kernel), by decide, Or.inr ⟨rfl, by decide +kernel⟩⟩ (fa_n))⟩
def t_L_echo : List (Nat × Instr × Nat) := [(0, .aload 5, 2), (2, .iconst 0, 1), (3, .aload_n 0, 1), (4, .iload_n 1, 1), (5, .iload_n 2, 1), (6, .iload_n 3, 1), (7, .iload 4, 2), (9, .invokevirtual 117, 3), (12, .i2l, 1), (13, .lastore, 1), (14, .goto 7, 3), (17, .astore 6, 2), (19, .iconst 1, 1), (20, .ireturn, 1), (21, .iconst 0, 1), (22, .ireturn, 1)]
def M_L_echo : MT := (t_L_echo, P_L, [], [(0, 14, 17, 24, 2, 6, 2)])
theorem T_L_echo : TabOK i_L_echo M_L_echo := tab_ok (by decide +kernel)
theorem H_L_echo : ThrOK i_L_echo M_L_echo := ⟨fa_n, rfl, fa_c ⟨by decide, by decide, tb_of (i := 15029) (by decide +kernel), nw_of (i := 15041) (by decide +kernel), by decide, Or.inr ⟨rfl, by decide +kernel⟩⟩ (fa_n)⟩
def t_L_learnt : List (Nat × Instr × Nat) := [(0, .aload_n 3, 1), (1, .iconst 0, 1), (2, .aload_n 0, 1), (3, .iload_n 1, 1), (4, .iload_n 2, 1), (5, .invokevirtual 120, 3), (8, .i2l, 1), (9, .lastore, 1), (10, .goto 7, 3), (13, .astore 4, 2), (15, .iconst 1, 1), (16, .ireturn, 1), (17, .iconst 0, 1), (18, .ireturn, 1)]
def M_L_learnt : MT := (t_L_learnt, P_L, [], [(0, 10, 13, 24, 2, 4, 2)])
theorem T_L_learnt : TabOK i_L_learnt M_L_learnt := tab_ok (by decide +kernel)
theorem H_L_learnt : ThrOK i_L_learnt M_L_learnt := ⟨fa_n, rfl, fa_c ⟨by decide, by decide, tb_of (i := 15029) (by decide +kernel), nw_of (i := 15041) (by decide +kernel), by decide, Or.inr ⟨rfl, by decide +kernel⟩⟩ (fa_n)⟩
def t_L_log : List (Nat × Instr × Nat) := [(0, .aload_n 3, 1), (1, .iconst 0, 1), (2, .aload_n 0, 1), (3, .iload_n 1, 1), (4, .iload_n 2, 1), (5, .invokevirtual 123, 3), (8, .i2l, 1), (9, .lastore, 1), (10, .goto 7, 3), (13, .astore 4, 2), (15, .iconst 1, 1), (16, .ireturn, 1), (17, .iconst 0, 1), (18, .ireturn, 1)]
def M_L_log : MT := (t_L_log, P_L, [], [(0, 10, 13, 26, 3, 4, 2)])
theorem T_L_log : TabOK i_L_log M_L_log := tab_ok (by decide +kernel)
theorem H_L_log : ThrOK i_L_log M_L_log := ⟨fa_n, rfl, fa_c ⟨by decide, by decide, tb_of (i := 15030) (by decide +kernel), nw_of (i := 15076) (by decide +kernel), by decide, Or.inr ⟨rfl, by decide +kernel⟩⟩ (fa_n)⟩
end
