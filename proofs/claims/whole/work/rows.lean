section
-- ===== PART A: goes FIRST, ahead of the names: the tables' words, and 'selects' of the private methods out of them =====
/-- a private method of a class that the tables say can be made, by its rows of tables_1 -/
def lw_okq (q : MethodName × Nat) : Prop := (q.1.cls ≠ "java/lang/invoke/MethodHandle" ∧ q.1.cls ≠ "java/lang/invoke/VarHandle") ∧ Cond.instantiable q.1.cls q.2 ∈ tables_1 ∧ Cond.privateMethod q.1 ∈ tables_1 ∧ Cond.instanceMethod q.1 ∈ tables_1
theorem lw_p0 : lw_okq (⟨"SaidOnce", "remember", "()V"⟩, 10) := ⟨⟨by decide +kernel, by decide +kernel⟩, List.mem_of_getElem? (i := 32) (by decide +kernel), List.mem_of_getElem? (i := 460) (by decide +kernel), List.mem_of_getElem? (i := 461) (by decide +kernel)⟩
theorem lw_p1 : lw_okq (⟨"SaidOnce$School", "tellAll", "(I)Z"⟩, 6) := ⟨⟨by decide +kernel, by decide +kernel⟩, List.mem_of_getElem? (i := 76) (by decide +kernel), List.mem_of_getElem? (i := 539) (by decide +kernel), List.mem_of_getElem? (i := 540) (by decide +kernel)⟩
theorem lw_p2 : lw_okq (⟨"SaidOnce$School", "tellOne", "(III)Z"⟩, 6) := ⟨⟨by decide +kernel, by decide +kernel⟩, List.mem_of_getElem? (i := 76) (by decide +kernel), List.mem_of_getElem? (i := 547) (by decide +kernel), List.mem_of_getElem? (i := 548) (by decide +kernel)⟩
theorem lw_p3 : lw_okq (⟨"SaidOnce$Law", "holds", "(I)Z"⟩, 10) := ⟨⟨by decide +kernel, by decide +kernel⟩, List.mem_of_getElem? (i := 205) (by decide +kernel), List.mem_of_getElem? (i := 573) (by decide +kernel), List.mem_of_getElem? (i := 574) (by decide +kernel)⟩
theorem lw_p4 : lw_okq (⟨"SaidOnce$Tape", "isWithin", "(ICC)Z"⟩, 7) := ⟨⟨by decide +kernel, by decide +kernel⟩, List.mem_of_getElem? (i := 40) (by decide +kernel), List.mem_of_getElem? (i := 676) (by decide +kernel), List.mem_of_getElem? (i := 677) (by decide +kernel)⟩
theorem lw_p5 : lw_okq (⟨"SaidOnce$LawReader", "readCondition", "()Z"⟩, 6) := ⟨⟨by decide +kernel, by decide +kernel⟩, List.mem_of_getElem? (i := 376) (by decide +kernel), List.mem_of_getElem? (i := 760) (by decide +kernel), List.mem_of_getElem? (i := 761) (by decide +kernel)⟩
theorem lw_p6 : lw_okq (⟨"SaidOnce$LawReader", "readOpenings", "()Z"⟩, 6) := ⟨⟨by decide +kernel, by decide +kernel⟩, List.mem_of_getElem? (i := 376) (by decide +kernel), List.mem_of_getElem? (i := 764) (by decide +kernel), List.mem_of_getElem? (i := 765) (by decide +kernel)⟩
theorem lw_p7 : lw_okq (⟨"SaidOnce$LawReader", "await", "(I)V"⟩, 6) := ⟨⟨by decide +kernel, by decide +kernel⟩, List.mem_of_getElem? (i := 376) (by decide +kernel), List.mem_of_getElem? (i := 773) (by decide +kernel), List.mem_of_getElem? (i := 774) (by decide +kernel)⟩
theorem lw_p8 : lw_okq (⟨"SaidOnce$LawReader", "readFact", "()Z"⟩, 6) := ⟨⟨by decide +kernel, by decide +kernel⟩, List.mem_of_getElem? (i := 376) (by decide +kernel), List.mem_of_getElem? (i := 777) (by decide +kernel), List.mem_of_getElem? (i := 778) (by decide +kernel)⟩
theorem lw_p9 : lw_okq (⟨"SaidOnce$LawReader", "partHere", "()I"⟩, 6) := ⟨⟨by decide +kernel, by decide +kernel⟩, List.mem_of_getElem? (i := 376) (by decide +kernel), List.mem_of_getElem? (i := 786) (by decide +kernel), List.mem_of_getElem? (i := 787) (by decide +kernel)⟩
theorem lw_p10 : lw_okq (⟨"SaidOnce$LawReader", "readClosings", "()V"⟩, 6) := ⟨⟨by decide +kernel, by decide +kernel⟩, List.mem_of_getElem? (i := 376) (by decide +kernel), List.mem_of_getElem? (i := 798) (by decide +kernel), List.mem_of_getElem? (i := 799) (by decide +kernel)⟩
theorem lw_p11 : lw_okq (⟨"SaidOnce$LawReader", "settle", "(I)V"⟩, 6) := ⟨⟨by decide +kernel, by decide +kernel⟩, List.mem_of_getElem? (i := 376) (by decide +kernel), List.mem_of_getElem? (i := 802) (by decide +kernel), List.mem_of_getElem? (i := 803) (by decide +kernel)⟩
theorem lw_p12 : lw_okq (⟨"SaidOnce$SchoolReader", "readThing", "()Z"⟩, 3) := ⟨⟨by decide +kernel, by decide +kernel⟩, List.mem_of_getElem? (i := 349) (by decide +kernel), List.mem_of_getElem? (i := 822) (by decide +kernel), List.mem_of_getElem? (i := 823) (by decide +kernel)⟩
theorem lw_p13 : lw_okq (⟨"SaidOnce$SchoolReader", "readPerson", "()Z"⟩, 3) := ⟨⟨by decide +kernel, by decide +kernel⟩, List.mem_of_getElem? (i := 349) (by decide +kernel), List.mem_of_getElem? (i := 829) (by decide +kernel), List.mem_of_getElem? (i := 830) (by decide +kernel)⟩
theorem lw_p14 : lw_okq (⟨"SaidOnce$SchoolReader", "readThings", "()I"⟩, 3) := ⟨⟨by decide +kernel, by decide +kernel⟩, List.mem_of_getElem? (i := 349) (by decide +kernel), List.mem_of_getElem? (i := 842) (by decide +kernel), List.mem_of_getElem? (i := 843) (by decide +kernel)⟩
theorem lw_p15 : lw_okq (⟨"SaidOnce$SchoolReader", "readRule", "()Z"⟩, 3) := ⟨⟨by decide +kernel, by decide +kernel⟩, List.mem_of_getElem? (i := 349) (by decide +kernel), List.mem_of_getElem? (i := 851) (by decide +kernel), List.mem_of_getElem? (i := 852) (by decide +kernel)⟩
def lw_privs_1 : List (MethodName × Nat) := [(⟨"SaidOnce", "remember", "()V"⟩, 10), (⟨"SaidOnce$School", "tellAll", "(I)Z"⟩, 6), (⟨"SaidOnce$School", "tellOne", "(III)Z"⟩, 6), (⟨"SaidOnce$Law", "holds", "(I)Z"⟩, 10), (⟨"SaidOnce$Tape", "isWithin", "(ICC)Z"⟩, 7), (⟨"SaidOnce$LawReader", "readCondition", "()Z"⟩, 6), (⟨"SaidOnce$LawReader", "readOpenings", "()Z"⟩, 6), (⟨"SaidOnce$LawReader", "await", "(I)V"⟩, 6), (⟨"SaidOnce$LawReader", "readFact", "()Z"⟩, 6), (⟨"SaidOnce$LawReader", "partHere", "()I"⟩, 6), (⟨"SaidOnce$LawReader", "readClosings", "()V"⟩, 6), (⟨"SaidOnce$LawReader", "settle", "(I)V"⟩, 6), (⟨"SaidOnce$SchoolReader", "readThing", "()Z"⟩, 3), (⟨"SaidOnce$SchoolReader", "readPerson", "()Z"⟩, 3), (⟨"SaidOnce$SchoolReader", "readThings", "()I"⟩, 3), (⟨"SaidOnce$SchoolReader", "readRule", "()Z"⟩, 3)]
theorem lw_r1 : ∀ q ∈ lw_privs_1, lw_okq q := List.forall_mem_cons.mpr ⟨lw_p0, List.forall_mem_cons.mpr ⟨lw_p1, List.forall_mem_cons.mpr ⟨lw_p2, List.forall_mem_cons.mpr ⟨lw_p3, List.forall_mem_cons.mpr ⟨lw_p4, List.forall_mem_cons.mpr ⟨lw_p5, List.forall_mem_cons.mpr ⟨lw_p6, List.forall_mem_cons.mpr ⟨lw_p7, List.forall_mem_cons.mpr ⟨lw_p8, List.forall_mem_cons.mpr ⟨lw_p9, List.forall_mem_cons.mpr ⟨lw_p10, List.forall_mem_cons.mpr ⟨lw_p11, List.forall_mem_cons.mpr ⟨lw_p12, List.forall_mem_cons.mpr ⟨lw_p13, List.forall_mem_cons.mpr ⟨lw_p14, List.forall_mem_cons.mpr ⟨lw_p15, fun _ h => absurd h List.not_mem_nil⟩⟩⟩⟩⟩⟩⟩⟩⟩⟩⟩⟩⟩⟩⟩⟩
theorem lw_p16 : lw_okq (⟨"SaidOnce$SchoolReader", "readSaid", "()Z"⟩, 3) := ⟨⟨by decide +kernel, by decide +kernel⟩, List.mem_of_getElem? (i := 349) (by decide +kernel), List.mem_of_getElem? (i := 856) (by decide +kernel), List.mem_of_getElem? (i := 857) (by decide +kernel)⟩
theorem lw_p17 : lw_okq (⟨"SaidOnce$SchoolReader", "readAbsent", "()Z"⟩, 3) := ⟨⟨by decide +kernel, by decide +kernel⟩, List.mem_of_getElem? (i := 349) (by decide +kernel), List.mem_of_getElem? (i := 864) (by decide +kernel), List.mem_of_getElem? (i := 865) (by decide +kernel)⟩
theorem lw_p18 : lw_okq (⟨"SaidOnce$SchoolReader", "readLoud", "()Z"⟩, 3) := ⟨⟨by decide +kernel, by decide +kernel⟩, List.mem_of_getElem? (i := 349) (by decide +kernel), List.mem_of_getElem? (i := 869) (by decide +kernel), List.mem_of_getElem? (i := 870) (by decide +kernel)⟩
theorem lw_p19 : lw_okq (⟨"java/lang/Throwable", "fillInStackTrace", "(I)Ljava/lang/Throwable;"⟩, 6) := ⟨⟨by decide +kernel, by decide +kernel⟩, List.mem_of_getElem? (i := 918) (by decide +kernel), List.mem_of_getElem? (i := 916) (by decide +kernel), List.mem_of_getElem? (i := 917) (by decide +kernel)⟩
theorem lw_p20 : lw_okq (⟨"SaidOnce", "needThing", "(I)V"⟩, 10) := ⟨⟨by decide +kernel, by decide +kernel⟩, List.mem_of_getElem? (i := 32) (by decide +kernel), List.mem_of_getElem? (i := 996) (by decide +kernel), List.mem_of_getElem? (i := 997) (by decide +kernel)⟩
theorem lw_p21 : lw_okq (⟨"SaidOnce", "needPerson", "(I)V"⟩, 10) := ⟨⟨by decide +kernel, by decide +kernel⟩, List.mem_of_getElem? (i := 32) (by decide +kernel), List.mem_of_getElem? (i := 1058) (by decide +kernel), List.mem_of_getElem? (i := 1059) (by decide +kernel)⟩
theorem lw_p22 : lw_okq (⟨"SaidOnce", "needTwo", "(II)V"⟩, 10) := ⟨⟨by decide +kernel, by decide +kernel⟩, List.mem_of_getElem? (i := 32) (by decide +kernel), List.mem_of_getElem? (i := 1079) (by decide +kernel), List.mem_of_getElem? (i := 1080) (by decide +kernel)⟩
theorem lw_p23 : lw_okq (⟨"SaidOnce", "needSaying", "(II)V"⟩, 10) := ⟨⟨by decide +kernel, by decide +kernel⟩, List.mem_of_getElem? (i := 32) (by decide +kernel), List.mem_of_getElem? (i := 1092) (by decide +kernel), List.mem_of_getElem? (i := 1093) (by decide +kernel)⟩
theorem lw_p24 : lw_okq (⟨"SaidOnce$Planner", "prepare", "(I)V"⟩, 6) := ⟨⟨by decide +kernel, by decide +kernel⟩, List.mem_of_getElem? (i := 311) (by decide +kernel), List.mem_of_getElem? (i := 1218) (by decide +kernel), List.mem_of_getElem? (i := 1219) (by decide +kernel)⟩
theorem lw_p25 : lw_okq (⟨"SaidOnce$Planner", "mark", "(II)V"⟩, 6) := ⟨⟨by decide +kernel, by decide +kernel⟩, List.mem_of_getElem? (i := 311) (by decide +kernel), List.mem_of_getElem? (i := 1229) (by decide +kernel), List.mem_of_getElem? (i := 1230) (by decide +kernel)⟩
theorem lw_p26 : lw_okq (⟨"SaidOnce$Planner", "isBlank", "(II)Z"⟩, 6) := ⟨⟨by decide +kernel, by decide +kernel⟩, List.mem_of_getElem? (i := 311) (by decide +kernel), List.mem_of_getElem? (i := 1234) (by decide +kernel), List.mem_of_getElem? (i := 1235) (by decide +kernel)⟩
theorem lw_p27 : lw_okq (⟨"SaidOnce$Planner", "isMarked", "(II)Z"⟩, 6) := ⟨⟨by decide +kernel, by decide +kernel⟩, List.mem_of_getElem? (i := 311) (by decide +kernel), List.mem_of_getElem? (i := 1238) (by decide +kernel), List.mem_of_getElem? (i := 1239) (by decide +kernel)⟩
theorem lw_p28 : lw_okq (⟨"SaidOnce$Planner", "spread", "(II)Z"⟩, 6) := ⟨⟨by decide +kernel, by decide +kernel⟩, List.mem_of_getElem? (i := 311) (by decide +kernel), List.mem_of_getElem? (i := 1242) (by decide +kernel), List.mem_of_getElem? (i := 1243) (by decide +kernel)⟩
theorem lw_p29 : lw_okq (⟨"SaidOnce$Planner", "sayableBy", "(III)I"⟩, 6) := ⟨⟨by decide +kernel, by decide +kernel⟩, List.mem_of_getElem? (i := 311) (by decide +kernel), List.mem_of_getElem? (i := 1246) (by decide +kernel), List.mem_of_getElem? (i := 1247) (by decide +kernel)⟩
theorem lw_p30 : lw_okq (⟨"SaidOnce$Planner", "afterwards", "(III)I"⟩, 6) := ⟨⟨by decide +kernel, by decide +kernel⟩, List.mem_of_getElem? (i := 311) (by decide +kernel), List.mem_of_getElem? (i := 1250) (by decide +kernel), List.mem_of_getElem? (i := 1251) (by decide +kernel)⟩
theorem lw_p31 : lw_okq (⟨"SaidOnce$Planner", "keepOnlyWhatLeadsThere", "(I)V"⟩, 6) := ⟨⟨by decide +kernel, by decide +kernel⟩, List.mem_of_getElem? (i := 311) (by decide +kernel), List.mem_of_getElem? (i := 1254) (by decide +kernel), List.mem_of_getElem? (i := 1255) (by decide +kernel)⟩
def lw_privs_2 : List (MethodName × Nat) := [(⟨"SaidOnce$SchoolReader", "readSaid", "()Z"⟩, 3), (⟨"SaidOnce$SchoolReader", "readAbsent", "()Z"⟩, 3), (⟨"SaidOnce$SchoolReader", "readLoud", "()Z"⟩, 3), (⟨"java/lang/Throwable", "fillInStackTrace", "(I)Ljava/lang/Throwable;"⟩, 6), (⟨"SaidOnce", "needThing", "(I)V"⟩, 10), (⟨"SaidOnce", "needPerson", "(I)V"⟩, 10), (⟨"SaidOnce", "needTwo", "(II)V"⟩, 10), (⟨"SaidOnce", "needSaying", "(II)V"⟩, 10), (⟨"SaidOnce$Planner", "prepare", "(I)V"⟩, 6), (⟨"SaidOnce$Planner", "mark", "(II)V"⟩, 6), (⟨"SaidOnce$Planner", "isBlank", "(II)Z"⟩, 6), (⟨"SaidOnce$Planner", "isMarked", "(II)Z"⟩, 6), (⟨"SaidOnce$Planner", "spread", "(II)Z"⟩, 6), (⟨"SaidOnce$Planner", "sayableBy", "(III)I"⟩, 6), (⟨"SaidOnce$Planner", "afterwards", "(III)I"⟩, 6), (⟨"SaidOnce$Planner", "keepOnlyWhatLeadsThere", "(I)V"⟩, 6)]
theorem lw_r2 : ∀ q ∈ lw_privs_2, lw_okq q := List.forall_mem_cons.mpr ⟨lw_p16, List.forall_mem_cons.mpr ⟨lw_p17, List.forall_mem_cons.mpr ⟨lw_p18, List.forall_mem_cons.mpr ⟨lw_p19, List.forall_mem_cons.mpr ⟨lw_p20, List.forall_mem_cons.mpr ⟨lw_p21, List.forall_mem_cons.mpr ⟨lw_p22, List.forall_mem_cons.mpr ⟨lw_p23, List.forall_mem_cons.mpr ⟨lw_p24, List.forall_mem_cons.mpr ⟨lw_p25, List.forall_mem_cons.mpr ⟨lw_p26, List.forall_mem_cons.mpr ⟨lw_p27, List.forall_mem_cons.mpr ⟨lw_p28, List.forall_mem_cons.mpr ⟨lw_p29, List.forall_mem_cons.mpr ⟨lw_p30, List.forall_mem_cons.mpr ⟨lw_p31, fun _ h => absurd h List.not_mem_nil⟩⟩⟩⟩⟩⟩⟩⟩⟩⟩⟩⟩⟩⟩⟩⟩
theorem lw_p32 : lw_okq (⟨"SaidOnce$Planner", "leadsOn", "(II)Z"⟩, 6) := ⟨⟨by decide +kernel, by decide +kernel⟩, List.mem_of_getElem? (i := 311) (by decide +kernel), List.mem_of_getElem? (i := 1258) (by decide +kernel), List.mem_of_getElem? (i := 1259) (by decide +kernel)⟩
theorem lw_p33 : lw_okq (⟨"SaidOnce$Planner", "unmark", "(II)V"⟩, 6) := ⟨⟨by decide +kernel, by decide +kernel⟩, List.mem_of_getElem? (i := 311) (by decide +kernel), List.mem_of_getElem? (i := 1262) (by decide +kernel), List.mem_of_getElem? (i := 1263) (by decide +kernel)⟩
theorem lw_p34 : lw_okq (⟨"SaidOnce$Search", "hearFromEach", "(II)V"⟩, 2) := ⟨⟨by decide +kernel, by decide +kernel⟩, List.mem_of_getElem? (i := 336) (by decide +kernel), List.mem_of_getElem? (i := 1280) (by decide +kernel), List.mem_of_getElem? (i := 1281) (by decide +kernel)⟩
theorem lw_p35 : lw_okq (⟨"SaidOnce$Search", "spreadAmong", "(II)I"⟩, 2) := ⟨⟨by decide +kernel, by decide +kernel⟩, List.mem_of_getElem? (i := 336) (by decide +kernel), List.mem_of_getElem? (i := 1287) (by decide +kernel), List.mem_of_getElem? (i := 1288) (by decide +kernel)⟩
theorem lw_p36 : lw_okq (⟨"SaidOnce$Search", "heardFromAll", "(I)I"⟩, 2) := ⟨⟨by decide +kernel, by decide +kernel⟩, List.mem_of_getElem? (i := 336) (by decide +kernel), List.mem_of_getElem? (i := 1291) (by decide +kernel), List.mem_of_getElem? (i := 1292) (by decide +kernel)⟩
theorem lw_p37 : lw_okq (⟨"SaidOnce", "comesAsTold", "(III)Z"⟩, 10) := ⟨⟨by decide +kernel, by decide +kernel⟩, List.mem_of_getElem? (i := 32) (by decide +kernel), List.mem_of_getElem? (i := 1326) (by decide +kernel), List.mem_of_getElem? (i := 1327) (by decide +kernel)⟩
theorem lw_p38 : lw_okq (⟨"SaidOnce", "lead", "(II)I"⟩, 10) := ⟨⟨by decide +kernel, by decide +kernel⟩, List.mem_of_getElem? (i := 32) (by decide +kernel), List.mem_of_getElem? (i := 1353) (by decide +kernel), List.mem_of_getElem? (i := 1354) (by decide +kernel)⟩
theorem lw_p39 : lw_okq (⟨"SaidOnce", "rowAgo", "(I)I"⟩, 10) := ⟨⟨by decide +kernel, by decide +kernel⟩, List.mem_of_getElem? (i := 32) (by decide +kernel), List.mem_of_getElem? (i := 1486) (by decide +kernel), List.mem_of_getElem? (i := 1487) (by decide +kernel)⟩
theorem lw_p40 : lw_okq (⟨"SaidOnceModel", "readAll", "(Z)I"⟩, 27) := ⟨⟨by decide +kernel, by decide +kernel⟩, List.mem_of_getElem? (i := 1503) (by decide +kernel), List.mem_of_getElem? (i := 1620) (by decide +kernel), List.mem_of_getElem? (i := 1621) (by decide +kernel)⟩
theorem lw_p41 : lw_okq (⟨"SaidOnceModel", "uses", "()V"⟩, 27) := ⟨⟨by decide +kernel, by decide +kernel⟩, List.mem_of_getElem? (i := 1503) (by decide +kernel), List.mem_of_getElem? (i := 1624) (by decide +kernel), List.mem_of_getElem? (i := 1625) (by decide +kernel)⟩
theorem lw_p42 : lw_okq (⟨"SaidOnceModel", "blanks", "()V"⟩, 27) := ⟨⟨by decide +kernel, by decide +kernel⟩, List.mem_of_getElem? (i := 1503) (by decide +kernel), List.mem_of_getElem? (i := 1628) (by decide +kernel), List.mem_of_getElem? (i := 1629) (by decide +kernel)⟩
theorem lw_p43 : lw_okq (⟨"SaidOnceModel", "isAt", "(II)Z"⟩, 27) := ⟨⟨by decide +kernel, by decide +kernel⟩, List.mem_of_getElem? (i := 1503) (by decide +kernel), List.mem_of_getElem? (i := 1632) (by decide +kernel), List.mem_of_getElem? (i := 1633) (by decide +kernel)⟩
theorem lw_p44 : lw_okq (⟨"SaidOnceModel", "readLine", "(ZI)Z"⟩, 27) := ⟨⟨by decide +kernel, by decide +kernel⟩, List.mem_of_getElem? (i := 1503) (by decide +kernel), List.mem_of_getElem? (i := 1636) (by decide +kernel), List.mem_of_getElem? (i := 1637) (by decide +kernel)⟩
theorem lw_p45 : lw_okq (⟨"SaidOnceModel", "letters", "()V"⟩, 27) := ⟨⟨by decide +kernel, by decide +kernel⟩, List.mem_of_getElem? (i := 1503) (by decide +kernel), List.mem_of_getElem? (i := 1640) (by decide +kernel), List.mem_of_getElem? (i := 1641) (by decide +kernel)⟩
theorem lw_p46 : lw_okq (⟨"SaidOnceModel", "readSchoolLine", "()Z"⟩, 27) := ⟨⟨by decide +kernel, by decide +kernel⟩, List.mem_of_getElem? (i := 1503) (by decide +kernel), List.mem_of_getElem? (i := 1644) (by decide +kernel), List.mem_of_getElem? (i := 1645) (by decide +kernel)⟩
theorem lw_p47 : lw_okq (⟨"SaidOnceModel", "isWord", "(Ljava/lang/String;)Z"⟩, 27) := ⟨⟨by decide +kernel, by decide +kernel⟩, List.mem_of_getElem? (i := 1503) (by decide +kernel), List.mem_of_getElem? (i := 1649) (by decide +kernel), List.mem_of_getElem? (i := 1650) (by decide +kernel)⟩
def lw_privs_3 : List (MethodName × Nat) := [(⟨"SaidOnce$Planner", "leadsOn", "(II)Z"⟩, 6), (⟨"SaidOnce$Planner", "unmark", "(II)V"⟩, 6), (⟨"SaidOnce$Search", "hearFromEach", "(II)V"⟩, 2), (⟨"SaidOnce$Search", "spreadAmong", "(II)I"⟩, 2), (⟨"SaidOnce$Search", "heardFromAll", "(I)I"⟩, 2), (⟨"SaidOnce", "comesAsTold", "(III)Z"⟩, 10), (⟨"SaidOnce", "lead", "(II)I"⟩, 10), (⟨"SaidOnce", "rowAgo", "(I)I"⟩, 10), (⟨"SaidOnceModel", "readAll", "(Z)I"⟩, 27), (⟨"SaidOnceModel", "uses", "()V"⟩, 27), (⟨"SaidOnceModel", "blanks", "()V"⟩, 27), (⟨"SaidOnceModel", "isAt", "(II)Z"⟩, 27), (⟨"SaidOnceModel", "readLine", "(ZI)Z"⟩, 27), (⟨"SaidOnceModel", "letters", "()V"⟩, 27), (⟨"SaidOnceModel", "readSchoolLine", "()Z"⟩, 27), (⟨"SaidOnceModel", "isWord", "(Ljava/lang/String;)Z"⟩, 27)]
theorem lw_r3 : ∀ q ∈ lw_privs_3, lw_okq q := List.forall_mem_cons.mpr ⟨lw_p32, List.forall_mem_cons.mpr ⟨lw_p33, List.forall_mem_cons.mpr ⟨lw_p34, List.forall_mem_cons.mpr ⟨lw_p35, List.forall_mem_cons.mpr ⟨lw_p36, List.forall_mem_cons.mpr ⟨lw_p37, List.forall_mem_cons.mpr ⟨lw_p38, List.forall_mem_cons.mpr ⟨lw_p39, List.forall_mem_cons.mpr ⟨lw_p40, List.forall_mem_cons.mpr ⟨lw_p41, List.forall_mem_cons.mpr ⟨lw_p42, List.forall_mem_cons.mpr ⟨lw_p43, List.forall_mem_cons.mpr ⟨lw_p44, List.forall_mem_cons.mpr ⟨lw_p45, List.forall_mem_cons.mpr ⟨lw_p46, List.forall_mem_cons.mpr ⟨lw_p47, fun _ h => absurd h List.not_mem_nil⟩⟩⟩⟩⟩⟩⟩⟩⟩⟩⟩⟩⟩⟩⟩⟩
theorem lw_p48 : lw_okq (⟨"SaidOnceModel", "readThing", "()Z"⟩, 27) := ⟨⟨by decide +kernel, by decide +kernel⟩, List.mem_of_getElem? (i := 1503) (by decide +kernel), List.mem_of_getElem? (i := 1655) (by decide +kernel), List.mem_of_getElem? (i := 1656) (by decide +kernel)⟩
theorem lw_p49 : lw_okq (⟨"SaidOnceModel", "things", "()I"⟩, 27) := ⟨⟨by decide +kernel, by decide +kernel⟩, List.mem_of_getElem? (i := 1503) (by decide +kernel), List.mem_of_getElem? (i := 1659) (by decide +kernel), List.mem_of_getElem? (i := 1660) (by decide +kernel)⟩
theorem lw_p50 : lw_okq (⟨"SaidOnceModel", "number", "(II)I"⟩, 27) := ⟨⟨by decide +kernel, by decide +kernel⟩, List.mem_of_getElem? (i := 1503) (by decide +kernel), List.mem_of_getElem? (i := 1663) (by decide +kernel), List.mem_of_getElem? (i := 1664) (by decide +kernel)⟩
theorem lw_p51 : lw_okq (⟨"SaidOnceModel", "readPerson", "()Z"⟩, 27) := ⟨⟨by decide +kernel, by decide +kernel⟩, List.mem_of_getElem? (i := 1503) (by decide +kernel), List.mem_of_getElem? (i := 1668) (by decide +kernel), List.mem_of_getElem? (i := 1669) (by decide +kernel)⟩
theorem lw_p52 : lw_okq (⟨"SaidOnceModel", "people", "()I"⟩, 27) := ⟨⟨by decide +kernel, by decide +kernel⟩, List.mem_of_getElem? (i := 1503) (by decide +kernel), List.mem_of_getElem? (i := 1672) (by decide +kernel), List.mem_of_getElem? (i := 1673) (by decide +kernel)⟩
theorem lw_p53 : lw_okq (⟨"SaidOnceModel", "sitter", "(II)I"⟩, 27) := ⟨⟨by decide +kernel, by decide +kernel⟩, List.mem_of_getElem? (i := 1503) (by decide +kernel), List.mem_of_getElem? (i := 1676) (by decide +kernel), List.mem_of_getElem? (i := 1677) (by decide +kernel)⟩
theorem lw_p54 : lw_okq (⟨"SaidOnceModel", "of", "(II)I"⟩, 27) := ⟨⟨by decide +kernel, by decide +kernel⟩, List.mem_of_getElem? (i := 1503) (by decide +kernel), List.mem_of_getElem? (i := 1680) (by decide +kernel), List.mem_of_getElem? (i := 1681) (by decide +kernel)⟩
theorem lw_p55 : lw_okq (⟨"SaidOnceModel", "after", "(Ljava/lang/String;II)I"⟩, 27) := ⟨⟨by decide +kernel, by decide +kernel⟩, List.mem_of_getElem? (i := 1503) (by decide +kernel), List.mem_of_getElem? (i := 1688) (by decide +kernel), List.mem_of_getElem? (i := 1689) (by decide +kernel)⟩
theorem lw_p56 : lw_okq (⟨"SaidOnceModel", "passes", "(Ljava/lang/String;)Z"⟩, 27) := ⟨⟨by decide +kernel, by decide +kernel⟩, List.mem_of_getElem? (i := 1503) (by decide +kernel), List.mem_of_getElem? (i := 1694) (by decide +kernel), List.mem_of_getElem? (i := 1695) (by decide +kernel)⟩
theorem lw_p57 : lw_okq (⟨"SaidOnceModel", "thingTold", "()I"⟩, 27) := ⟨⟨by decide +kernel, by decide +kernel⟩, List.mem_of_getElem? (i := 1503) (by decide +kernel), List.mem_of_getElem? (i := 1698) (by decide +kernel), List.mem_of_getElem? (i := 1699) (by decide +kernel)⟩
theorem lw_p58 : lw_okq (⟨"SaidOnceModel", "isFigure", "()Z"⟩, 27) := ⟨⟨by decide +kernel, by decide +kernel⟩, List.mem_of_getElem? (i := 1503) (by decide +kernel), List.mem_of_getElem? (i := 1702) (by decide +kernel), List.mem_of_getElem? (i := 1703) (by decide +kernel)⟩
theorem lw_p59 : lw_okq (⟨"SaidOnceModel", "readRule", "()Z"⟩, 27) := ⟨⟨by decide +kernel, by decide +kernel⟩, List.mem_of_getElem? (i := 1503) (by decide +kernel), List.mem_of_getElem? (i := 1707) (by decide +kernel), List.mem_of_getElem? (i := 1708) (by decide +kernel)⟩
theorem lw_p60 : lw_okq (⟨"SaidOnceModel", "rules", "()I"⟩, 27) := ⟨⟨by decide +kernel, by decide +kernel⟩, List.mem_of_getElem? (i := 1503) (by decide +kernel), List.mem_of_getElem? (i := 1711) (by decide +kernel), List.mem_of_getElem? (i := 1712) (by decide +kernel)⟩
theorem lw_p61 : lw_okq (⟨"SaidOnceModel", "readSaid", "()Z"⟩, 27) := ⟨⟨by decide +kernel, by decide +kernel⟩, List.mem_of_getElem? (i := 1503) (by decide +kernel), List.mem_of_getElem? (i := 1716) (by decide +kernel), List.mem_of_getElem? (i := 1717) (by decide +kernel)⟩
theorem lw_p62 : lw_okq (⟨"SaidOnceModel", "wordings", "(I)I"⟩, 27) := ⟨⟨by decide +kernel, by decide +kernel⟩, List.mem_of_getElem? (i := 1503) (by decide +kernel), List.mem_of_getElem? (i := 1720) (by decide +kernel), List.mem_of_getElem? (i := 1721) (by decide +kernel)⟩
theorem lw_p63 : lw_okq (⟨"SaidOnceModel", "readLawLine", "(I)Z"⟩, 27) := ⟨⟨by decide +kernel, by decide +kernel⟩, List.mem_of_getElem? (i := 1503) (by decide +kernel), List.mem_of_getElem? (i := 1726) (by decide +kernel), List.mem_of_getElem? (i := 1727) (by decide +kernel)⟩
def lw_privs_4 : List (MethodName × Nat) := [(⟨"SaidOnceModel", "readThing", "()Z"⟩, 27), (⟨"SaidOnceModel", "things", "()I"⟩, 27), (⟨"SaidOnceModel", "number", "(II)I"⟩, 27), (⟨"SaidOnceModel", "readPerson", "()Z"⟩, 27), (⟨"SaidOnceModel", "people", "()I"⟩, 27), (⟨"SaidOnceModel", "sitter", "(II)I"⟩, 27), (⟨"SaidOnceModel", "of", "(II)I"⟩, 27), (⟨"SaidOnceModel", "after", "(Ljava/lang/String;II)I"⟩, 27), (⟨"SaidOnceModel", "passes", "(Ljava/lang/String;)Z"⟩, 27), (⟨"SaidOnceModel", "thingTold", "()I"⟩, 27), (⟨"SaidOnceModel", "isFigure", "()Z"⟩, 27), (⟨"SaidOnceModel", "readRule", "()Z"⟩, 27), (⟨"SaidOnceModel", "rules", "()I"⟩, 27), (⟨"SaidOnceModel", "readSaid", "()Z"⟩, 27), (⟨"SaidOnceModel", "wordings", "(I)I"⟩, 27), (⟨"SaidOnceModel", "readLawLine", "(I)Z"⟩, 27)]
theorem lw_r4 : ∀ q ∈ lw_privs_4, lw_okq q := List.forall_mem_cons.mpr ⟨lw_p48, List.forall_mem_cons.mpr ⟨lw_p49, List.forall_mem_cons.mpr ⟨lw_p50, List.forall_mem_cons.mpr ⟨lw_p51, List.forall_mem_cons.mpr ⟨lw_p52, List.forall_mem_cons.mpr ⟨lw_p53, List.forall_mem_cons.mpr ⟨lw_p54, List.forall_mem_cons.mpr ⟨lw_p55, List.forall_mem_cons.mpr ⟨lw_p56, List.forall_mem_cons.mpr ⟨lw_p57, List.forall_mem_cons.mpr ⟨lw_p58, List.forall_mem_cons.mpr ⟨lw_p59, List.forall_mem_cons.mpr ⟨lw_p60, List.forall_mem_cons.mpr ⟨lw_p61, List.forall_mem_cons.mpr ⟨lw_p62, List.forall_mem_cons.mpr ⟨lw_p63, fun _ h => absurd h List.not_mem_nil⟩⟩⟩⟩⟩⟩⟩⟩⟩⟩⟩⟩⟩⟩⟩⟩
theorem lw_p64 : lw_okq (⟨"SaidOnceModel", "readCond", "()Z"⟩, 27) := ⟨⟨by decide +kernel, by decide +kernel⟩, List.mem_of_getElem? (i := 1503) (by decide +kernel), List.mem_of_getElem? (i := 1734) (by decide +kernel), List.mem_of_getElem? (i := 1735) (by decide +kernel)⟩
theorem lw_p65 : lw_okq (⟨"SaidOnceModel", "readAllOf", "()Z"⟩, 27) := ⟨⟨by decide +kernel, by decide +kernel⟩, List.mem_of_getElem? (i := 1503) (by decide +kernel), List.mem_of_getElem? (i := 1738) (by decide +kernel), List.mem_of_getElem? (i := 1739) (by decide +kernel)⟩
theorem lw_p66 : lw_okq (⟨"SaidOnceModel", "readAtom", "()Z"⟩, 27) := ⟨⟨by decide +kernel, by decide +kernel⟩, List.mem_of_getElem? (i := 1503) (by decide +kernel), List.mem_of_getElem? (i := 1742) (by decide +kernel), List.mem_of_getElem? (i := 1743) (by decide +kernel)⟩
theorem lw_p67 : lw_okq (⟨"SaidOnceModel", "sign", "(I)Z"⟩, 27) := ⟨⟨by decide +kernel, by decide +kernel⟩, List.mem_of_getElem? (i := 1503) (by decide +kernel), List.mem_of_getElem? (i := 1746) (by decide +kernel), List.mem_of_getElem? (i := 1747) (by decide +kernel)⟩
theorem lw_p68 : lw_okq (⟨"SaidOnceModel", "emits", "(II)V"⟩, 27) := ⟨⟨by decide +kernel, by decide +kernel⟩, List.mem_of_getElem? (i := 1503) (by decide +kernel), List.mem_of_getElem? (i := 1751) (by decide +kernel), List.mem_of_getElem? (i := 1752) (by decide +kernel)⟩
theorem lw_p69 : lw_okq (⟨"SaidOnceModel", "readSum", "()Z"⟩, 27) := ⟨⟨by decide +kernel, by decide +kernel⟩, List.mem_of_getElem? (i := 1503) (by decide +kernel), List.mem_of_getElem? (i := 1756) (by decide +kernel), List.mem_of_getElem? (i := 1757) (by decide +kernel)⟩
theorem lw_p70 : lw_okq (⟨"SaidOnceModel", "readPart", "()Z"⟩, 27) := ⟨⟨by decide +kernel, by decide +kernel⟩, List.mem_of_getElem? (i := 1503) (by decide +kernel), List.mem_of_getElem? (i := 1760) (by decide +kernel), List.mem_of_getElem? (i := 1761) (by decide +kernel)⟩
theorem lw_p71 : lw_okq (⟨"SaidOnceModel", "throwsIf", "(ZI)Z"⟩, 27) := ⟨⟨by decide +kernel, by decide +kernel⟩, List.mem_of_getElem? (i := 1503) (by decide +kernel), List.mem_of_getElem? (i := 1771) (by decide +kernel), List.mem_of_getElem? (i := 1772) (by decide +kernel)⟩
theorem lw_p72 : lw_okq (⟨"SaidOnceModel", "noPerson", "(I)Z"⟩, 27) := ⟨⟨by decide +kernel, by decide +kernel⟩, List.mem_of_getElem? (i := 1503) (by decide +kernel), List.mem_of_getElem? (i := 1783) (by decide +kernel), List.mem_of_getElem? (i := 1784) (by decide +kernel)⟩
theorem lw_p73 : lw_okq (⟨"SaidOnceModel", "noWording", "(II)Z"⟩, 27) := ⟨⟨by decide +kernel, by decide +kernel⟩, List.mem_of_getElem? (i := 1503) (by decide +kernel), List.mem_of_getElem? (i := 1790) (by decide +kernel), List.mem_of_getElem? (i := 1791) (by decide +kernel)⟩
theorem lw_p74 : lw_okq (⟨"SaidOnceModel", "noThing", "(I)Z"⟩, 27) := ⟨⟨by decide +kernel, by decide +kernel⟩, List.mem_of_getElem? (i := 1503) (by decide +kernel), List.mem_of_getElem? (i := 1794) (by decide +kernel), List.mem_of_getElem? (i := 1795) (by decide +kernel)⟩
theorem lw_p75 : lw_okq (⟨"SaidOnceModel", "takes", "(III)I"⟩, 27) := ⟨⟨by decide +kernel, by decide +kernel⟩, List.mem_of_getElem? (i := 1503) (by decide +kernel), List.mem_of_getElem? (i := 1801) (by decide +kernel), List.mem_of_getElem? (i := 1802) (by decide +kernel)⟩
theorem lw_p76 : lw_okq (⟨"SaidOnceModel", "isHere", "(I)Z"⟩, 27) := ⟨⟨by decide +kernel, by decide +kernel⟩, List.mem_of_getElem? (i := 1503) (by decide +kernel), List.mem_of_getElem? (i := 1805) (by decide +kernel), List.mem_of_getElem? (i := 1806) (by decide +kernel)⟩
theorem lw_p77 : lw_okq (⟨"SaidOnceModel", "isHeard", "(III)Z"⟩, 27) := ⟨⟨by decide +kernel, by decide +kernel⟩, List.mem_of_getElem? (i := 1503) (by decide +kernel), List.mem_of_getElem? (i := 1809) (by decide +kernel), List.mem_of_getElem? (i := 1810) (by decide +kernel)⟩
theorem lw_p78 : lw_okq (⟨"SaidOnceModel", "sumOf", "(IIII)I"⟩, 27) := ⟨⟨by decide +kernel, by decide +kernel⟩, List.mem_of_getElem? (i := 1503) (by decide +kernel), List.mem_of_getElem? (i := 1813) (by decide +kernel), List.mem_of_getElem? (i := 1814) (by decide +kernel)⟩
theorem lw_p79 : lw_okq (⟨"SaidOnceModel", "holdsLine", "(IIII)Z"⟩, 27) := ⟨⟨by decide +kernel, by decide +kernel⟩, List.mem_of_getElem? (i := 1503) (by decide +kernel), List.mem_of_getElem? (i := 1817) (by decide +kernel), List.mem_of_getElem? (i := 1818) (by decide +kernel)⟩
def lw_privs_5 : List (MethodName × Nat) := [(⟨"SaidOnceModel", "readCond", "()Z"⟩, 27), (⟨"SaidOnceModel", "readAllOf", "()Z"⟩, 27), (⟨"SaidOnceModel", "readAtom", "()Z"⟩, 27), (⟨"SaidOnceModel", "sign", "(I)Z"⟩, 27), (⟨"SaidOnceModel", "emits", "(II)V"⟩, 27), (⟨"SaidOnceModel", "readSum", "()Z"⟩, 27), (⟨"SaidOnceModel", "readPart", "()Z"⟩, 27), (⟨"SaidOnceModel", "throwsIf", "(ZI)Z"⟩, 27), (⟨"SaidOnceModel", "noPerson", "(I)Z"⟩, 27), (⟨"SaidOnceModel", "noWording", "(II)Z"⟩, 27), (⟨"SaidOnceModel", "noThing", "(I)Z"⟩, 27), (⟨"SaidOnceModel", "takes", "(III)I"⟩, 27), (⟨"SaidOnceModel", "isHere", "(I)Z"⟩, 27), (⟨"SaidOnceModel", "isHeard", "(III)Z"⟩, 27), (⟨"SaidOnceModel", "sumOf", "(IIII)I"⟩, 27), (⟨"SaidOnceModel", "holdsLine", "(IIII)Z"⟩, 27)]
theorem lw_r5 : ∀ q ∈ lw_privs_5, lw_okq q := List.forall_mem_cons.mpr ⟨lw_p64, List.forall_mem_cons.mpr ⟨lw_p65, List.forall_mem_cons.mpr ⟨lw_p66, List.forall_mem_cons.mpr ⟨lw_p67, List.forall_mem_cons.mpr ⟨lw_p68, List.forall_mem_cons.mpr ⟨lw_p69, List.forall_mem_cons.mpr ⟨lw_p70, List.forall_mem_cons.mpr ⟨lw_p71, List.forall_mem_cons.mpr ⟨lw_p72, List.forall_mem_cons.mpr ⟨lw_p73, List.forall_mem_cons.mpr ⟨lw_p74, List.forall_mem_cons.mpr ⟨lw_p75, List.forall_mem_cons.mpr ⟨lw_p76, List.forall_mem_cons.mpr ⟨lw_p77, List.forall_mem_cons.mpr ⟨lw_p78, List.forall_mem_cons.mpr ⟨lw_p79, fun _ h => absurd h List.not_mem_nil⟩⟩⟩⟩⟩⟩⟩⟩⟩⟩⟩⟩⟩⟩⟩⟩
theorem lw_p80 : lw_okq (⟨"SaidOnceModel", "factOf", "(IIIII)I"⟩, 27) := ⟨⟨by decide +kernel, by decide +kernel⟩, List.mem_of_getElem? (i := 1503) (by decide +kernel), List.mem_of_getElem? (i := 1821) (by decide +kernel), List.mem_of_getElem? (i := 1822) (by decide +kernel)⟩
theorem lw_p81 : lw_okq (⟨"SaidOnceModel", "apartOf", "(II)I"⟩, 27) := ⟨⟨by decide +kernel, by decide +kernel⟩, List.mem_of_getElem? (i := 1503) (by decide +kernel), List.mem_of_getElem? (i := 1825) (by decide +kernel), List.mem_of_getElem? (i := 1826) (by decide +kernel)⟩
theorem lw_p82 : lw_okq (⟨"SaidOnceModel", "knows", "(II)Z"⟩, 27) := ⟨⟨by decide +kernel, by decide +kernel⟩, List.mem_of_getElem? (i := 1503) (by decide +kernel), List.mem_of_getElem? (i := 1831) (by decide +kernel), List.mem_of_getElem? (i := 1832) (by decide +kernel)⟩
theorem lw_p83 : lw_okq (⟨"SaidOnceModel", "takenAs", "(III)I"⟩, 27) := ⟨⟨by decide +kernel, by decide +kernel⟩, List.mem_of_getElem? (i := 1503) (by decide +kernel), List.mem_of_getElem? (i := 1838) (by decide +kernel), List.mem_of_getElem? (i := 1839) (by decide +kernel)⟩
theorem lw_p84 : lw_okq (⟨"SaidOnceModel", "hearers", "(IIZ)I"⟩, 27) := ⟨⟨by decide +kernel, by decide +kernel⟩, List.mem_of_getElem? (i := 1503) (by decide +kernel), List.mem_of_getElem? (i := 1846) (by decide +kernel), List.mem_of_getElem? (i := 1847) (by decide +kernel)⟩
theorem lw_p85 : lw_okq (⟨"SaidOnceModel", "leftOf", "(I)I"⟩, 27) := ⟨⟨by decide +kernel, by decide +kernel⟩, List.mem_of_getElem? (i := 1503) (by decide +kernel), List.mem_of_getElem? (i := 1854) (by decide +kernel), List.mem_of_getElem? (i := 1855) (by decide +kernel)⟩
theorem lw_p86 : lw_okq (⟨"SaidOnceModel", "isSaid", "(II)Z"⟩, 27) := ⟨⟨by decide +kernel, by decide +kernel⟩, List.mem_of_getElem? (i := 1503) (by decide +kernel), List.mem_of_getElem? (i := 1858) (by decide +kernel), List.mem_of_getElem? (i := 1859) (by decide +kernel)⟩
theorem lw_p87 : lw_okq (⟨"SaidOnceModel", "knowers", "(I)I"⟩, 27) := ⟨⟨by decide +kernel, by decide +kernel⟩, List.mem_of_getElem? (i := 1503) (by decide +kernel), List.mem_of_getElem? (i := 1862) (by decide +kernel), List.mem_of_getElem? (i := 1863) (by decide +kernel)⟩
theorem lw_p88 : lw_okq (⟨"SaidOnceModel", "sourcesOf", "(I)I"⟩, 27) := ⟨⟨by decide +kernel, by decide +kernel⟩, List.mem_of_getElem? (i := 1503) (by decide +kernel), List.mem_of_getElem? (i := 1866) (by decide +kernel), List.mem_of_getElem? (i := 1867) (by decide +kernel)⟩
theorem lw_p89 : lw_okq (⟨"SaidOnceModel", "closes", "(I)I"⟩, 27) := ⟨⟨by decide +kernel, by decide +kernel⟩, List.mem_of_getElem? (i := 1503) (by decide +kernel), List.mem_of_getElem? (i := 1871) (by decide +kernel), List.mem_of_getElem? (i := 1872) (by decide +kernel)⟩
theorem lw_p90 : lw_okq (⟨"SaidOnceModel", "ofRule", "(II)I"⟩, 27) := ⟨⟨by decide +kernel, by decide +kernel⟩, List.mem_of_getElem? (i := 1503) (by decide +kernel), List.mem_of_getElem? (i := 1875) (by decide +kernel), List.mem_of_getElem? (i := 1876) (by decide +kernel)⟩
theorem lw_p91 : lw_okq (⟨"SaidOnceModel", "lostBy", "(I)I"⟩, 27) := ⟨⟨by decide +kernel, by decide +kernel⟩, List.mem_of_getElem? (i := 1503) (by decide +kernel), List.mem_of_getElem? (i := 1883) (by decide +kernel), List.mem_of_getElem? (i := 1884) (by decide +kernel)⟩
theorem lw_p92 : lw_okq (⟨"SaidOnceModel", "canSay", "(III)Z"⟩, 27) := ⟨⟨by decide +kernel, by decide +kernel⟩, List.mem_of_getElem? (i := 1503) (by decide +kernel), List.mem_of_getElem? (i := 1903) (by decide +kernel), List.mem_of_getElem? (i := 1904) (by decide +kernel)⟩
theorem lw_p93 : lw_okq (⟨"SaidOnceModel", "remembers", "()V"⟩, 27) := ⟨⟨by decide +kernel, by decide +kernel⟩, List.mem_of_getElem? (i := 1503) (by decide +kernel), List.mem_of_getElem? (i := 1907) (by decide +kernel), List.mem_of_getElem? (i := 1908) (by decide +kernel)⟩
theorem lw_p94 : lw_okq (⟨"SaidOnceModel", "says", "(II)I"⟩, 27) := ⟨⟨by decide +kernel, by decide +kernel⟩, List.mem_of_getElem? (i := 1503) (by decide +kernel), List.mem_of_getElem? (i := 1911) (by decide +kernel), List.mem_of_getElem? (i := 1912) (by decide +kernel)⟩
theorem lw_p95 : lw_okq (⟨"SaidOnceModel", "draw", "(I)I"⟩, 27) := ⟨⟨by decide +kernel, by decide +kernel⟩, List.mem_of_getElem? (i := 1503) (by decide +kernel), List.mem_of_getElem? (i := 1915) (by decide +kernel), List.mem_of_getElem? (i := 1916) (by decide +kernel)⟩
def lw_privs_6 : List (MethodName × Nat) := [(⟨"SaidOnceModel", "factOf", "(IIIII)I"⟩, 27), (⟨"SaidOnceModel", "apartOf", "(II)I"⟩, 27), (⟨"SaidOnceModel", "knows", "(II)Z"⟩, 27), (⟨"SaidOnceModel", "takenAs", "(III)I"⟩, 27), (⟨"SaidOnceModel", "hearers", "(IIZ)I"⟩, 27), (⟨"SaidOnceModel", "leftOf", "(I)I"⟩, 27), (⟨"SaidOnceModel", "isSaid", "(II)Z"⟩, 27), (⟨"SaidOnceModel", "knowers", "(I)I"⟩, 27), (⟨"SaidOnceModel", "sourcesOf", "(I)I"⟩, 27), (⟨"SaidOnceModel", "closes", "(I)I"⟩, 27), (⟨"SaidOnceModel", "ofRule", "(II)I"⟩, 27), (⟨"SaidOnceModel", "lostBy", "(I)I"⟩, 27), (⟨"SaidOnceModel", "canSay", "(III)Z"⟩, 27), (⟨"SaidOnceModel", "remembers", "()V"⟩, 27), (⟨"SaidOnceModel", "says", "(II)I"⟩, 27), (⟨"SaidOnceModel", "draw", "(I)I"⟩, 27)]
theorem lw_r6 : ∀ q ∈ lw_privs_6, lw_okq q := List.forall_mem_cons.mpr ⟨lw_p80, List.forall_mem_cons.mpr ⟨lw_p81, List.forall_mem_cons.mpr ⟨lw_p82, List.forall_mem_cons.mpr ⟨lw_p83, List.forall_mem_cons.mpr ⟨lw_p84, List.forall_mem_cons.mpr ⟨lw_p85, List.forall_mem_cons.mpr ⟨lw_p86, List.forall_mem_cons.mpr ⟨lw_p87, List.forall_mem_cons.mpr ⟨lw_p88, List.forall_mem_cons.mpr ⟨lw_p89, List.forall_mem_cons.mpr ⟨lw_p90, List.forall_mem_cons.mpr ⟨lw_p91, List.forall_mem_cons.mpr ⟨lw_p92, List.forall_mem_cons.mpr ⟨lw_p93, List.forall_mem_cons.mpr ⟨lw_p94, List.forall_mem_cons.mpr ⟨lw_p95, fun _ h => absurd h List.not_mem_nil⟩⟩⟩⟩⟩⟩⟩⟩⟩⟩⟩⟩⟩⟩⟩⟩
theorem lw_p96 : lw_okq (⟨"SaidOnceModel", "tells", "(IIZ)V"⟩, 27) := ⟨⟨by decide +kernel, by decide +kernel⟩, List.mem_of_getElem? (i := 1503) (by decide +kernel), List.mem_of_getElem? (i := 1920) (by decide +kernel), List.mem_of_getElem? (i := 1921) (by decide +kernel)⟩
theorem lw_p97 : lw_okq (⟨"SaidOnceModel", "learns", "(II)V"⟩, 27) := ⟨⟨by decide +kernel, by decide +kernel⟩, List.mem_of_getElem? (i := 1503) (by decide +kernel), List.mem_of_getElem? (i := 1925) (by decide +kernel), List.mem_of_getElem? (i := 1926) (by decide +kernel)⟩
theorem lw_p98 : lw_okq (⟨"SaidOnceModel", "ofLog", "(II)I"⟩, 27) := ⟨⟨by decide +kernel, by decide +kernel⟩, List.mem_of_getElem? (i := 1503) (by decide +kernel), List.mem_of_getElem? (i := 1929) (by decide +kernel), List.mem_of_getElem? (i := 1930) (by decide +kernel)⟩
theorem lw_p99 : lw_okq (⟨"SaidOnceModel", "trades", "(II)V"⟩, 27) := ⟨⟨by decide +kernel, by decide +kernel⟩, List.mem_of_getElem? (i := 1503) (by decide +kernel), List.mem_of_getElem? (i := 1945) (by decide +kernel), List.mem_of_getElem? (i := 1946) (by decide +kernel)⟩
theorem lw_p100 : lw_okq (⟨"SaidOnceModel", "here", "()I"⟩, 27) := ⟨⟨by decide +kernel, by decide +kernel⟩, List.mem_of_getElem? (i := 1503) (by decide +kernel), List.mem_of_getElem? (i := 1953) (by decide +kernel), List.mem_of_getElem? (i := 1954) (by decide +kernel)⟩
theorem lw_p101 : lw_okq (⟨"SaidOnceModel", "sayings", "(I)I"⟩, 27) := ⟨⟨by decide +kernel, by decide +kernel⟩, List.mem_of_getElem? (i := 1503) (by decide +kernel), List.mem_of_getElem? (i := 1961) (by decide +kernel), List.mem_of_getElem? (i := 1962) (by decide +kernel)⟩
theorem lw_p102 : lw_okq (⟨"SaidOnceModel", "firstLeft", "(I)I"⟩, 27) := ⟨⟨by decide +kernel, by decide +kernel⟩, List.mem_of_getElem? (i := 1503) (by decide +kernel), List.mem_of_getElem? (i := 1965) (by decide +kernel), List.mem_of_getElem? (i := 1966) (by decide +kernel)⟩
theorem lw_p103 : lw_okq (⟨"SaidOnceModel", "knownHere", "()I"⟩, 27) := ⟨⟨by decide +kernel, by decide +kernel⟩, List.mem_of_getElem? (i := 1503) (by decide +kernel), List.mem_of_getElem? (i := 1973) (by decide +kernel), List.mem_of_getElem? (i := 1974) (by decide +kernel)⟩
theorem lw_p104 : lw_okq (⟨"SaidOnceModel", "silentThings", "()I"⟩, 27) := ⟨⟨by decide +kernel, by decide +kernel⟩, List.mem_of_getElem? (i := 1503) (by decide +kernel), List.mem_of_getElem? (i := 1977) (by decide +kernel), List.mem_of_getElem? (i := 1978) (by decide +kernel)⟩
theorem lw_p105 : lw_okq (⟨"SaidOnceModel", "plans", "(I)I"⟩, 27) := ⟨⟨by decide +kernel, by decide +kernel⟩, List.mem_of_getElem? (i := 1503) (by decide +kernel), List.mem_of_getElem? (i := 1993) (by decide +kernel), List.mem_of_getElem? (i := 1994) (by decide +kernel)⟩
theorem lw_p106 : lw_okq (⟨"SaidOnceModel", "laysRight", "(I)V"⟩, 27) := ⟨⟨by decide +kernel, by decide +kernel⟩, List.mem_of_getElem? (i := 1503) (by decide +kernel), List.mem_of_getElem? (i := 1997) (by decide +kernel), List.mem_of_getElem? (i := 1998) (by decide +kernel)⟩
theorem lw_p107 : lw_okq (⟨"SaidOnceModel", "saidOf", "(I)I"⟩, 27) := ⟨⟨by decide +kernel, by decide +kernel⟩, List.mem_of_getElem? (i := 1503) (by decide +kernel), List.mem_of_getElem? (i := 2004) (by decide +kernel), List.mem_of_getElem? (i := 2005) (by decide +kernel)⟩
theorem lw_p108 : lw_okq (⟨"SaidOnceModel", "leastStep", "(II)I"⟩, 27) := ⟨⟨by decide +kernel, by decide +kernel⟩, List.mem_of_getElem? (i := 1503) (by decide +kernel), List.mem_of_getElem? (i := 2011) (by decide +kernel), List.mem_of_getElem? (i := 2012) (by decide +kernel)⟩
theorem lw_p109 : lw_okq (⟨"SaidOnceModel", "canStep", "(IIII)Z"⟩, 27) := ⟨⟨by decide +kernel, by decide +kernel⟩, List.mem_of_getElem? (i := 1503) (by decide +kernel), List.mem_of_getElem? (i := 2015) (by decide +kernel), List.mem_of_getElem? (i := 2016) (by decide +kernel)⟩
theorem lw_p110 : lw_okq (⟨"SaidOnceModel", "byStep", "(IIII)I"⟩, 27) := ⟨⟨by decide +kernel, by decide +kernel⟩, List.mem_of_getElem? (i := 1503) (by decide +kernel), List.mem_of_getElem? (i := 2019) (by decide +kernel), List.mem_of_getElem? (i := 2020) (by decide +kernel)⟩
theorem lw_p111 : lw_okq (⟨"SaidOnceModel", "firstStep", "(I)I"⟩, 27) := ⟨⟨by decide +kernel, by decide +kernel⟩, List.mem_of_getElem? (i := 1503) (by decide +kernel), List.mem_of_getElem? (i := 2023) (by decide +kernel), List.mem_of_getElem? (i := 2024) (by decide +kernel)⟩
def lw_privs_7 : List (MethodName × Nat) := [(⟨"SaidOnceModel", "tells", "(IIZ)V"⟩, 27), (⟨"SaidOnceModel", "learns", "(II)V"⟩, 27), (⟨"SaidOnceModel", "ofLog", "(II)I"⟩, 27), (⟨"SaidOnceModel", "trades", "(II)V"⟩, 27), (⟨"SaidOnceModel", "here", "()I"⟩, 27), (⟨"SaidOnceModel", "sayings", "(I)I"⟩, 27), (⟨"SaidOnceModel", "firstLeft", "(I)I"⟩, 27), (⟨"SaidOnceModel", "knownHere", "()I"⟩, 27), (⟨"SaidOnceModel", "silentThings", "()I"⟩, 27), (⟨"SaidOnceModel", "plans", "(I)I"⟩, 27), (⟨"SaidOnceModel", "laysRight", "(I)V"⟩, 27), (⟨"SaidOnceModel", "saidOf", "(I)I"⟩, 27), (⟨"SaidOnceModel", "leastStep", "(II)I"⟩, 27), (⟨"SaidOnceModel", "canStep", "(IIII)Z"⟩, 27), (⟨"SaidOnceModel", "byStep", "(IIII)I"⟩, 27), (⟨"SaidOnceModel", "firstStep", "(I)I"⟩, 27)]
theorem lw_r7 : ∀ q ∈ lw_privs_7, lw_okq q := List.forall_mem_cons.mpr ⟨lw_p96, List.forall_mem_cons.mpr ⟨lw_p97, List.forall_mem_cons.mpr ⟨lw_p98, List.forall_mem_cons.mpr ⟨lw_p99, List.forall_mem_cons.mpr ⟨lw_p100, List.forall_mem_cons.mpr ⟨lw_p101, List.forall_mem_cons.mpr ⟨lw_p102, List.forall_mem_cons.mpr ⟨lw_p103, List.forall_mem_cons.mpr ⟨lw_p104, List.forall_mem_cons.mpr ⟨lw_p105, List.forall_mem_cons.mpr ⟨lw_p106, List.forall_mem_cons.mpr ⟨lw_p107, List.forall_mem_cons.mpr ⟨lw_p108, List.forall_mem_cons.mpr ⟨lw_p109, List.forall_mem_cons.mpr ⟨lw_p110, List.forall_mem_cons.mpr ⟨lw_p111, fun _ h => absurd h List.not_mem_nil⟩⟩⟩⟩⟩⟩⟩⟩⟩⟩⟩⟩⟩⟩⟩⟩
theorem lw_p112 : lw_okq (⟨"SaidOnceModel", "laysTeaches", "(I)V"⟩, 27) := ⟨⟨by decide +kernel, by decide +kernel⟩, List.mem_of_getElem? (i := 1503) (by decide +kernel), List.mem_of_getElem? (i := 2031) (by decide +kernel), List.mem_of_getElem? (i := 2032) (by decide +kernel)⟩
theorem lw_p113 : lw_okq (⟨"SaidOnceModel", "spreads", "(II)I"⟩, 27) := ⟨⟨by decide +kernel, by decide +kernel⟩, List.mem_of_getElem? (i := 1503) (by decide +kernel), List.mem_of_getElem? (i := 2035) (by decide +kernel), List.mem_of_getElem? (i := 2036) (by decide +kernel)⟩
theorem lw_p114 : lw_okq (⟨"SaidOnceModel", "comesSo", "(II)Z"⟩, 27) := ⟨⟨by decide +kernel, by decide +kernel⟩, List.mem_of_getElem? (i := 1503) (by decide +kernel), List.mem_of_getElem? (i := 2047) (by decide +kernel), List.mem_of_getElem? (i := 2048) (by decide +kernel)⟩
theorem lw_p115 : lw_okq (⟨"SaidOnceModel", "nothingSaid", "(I)Z"⟩, 27) := ⟨⟨by decide +kernel, by decide +kernel⟩, List.mem_of_getElem? (i := 1503) (by decide +kernel), List.mem_of_getElem? (i := 2055) (by decide +kernel), List.mem_of_getElem? (i := 2056) (by decide +kernel)⟩
theorem lw_p116 : lw_okq (⟨"SaidOnceModel", "keepsAll", "()V"⟩, 27) := ⟨⟨by decide +kernel, by decide +kernel⟩, List.mem_of_getElem? (i := 1503) (by decide +kernel), List.mem_of_getElem? (i := 2063) (by decide +kernel), List.mem_of_getElem? (i := 2064) (by decide +kernel)⟩
theorem lw_p117 : lw_okq (⟨"SaidOnceModel", "goesThrough", "()Z"⟩, 27) := ⟨⟨by decide +kernel, by decide +kernel⟩, List.mem_of_getElem? (i := 1503) (by decide +kernel), List.mem_of_getElem? (i := 2067) (by decide +kernel), List.mem_of_getElem? (i := 2068) (by decide +kernel)⟩
theorem lw_p118 : lw_okq (⟨"SaidOnceModel", "saysAll", "(II)Z"⟩, 27) := ⟨⟨by decide +kernel, by decide +kernel⟩, List.mem_of_getElem? (i := 1503) (by decide +kernel), List.mem_of_getElem? (i := 2071) (by decide +kernel), List.mem_of_getElem? (i := 2072) (by decide +kernel)⟩
theorem lw_p119 : lw_okq (⟨"SaidOnceModel", "bringsBack", "()V"⟩, 27) := ⟨⟨by decide +kernel, by decide +kernel⟩, List.mem_of_getElem? (i := 1503) (by decide +kernel), List.mem_of_getElem? (i := 2075) (by decide +kernel), List.mem_of_getElem? (i := 2076) (by decide +kernel)⟩
theorem lw_p120 : lw_okq (⟨"SaidOnceModel", "alikeOf", "(II)I"⟩, 27) := ⟨⟨by decide +kernel, by decide +kernel⟩, List.mem_of_getElem? (i := 1503) (by decide +kernel), List.mem_of_getElem? (i := 2083) (by decide +kernel), List.mem_of_getElem? (i := 2084) (by decide +kernel)⟩
theorem lw_p121 : lw_okq (⟨"SaidOnceModel", "groupOf", "(I)I"⟩, 27) := ⟨⟨by decide +kernel, by decide +kernel⟩, List.mem_of_getElem? (i := 1503) (by decide +kernel), List.mem_of_getElem? (i := 2096) (by decide +kernel), List.mem_of_getElem? (i := 2097) (by decide +kernel)⟩
theorem lw_p122 : lw_okq (⟨"SaidOnceModel", "marginOf", "(II)I"⟩, 27) := ⟨⟨by decide +kernel, by decide +kernel⟩, List.mem_of_getElem? (i := 1503) (by decide +kernel), List.mem_of_getElem? (i := 2104) (by decide +kernel), List.mem_of_getElem? (i := 2105) (by decide +kernel)⟩
theorem lw_p123 : lw_okq (⟨"SaidOnceModel", "leftIn", "(I)I"⟩, 27) := ⟨⟨by decide +kernel, by decide +kernel⟩, List.mem_of_getElem? (i := 1503) (by decide +kernel), List.mem_of_getElem? (i := 2108) (by decide +kernel), List.mem_of_getElem? (i := 2109) (by decide +kernel)⟩
theorem lw_p124 : lw_okq (⟨"SaidOnceModel", "mostBy", "(II)I"⟩, 27) := ⟨⟨by decide +kernel, by decide +kernel⟩, List.mem_of_getElem? (i := 1503) (by decide +kernel), List.mem_of_getElem? (i := 2120) (by decide +kernel), List.mem_of_getElem? (i := 2121) (by decide +kernel)⟩
theorem lw_p125 : lw_okq (⟨"SaidOnceModel", "rowOf", "(III)I"⟩, 27) := ⟨⟨by decide +kernel, by decide +kernel⟩, List.mem_of_getElem? (i := 1503) (by decide +kernel), List.mem_of_getElem? (i := 2136) (by decide +kernel), List.mem_of_getElem? (i := 2137) (by decide +kernel)⟩
theorem lw_p126 : lw_okq (⟨"SaidOnceModel", "taught", "(I)I"⟩, 27) := ⟨⟨by decide +kernel, by decide +kernel⟩, List.mem_of_getElem? (i := 1503) (by decide +kernel), List.mem_of_getElem? (i := 2144) (by decide +kernel), List.mem_of_getElem? (i := 2145) (by decide +kernel)⟩
theorem lw_p127 : lw_okq (⟨"SaidOnceModel", "isHeardAt", "(IIIII)Z"⟩, 27) := ⟨⟨by decide +kernel, by decide +kernel⟩, List.mem_of_getElem? (i := 1503) (by decide +kernel), List.mem_of_getElem? (i := 2156) (by decide +kernel), List.mem_of_getElem? (i := 2157) (by decide +kernel)⟩
def lw_privs_8 : List (MethodName × Nat) := [(⟨"SaidOnceModel", "laysTeaches", "(I)V"⟩, 27), (⟨"SaidOnceModel", "spreads", "(II)I"⟩, 27), (⟨"SaidOnceModel", "comesSo", "(II)Z"⟩, 27), (⟨"SaidOnceModel", "nothingSaid", "(I)Z"⟩, 27), (⟨"SaidOnceModel", "keepsAll", "()V"⟩, 27), (⟨"SaidOnceModel", "goesThrough", "()Z"⟩, 27), (⟨"SaidOnceModel", "saysAll", "(II)Z"⟩, 27), (⟨"SaidOnceModel", "bringsBack", "()V"⟩, 27), (⟨"SaidOnceModel", "alikeOf", "(II)I"⟩, 27), (⟨"SaidOnceModel", "groupOf", "(I)I"⟩, 27), (⟨"SaidOnceModel", "marginOf", "(II)I"⟩, 27), (⟨"SaidOnceModel", "leftIn", "(I)I"⟩, 27), (⟨"SaidOnceModel", "mostBy", "(II)I"⟩, 27), (⟨"SaidOnceModel", "rowOf", "(III)I"⟩, 27), (⟨"SaidOnceModel", "taught", "(I)I"⟩, 27), (⟨"SaidOnceModel", "isHeardAt", "(IIIII)Z"⟩, 27)]
theorem lw_r8 : ∀ q ∈ lw_privs_8, lw_okq q := List.forall_mem_cons.mpr ⟨lw_p112, List.forall_mem_cons.mpr ⟨lw_p113, List.forall_mem_cons.mpr ⟨lw_p114, List.forall_mem_cons.mpr ⟨lw_p115, List.forall_mem_cons.mpr ⟨lw_p116, List.forall_mem_cons.mpr ⟨lw_p117, List.forall_mem_cons.mpr ⟨lw_p118, List.forall_mem_cons.mpr ⟨lw_p119, List.forall_mem_cons.mpr ⟨lw_p120, List.forall_mem_cons.mpr ⟨lw_p121, List.forall_mem_cons.mpr ⟨lw_p122, List.forall_mem_cons.mpr ⟨lw_p123, List.forall_mem_cons.mpr ⟨lw_p124, List.forall_mem_cons.mpr ⟨lw_p125, List.forall_mem_cons.mpr ⟨lw_p126, List.forall_mem_cons.mpr ⟨lw_p127, fun _ h => absurd h List.not_mem_nil⟩⟩⟩⟩⟩⟩⟩⟩⟩⟩⟩⟩⟩⟩⟩⟩
theorem lw_p128 : lw_okq (⟨"SaidOnceModel", "reached", "(II)I"⟩, 27) := ⟨⟨by decide +kernel, by decide +kernel⟩, List.mem_of_getElem? (i := 1503) (by decide +kernel), List.mem_of_getElem? (i := 2164) (by decide +kernel), List.mem_of_getElem? (i := 2165) (by decide +kernel)⟩
theorem lw_p129 : lw_okq (⟨"SaidOnceModel", "takenBy", "(III)I"⟩, 27) := ⟨⟨by decide +kernel, by decide +kernel⟩, List.mem_of_getElem? (i := 1503) (by decide +kernel), List.mem_of_getElem? (i := 2176) (by decide +kernel), List.mem_of_getElem? (i := 2177) (by decide +kernel)⟩
def lw_privs_9 : List (MethodName × Nat) := [(⟨"SaidOnceModel", "reached", "(II)I"⟩, 27), (⟨"SaidOnceModel", "takenBy", "(III)I"⟩, 27)]
theorem lw_r9 : ∀ q ∈ lw_privs_9, lw_okq q := List.forall_mem_cons.mpr ⟨lw_p128, List.forall_mem_cons.mpr ⟨lw_p129, fun _ h => absurd h List.not_mem_nil⟩⟩
def lw_privs : List (MethodName × Nat) := lw_privs_1 ++ (lw_privs_2 ++ (lw_privs_3 ++ (lw_privs_4 ++ (lw_privs_5 ++ (lw_privs_6 ++ (lw_privs_7 ++ (lw_privs_8 ++ (lw_privs_9))))))))
def lw_tbl : List Cond := k2_sels lw_privs ++ tables_1
theorem lw_privs_ok : ∀ q ∈ lw_privs, lw_okq q := by
  show ∀ q ∈ lw_privs_1 ++ (lw_privs_2 ++ (lw_privs_3 ++ (lw_privs_4 ++ (lw_privs_5 ++ (lw_privs_6 ++ (lw_privs_7 ++ (lw_privs_8 ++ (lw_privs_9)))))))), lw_okq q
  exact List.forall_mem_append.mpr ⟨lw_r1, List.forall_mem_append.mpr ⟨lw_r2, List.forall_mem_append.mpr ⟨lw_r3, List.forall_mem_append.mpr ⟨lw_r4, List.forall_mem_append.mpr ⟨lw_r5, List.forall_mem_append.mpr ⟨lw_r6, List.forall_mem_append.mpr ⟨lw_r7, List.forall_mem_append.mpr ⟨lw_r8, lw_r9⟩⟩⟩⟩⟩⟩⟩⟩
end
section
/-! ===== BEGIN words of one list among another's, by their places ===== -/
theorem goodIn_r {big : List Cond} (ws : List Cond) (ps : List Nat) (hp : ws = ps.filterMap (fun i => big[i]?)) (h : ws.all goodWord = true) : GoodIn big ws := by
  intro w hw
  have h1 := List.all_eq_true.mp h w hw
  rw [hp] at hw
  obtain ⟨i, -, hi⟩ := List.mem_filterMap.mp hw
  have hm : w ∈ big := by first | exact List.mem_of_getElem? hi | exact List.getElem?_mem hi
  exact ⟨hm, good_of_word h1⟩
theorem goodIn_app {big a b : List Cond} (ha : GoodIn big a) (hb : GoodIn big b) : GoodIn big (a ++ b) := fun w h => (List.mem_append.mp h).elim (ha w) (hb w)
theorem goodIn_ca {big a b : List Cond} {c : Cond} (ha : GoodIn big (c :: a)) (hb : GoodIn big b) : GoodIn big (c :: (a ++ b)) := fun w h => (List.mem_cons.mp h).elim (fun e => ha w (List.mem_cons.mpr (Or.inl e))) (fun h => (List.mem_append.mp h).elim (fun h => ha w (List.mem_cons.mpr (Or.inr h))) (hb w))
theorem goodIn_sub {big ws : List Cond} (hm : ∀ w ∈ ws, w ∈ big) (h : ws.all goodWord = true) : GoodIn big ws := fun w hw => ⟨hm w hw, good_of_word (List.all_eq_true.mp h w hw)⟩
/-! ===== END ===== -/
/-! ===== BEGIN exceptions that leave a method, and their catching by the caller (launches without stack traces) ===== -/
section VXA
/-! The laws vx_back, vx_callV, vx_callS, vx_callSW, vx_throw0, vx_throwS follow proofs of the library, with one case more: JvmDerived/Free/Laws.lean (Back.of_free), Shelf42/LK1.lean (callV, callS), Shelf/KitTraced.lean (throwNew0V, throwNewS). -/
/-- where a method has thrown q: the class by its name, the cell, what was written, the world -/
def vx_T (XC : String → State → State → Prop) (st : State) (q : Addr) (t : State) (mc ms : Nat) (free : Addr → Prop) : Prop :=
  ∃ (E : String) (ce : Cell) (L : List Loc), XC E st t ∧ t.heap[q]? = some ce ∧ ce.vm = .none ∧ st.vm.findClass E = some ce.cls ∧ st.WarmedH t.vm ∧ st.sameButNew ({ t with vm := st.vm } : State) L mc ms ∧ ∀ z ∈ L, free z.base
def vx_Q (Qc : Array Value → State → Outcome → State → Prop) (XC : String → State → State → Prop) (mc ms : Nat) (free : Addr → Prop) : Array Value → State → Outcome → State → Prop := fun a st o t =>
  (Qc a st o t ∧ ∃ L, FrameEnd st o t L mc ms ∧ ∀ q ∈ L, free q.base) ∨ ∃ q, o = .threw q ∧ vx_T XC st q t mc ms free
/-- a callee that returns or throws -/
def vx_Met (l : Launch) (y : MethodName) (ws : List Cond) (rm : Room) (Pc : Array Value → State → Prop) (Qc : Array Value → State → Outcome → State → Prop) (XC : String → State → State → Prop) (mc ms : Nat) (free : Addr → Prop) : Prop :=
  MetFree l y (headSpec ws rm) Pc (fun _ _ _ _ _ => True) (vx_Q Qc XC mc ms free)
def vx_Post (XC : String → State → State → Prop) (mc ms : Nat) (free : Addr → Prop) : Pt → Array Value → Addr → Pt → Prop := fun A a q B =>
  ∃ (g : JFrame) (mk : MethodId) (t : State) (L : List Loc) (E : String) (ce : Cell), B.U.heap = t.heap ∧ B.U.vm = t.vm ∧ XC E (A.U.calling g mk a) t ∧ t.heap[q]? = some ce ∧ ce.vm = .none ∧ A.U.vm.findClass E = some ce.cls ∧ B.locs = A.locs ++ L ∧ (∀ z ∈ L, free z.base) ∧ B.cells = A.cells + mc ∧ B.slots = A.slots + ms
def vx_Back (l : Launch) (R : Room) (p : Program) (e : Env) (below : List Frame) (s : State) (sargs : Array Value) (y : MethodName) (len W9 : Nat)
    (Pre : Pt → Array Value → Prop) (Post : Pt → Array Value → Option Value → Pt → Prop) (PostX : Pt → Array Value → Addr → Pt → Prop) : Prop :=
  ∀ (m : MethodId) (meth : Method) (c : Code) (A : Pt) (g : JFrame) (ig : Instr) (mk : MethodId) (a : Array Value),
    Stand p l e R s m sargs below meth c A.U A.locs A.cells A.slots → g.method = m → g.locals.size = c.maxLocals → decode c.code g.pc = .ok (ig, len) →
    2 * g.monitorRoom + (g.stack.map fun v => v.category).sum ≤ W9 → A.U.methodNamed? y = some mk → Pre A a →
    (∃ (v : Option Value) (B : Pt), Stand p l e R s m sargs below meth c B.U B.locs B.cells B.slots ∧ Post A a v B ∧
      Steps p.tables e below (doInvoke e (A.U.setTop g) [] mk a).1 (B.U.setTop { g with pc := g.pc + len, stack := v.toList ++ g.stack })) ∨
    (∃ (q : Addr) (B : Pt), Stand p l e R s m sargs below meth c B.U B.locs B.cells B.slots ∧ PostX A a q B ∧
      Steps p.tables e below (doInvoke e (A.U.setTop g) [] mk a).1 ((B.U.setTop g).pushFrame (.throwing q)))
section Payer
variable {l : Launch} {R : Room} {p : Program} {e : Env} {below : List Frame} {s : State} {sargs : Array Value} {y : MethodName} {len W9 : Nat}
theorem vx_back {ws : List Cond} {rm : Room} {Pc : Array Value → State → Prop} {Qc : Array Value → State → Outcome → State → Prop} {XC : String → State → State → Prop} {mc ms : Nat} {free : Addr → Prop} {bytes : ByteArray} {maxL : Nat} {ret : Option FieldType}
    (hM : vx_Met l y ws rm Pc Qc XC mc ms free) (hblind : FrameBlind Pc) (hrc : rm.cells = mc) (hrs : rm.slots = ms)
    (hframes : rm.frames + 1 ≤ R.frames) (hlocals : W9 + (maxL + 11) + rm.locals ≤ R.locals)
    (hws : ∀ w ∈ ws, ∀ a' U, s.WarmedH U.vm → w.before a' U = true) (hcode : Cond.code y bytes maxL ret ∈ ws) (hinit : ∀ a' U, s.WarmedH U.vm → (Cond.initialized y.cls).before a' U = true) :
    vx_Back l R p e below s sargs y len W9 (PreOf R mc ms Pc) (PostOf Qc mc ms free) (vx_Post XC mc ms free) := by
  intro m meth c A g ig mk a X hg hsize hdg hW hn hp
  have h1 : (headSpec ws rm).pre.before a A.U = true := atoms_intro fun w hw => hws w hw _ _ X.warmed
  have h2 : (Cond.code y bytes maxL ret).before a A.U = true := hws _ hcode _ _ X.warmed
  have h3 : (Cond.initialized y.cls).before a A.U = true := hinit _ _ X.warmed
  have h4 : A.cells + (headSpec ws rm).room.cells ≤ R.cells := by rw [show (headSpec ws rm).room.cells = mc from hrc]; exact hp.1
  have h5 : A.slots + (headSpec ws rm).room.slots ≤ R.slots := by rw [show (headSpec ws rm).room.slots = ms from hrs]; exact hp.2.1
  have hPc : Pc a (A.U.calling g mk a) := hblind _ _ _ _ hp.2.2
  obtain ⟨U, Ls, c0, s0⟩ := A
  dsimp only [Pt.U, Pt.locs, Pt.cells, Pt.slots] at h1 h2 h3 h4 h5 X hn hPc ⊢
  obtain ⟨methY, cY, hmY, hcY, -, hlY, -, -, -, -⟩ := Cond.code_spec hn h2
  obtain ⟨kY, hkY, -⟩ := className_of_methodNamed hn
  have hinitY : kY.init = .initialized := Cond.initialized_spec (findClass_of_methodNamed hn) hkY h3
  have h : At U g.method c below := by rw [hg]; exact X.here
  have hlocals9 : W9 + (maxL + 11) + (headSpec ws rm).room.locals ≤ R.locals := hlocals
  have happ : (headSpec ws rm).appliesLoose y e.platform (U.calling g mk a) = true :=
    Spec.appliesLoose_calling (g := g) h hdg hn hkY hinitY
      (X.room_calling (g := g) (R' := (headSpec ws rm).room) hsize hmY hcY hframes (by rw [hlY]; omega) h4 h5) h1
  obtain ⟨mid, hmid⟩ := h.above
  have hfr : (U.setTop g).frames = (.java g :: mid) ++ below := by rw [State.frames_setTop' g h.top, hmid]; rfl
  obtain ⟨o, s₂, hsteps, -, hend, hq⟩ := Steps.callFree hM p X.admits X.cas X.clock (acts := []) hfr happ hPc trivial
  have hq' : vx_Q Qc XC mc ms free a (U.calling g mk a) o s₂ := hq
  rw [State.frames_setTop' g h.top] at hend
  obtain ⟨g₀, hg0⟩ := Option.isSome_iff_exists.mp h.top
  obtain ⟨r, hr⟩ := State.topJava?_eq_some.mp hg0
  have hr' : (({ U with heap := s₂.heap, slotsUsed := s₂.slotsUsed } : State).setVm s₂.vm).frames = .java g₀ :: r := hr
  rcases hq' with ⟨hqc, L, hfe, hL⟩ | ⟨q, rfl, E, ce, L, hx, hce, hcv, hcl, hW₂, hsm, hL⟩
  · obtain ⟨⟨v, rfl⟩, hW₂, e2, q2, q3, q4, q5, q6⟩ := id hfe
    have e3 : s₂ = ({ (U.calling g mk a).setFrames s₂.frames with heap := s₂.heap, slotsUsed := s₂.slotsUsed } : State).setVm s₂.vm := by
      have : s₂ = ({ s₂ with vm := (U.calling g mk a).vm } : State).setVm s₂.vm := rfl
      rw [e2] at this
      exact this
    obtain ⟨c₂, i₂, len₂, hc₂, hd₂, hf₂⟩ := hend
    have hW' : U.WarmedH s₂.vm := hW₂
    have hcc : c₂ = c := by
      have h1 : s₂.code? g.method = U.code? g.method := by
        rw [State.code?_eq, State.code?_eq, hW'.alike.method?]
      exact Option.some.inj (hc₂.symm.trans (h1.trans h.code))
    subst hcc
    have hlen : len₂ = len := by rw [hdg] at hd₂; cases hd₂; rfl
    subst hlen
    have hs₂ : s₂ = (({ U with heap := s₂.heap, slotsUsed := s₂.slotsUsed } : State).setVm s₂.vm).setTop { g with pc := g.pc + len₂, stack := v.toList ++ g.stack } := by
      refine e3.trans ?_
      rw [hf₂, State.calling_eq h.top, State.setFrames_setFrames, State.setTop_of_frames _ hr', hr]
      rfl
    have hsame : U.sameButNew ({ U with heap := s₂.heap, slotsUsed := s₂.slotsUsed } : State) L mc ms := by
      refine ⟨?_, q2, q3, q4, q5, q6⟩
      obtain ⟨t, ht, -⟩ := State.frames_cons hr
      show ({ U with heap := s₂.heap, slotsUsed := s₂.slotsUsed } : State) = { U.setFrames U.frames with heap := s₂.heap, slotsUsed := s₂.slotsUsed }
      rw [State.setFrames_self ht]
    subst hg
    refine Or.inl ⟨v, ⟨(({ U with heap := s₂.heap, slotsUsed := s₂.slotsUsed } : State).setVm s₂.vm), Ls ++ L, c0 + mc, s0 + ms⟩,
      ⟨X.admits, X.cas, X.clock, X.frames, X.room, X.hears, X.method, X.code, (X.here.setHeapUsed s₂.heap s₂.slotsUsed).setVm hW'.alike, X.tail, State.WarmedH.trans X.warmed hW', X.limits, X.bytes, X.same.trans (hsame.setVm s.vm)⟩,
      ⟨g, mk, s₂, L, rfl, rfl, hqc, rfl, hL, rfl, rfl⟩, ?_⟩
    show Steps p.tables e below _ ((({ U with heap := s₂.heap, slotsUsed := s₂.slotsUsed } : State).setVm s₂.vm).setTop { g with pc := g.pc + len₂, stack := v.toList ++ g.stack })
    rw [← hs₂]
    exact hsteps
  · obtain ⟨e2, q2, q3, q4, q5, q6⟩ := id hsm
    have e3 : s₂ = ({ (U.calling g mk a).setFrames s₂.frames with heap := s₂.heap, slotsUsed := s₂.slotsUsed } : State).setVm s₂.vm := by
      have : s₂ = ({ s₂ with vm := (U.calling g mk a).vm } : State).setVm s₂.vm := rfl
      rw [e2] at this
      exact this
    have hf₂ : s₂.frames = .throwing q :: .java g :: U.frames.tail := hend
    have hW' : U.WarmedH s₂.vm := hW₂
    have hs₂ : s₂ = ((({ U with heap := s₂.heap, slotsUsed := s₂.slotsUsed } : State).setVm s₂.vm).setTop g).pushFrame (.throwing q) := by
      refine e3.trans ?_
      rw [hf₂, State.calling_eq h.top, State.setFrames_setFrames, State.pushFrame, State.frames_setTop _ hr', State.setTop_of_frames _ hr', State.setFrames_setFrames, hr]
      rfl
    have hsame : U.sameButNew ({ U with heap := s₂.heap, slotsUsed := s₂.slotsUsed } : State) L mc ms := by
      refine ⟨?_, q2, q3, q4, q5, q6⟩
      obtain ⟨t, ht, -⟩ := State.frames_cons hr
      show ({ U with heap := s₂.heap, slotsUsed := s₂.slotsUsed } : State) = { U.setFrames U.frames with heap := s₂.heap, slotsUsed := s₂.slotsUsed }
      rw [State.setFrames_self ht]
    subst hg
    refine Or.inr ⟨q, ⟨(({ U with heap := s₂.heap, slotsUsed := s₂.slotsUsed } : State).setVm s₂.vm), Ls ++ L, c0 + mc, s0 + ms⟩,
      ⟨X.admits, X.cas, X.clock, X.frames, X.room, X.hears, X.method, X.code, (X.here.setHeapUsed s₂.heap s₂.slotsUsed).setVm hW'.alike, X.tail, State.WarmedH.trans X.warmed hW', X.limits, X.bytes, X.same.trans (hsame.setVm s.vm)⟩,
      ⟨g, mk, s₂, L, E, ce, rfl, rfl, hx, hce, hcv, hcl, rfl, hL, rfl, rfl⟩, ?_⟩
    show Steps p.tables e below _ (((({ U with heap := s₂.heap, slotsUsed := s₂.slotsUsed } : State).setVm s₂.vm).setTop g).pushFrame (.throwing q))
    rw [← hs₂]
    exact hsteps
end Payer
section Calls
variable {p : Program} {l : Launch} {e : Env} {R : Room} {s : State} {m : MethodId} {args : Array Value} {below : List Frame} {meth : Method} {c : Code} {T : State} {locs : List Loc} {cells slots : Nat}
theorem vx_callV (X : Stand p l e R s m args below meth c T locs cells slots) (hexec : p.tables.exec = Jvm.exec) {own C : String} {index : Nat} {y : MethodName} {bytes : ByteArray} {maxL : Nat} {ret : Option FieldType}
    (hown : s.vm.findClass own = some m.cls) (hlink : (Cond.methodLink own index y).before args s = true) (hinst : (Cond.instanceMethod y).before args s = true) (hsel : (Cond.selects C y y).before args s = true)
    (hcode : (Cond.code y bytes maxL ret).before args s = true) (hy : y.cls ≠ "java/lang/invoke/MethodHandle" ∧ y.cls ≠ "java/lang/invoke/VarHandle")
    {W9 : Nat} {Pre : Pt → Array Value → Prop} {Post : Pt → Array Value → Option Value → Pt → Prop} {PostX : Pt → Array Value → Addr → Pt → Prop} (hK : vx_Back l R p e below s args y 3 W9 Pre Post PostX)
    {b : Addr} {cellB : Cell} (hcell : T.heap[b]? = some cellB) (hobj : cellB.vm.isStatics = false) (hcls : s.vm.findClass C = some cellB.cls)
    {g : JFrame} (hg : g.method = m) (hsize : g.locals.size = c.maxLocals) {argsL rest : List Value} (hlen : ∀ sig, parseMethodDescriptor y.desc = some sig → argsL.length = sig.parameters.length)
    (hstack : g.stack = argsL.reverse ++ .ref b :: rest) (hW : 2 * g.monitorRoom + (rest.map fun v => v.category).sum ≤ W9) (hdg : decode c.code g.pc = .ok (.invokevirtual index, 3))
    (hpre : ∀ vm₁, s.WarmedH vm₁ → Pre ⟨T.setVm vm₁, locs, cells, slots⟩ (Value.ref b :: argsL).toArray) :
    (∃ (v : Option Value) (vm₁ : Vm) (B : Pt), s.WarmedH vm₁ ∧ Stand p l e R s m args below meth c B.U B.locs B.cells B.slots ∧ Post ⟨T.setVm vm₁, locs, cells, slots⟩ (Value.ref b :: argsL).toArray v B ∧
      ∀ target, Steps p.tables e below (B.U.setTop { g with pc := g.pc + 3, stack := v.toList ++ rest }) target → Steps p.tables e below (T.setTop g) target) ∨
    (∃ (q : Addr) (vm₁ : Vm) (B : Pt), s.WarmedH vm₁ ∧ Stand p l e R s m args below meth c B.U B.locs B.cells B.slots ∧ PostX ⟨T.setVm vm₁, locs, cells, slots⟩ (Value.ref b :: argsL).toArray q B ∧
      Steps p.tables e below (T.setTop g) ((B.U.setTop { g with stack := rest }).pushFrame (.throwing q))) := by
  obtain ⟨mk, methM, hnamed, hmethM, hstM, habM⟩ := Cond.instanceMethod_spec hinst
  obtain ⟨methM', cM, hmethM', -, -, -, -, -, -, hsigM⟩ := Cond.code_spec hnamed hcode
  cases hmethM.symm.trans hmethM'
  obtain ⟨c2, r2, m2, q1, q2, q3, q4, kP, hkP, hkPi⟩ := Cond.selects_spec hsel
  cases hcls.symm.trans q1
  cases (State.methodFound?_of_named hnamed hy).symm.trans q2
  cases hnamed.symm.trans q3
  have hselP : selectMethod e.platform s.vm cellB.cls mk = .method mk := by rw [Launch.admits_selectMethod X.admits]; exact q4
  obtain ⟨vm₁, X₁, hstep₁⟩ := X.invokevirtual hexec hown hlink hnamed hmethM hstM hkP hkPi hy (a := b) (cell := cellB) hcell
    (fun z h => by rw [h] at hobj; cases hobj) hselP hmethM habM hkP hkPi (g := g) hg (argsL := argsL) (rest := rest) (hlen _ hsigM) hstack hdg
  rcases hK m meth c ⟨T.setVm vm₁, locs, cells, slots⟩ { g with stack := rest } (.invokevirtual index) mk (Value.ref b :: argsL).toArray X₁ hg hsize hdg hW (X₁.named hnamed) (hpre vm₁ X₁.warmed) with ⟨v, B, X', hpost, hsteps⟩ | ⟨q, B, X', hpost, hsteps⟩
  · exact Or.inl ⟨v, vm₁, B, X₁.warmed, X', hpost, fun target h => hstep₁ _ fun acts => by rw [doInvoke_state]; exact hsteps.trans h⟩
  · exact Or.inr ⟨q, vm₁, B, X₁.warmed, X', hpost, hstep₁ _ fun acts => by rw [doInvoke_state]; exact hsteps⟩
theorem vx_callS (X : Stand p l e R s m args below meth c T locs cells slots) (hexec : p.tables.exec = Jvm.exec) {own : String} {index : Nat} {y : MethodName} {bytes : ByteArray} {maxL : Nat} {ret : Option FieldType}
    (hown : s.vm.findClass own = some m.cls) (hlink : (Cond.methodLink own index y).before args s = true) (hstat : (Cond.static y).before args s = true) (hinit : (Cond.initialized y.cls).before args s = true)
    (hcode : (Cond.code y bytes maxL ret).before args s = true) (hy : y.cls ≠ "java/lang/invoke/MethodHandle" ∧ y.cls ≠ "java/lang/invoke/VarHandle")
    {W9 : Nat} {Pre : Pt → Array Value → Prop} {Post : Pt → Array Value → Option Value → Pt → Prop} {PostX : Pt → Array Value → Addr → Pt → Prop} (hK : vx_Back l R p e below s args y 3 W9 Pre Post PostX)
    {g : JFrame} (hg : g.method = m) (hsize : g.locals.size = c.maxLocals) {argsL rest : List Value} (hlen : ∀ sig, parseMethodDescriptor y.desc = some sig → argsL.length = sig.parameters.length)
    (hstack : g.stack = argsL.reverse ++ rest) (hW : 2 * g.monitorRoom + (rest.map fun v => v.category).sum ≤ W9) (hdg : decode c.code g.pc = .ok (.invokestatic index, 3))
    (hpre : ∀ vm₁, s.WarmedH vm₁ → Pre ⟨T.setVm vm₁, locs, cells, slots⟩ argsL.toArray) :
    (∃ (v : Option Value) (vm₁ : Vm) (B : Pt), s.WarmedH vm₁ ∧ Stand p l e R s m args below meth c B.U B.locs B.cells B.slots ∧ Post ⟨T.setVm vm₁, locs, cells, slots⟩ argsL.toArray v B ∧
      ∀ target, Steps p.tables e below (B.U.setTop { g with pc := g.pc + 3, stack := v.toList ++ rest }) target → Steps p.tables e below (T.setTop g) target) ∨
    (∃ (q : Addr) (vm₁ : Vm) (B : Pt), s.WarmedH vm₁ ∧ Stand p l e R s m args below meth c B.U B.locs B.cells B.slots ∧ PostX ⟨T.setVm vm₁, locs, cells, slots⟩ argsL.toArray q B ∧
      Steps p.tables e below (T.setTop g) ((B.U.setTop { g with stack := rest }).pushFrame (.throwing q))) := by
  obtain ⟨mk, hnamed⟩ := Cond.code_named hcode
  obtain ⟨methM, cM, hmethM, -, -, -, -, -, -, hsigM⟩ := Cond.code_spec hnamed hcode
  have hstatic : methM.isStatic = true := Cond.static_spec hnamed hmethM hstat
  obtain ⟨kP, hkP, -⟩ := className_of_methodNamed hnamed
  have hinitP : kP.init = .initialized := Cond.initialized_spec (findClass_of_methodNamed hnamed) hkP hinit
  obtain ⟨vm₁, X₁, hstep₁⟩ := X.invokestatic hexec hown hlink hnamed hmethM hstatic hkP hinitP hy (g := g) hg (argsL := argsL) (rest := rest) (hlen _ hsigM) hstack hdg
  rcases hK m meth c ⟨T.setVm vm₁, locs, cells, slots⟩ { g with stack := rest } (.invokestatic index) mk argsL.toArray X₁ hg hsize hdg hW (X₁.named hnamed) (hpre vm₁ X₁.warmed) with ⟨v, B, X', hpost, hsteps⟩ | ⟨q, B, X', hpost, hsteps⟩
  · exact Or.inl ⟨v, vm₁, B, X₁.warmed, X', hpost, fun target h => hstep₁ _ fun acts => by rw [doInvoke_state]; exact hsteps.trans h⟩
  · exact Or.inr ⟨q, vm₁, B, X₁.warmed, X', hpost, hstep₁ _ fun acts => by rw [doInvoke_state]; exact hsteps⟩
end Calls
theorem vx_cls {s : State} {T : State} {vm₁ : Vm} {E : String} {k : ClassId} (hW : s.WarmedH vm₁) (h : (T.setVm vm₁).vm.findClass E = some k) : s.vm.findClass E = some k := by
  have h1 : vm₁.findClass E = some k := h
  rw [hW.alike.findClass] at h1
  exact h1
/-- the method's frame g, with q thrown over it -/
def vx_W (p : Program) (l : Launch) (e : Env) (R : Room) (s : State) (m : MethodId) (args : Array Value) (below : List Frame) (meth : Method) (c : Code) (H : Heap) (locs : List Loc) (cells slots : Nat) (Q : State → Prop) (g : JFrame) (q : Addr) : Prop :=
  ∀ T : State, T.heap = H → Stand p l e R s m args below meth c T locs cells slots → ∃ t, Steps p.tables e below ((T.setTop g).pushFrame (.throwing q)) t ∧ Q t
def vx_Run (p : Program) (l : Launch) (e : Env) (R : Room) (s : State) (m : MethodId) (args : Array Value) (below : List Frame) (meth : Method) (c : Code) (H : Heap) (locs : List Loc) (cells slots mc ms : Nat) (g : JFrame) (rest : List Value) (Qa : State → Outcome → State → Prop) (XC : String → State → State → Prop) (free : Addr → Prop) : Prop :=
  ∀ T : State, T.heap = H → Stand p l e R s m args below meth c T locs cells slots →
    (∃ (v : Option Value) (st₀ t T' : State) (L : List Loc), st₀.heap = H ∧ Stand p l e R s m args below meth c T' (locs ++ L) (cells + mc) (slots + ms) ∧ (∀ q ∈ L, free q.base) ∧ T'.heap = t.heap ∧ T'.vm = t.vm ∧ Qa st₀ (.returned v) t ∧
      Goes p e below T g T' { g with pc := g.pc + 3, stack := v.toList ++ rest }) ∨
    (∃ (q : Addr) (st₀ t T' : State) (L : List Loc) (E : String) (ce : Cell), st₀.heap = H ∧ Stand p l e R s m args below meth c T' (locs ++ L) (cells + mc) (slots + ms) ∧ (∀ z ∈ L, free z.base) ∧ T'.heap = t.heap ∧ T'.vm = t.vm ∧ XC E st₀ t ∧ t.heap[q]? = some ce ∧ ce.vm = .none ∧ s.vm.findClass E = some ce.cls ∧
      Steps p.tables e below (T.setTop g) ((T'.setTop { g with stack := rest }).pushFrame (.throwing q)))
def vx_X {S : Type} (px : S → Prop) (B : String → S → State → Prop) (A : Nat → Prop) : String → State → State → Prop := fun E st t => ∃ u : S, px u ∧ B E u t ∧ va_F A st t
section Runs
variable {p : Program} {l : Launch} {e : Env} {R : Room} {s : State} {m : MethodId} {args : Array Value} {below : List Frame} {meth : Method} {c : Code} {H : Heap} {locs : List Loc} {cells slots : Nat}
variable {y : MethodName} {bytes cc : ByteArray} {maxL nL mc ms n index : Nat} {ret : Option FieldType} {ws : List Cond} {rm : Room} {Pc : Array Value → State → Prop} {Qc : Array Value → State → Outcome → State → Prop} {XC : String → State → State → Prop} {free : Addr → Prop} {Ts : List Cond} {own C : String} {b : Addr} {As rest : List Value} {g : JFrame}
theorem vx_callBack (cb : CallB R s args own index y bytes maxL ret ws rm mc ms n) (hM : vx_Met l y ws rm Pc Qc XC mc ms free) (hbl : FrameBlind Pc) : vx_Back l R p e below s args y 3 8 (PreOf R mc ms Pc) (PostOf Qc mc ms free) (vx_Post XC mc ms free) := by
  obtain ⟨hrc, hrs, hfr, hlo, hws, hcw, -, hini, -⟩ := cb
  exact vx_back (bytes := bytes) (maxL := maxL) (ret := ret) hM hbl hrc hrs hfr hlo hws hcw (fun a' U hW => word_at hW (Or.inl (by first | rfl | simp [Cond.onTables, Cond.keeps, Cond.steady])) hini)
theorem vx_runV (S : CallFix p m c cc nL s args Ts own) (hM : vx_Met l y ws rm Pc Qc XC mc ms free) (cw : CallW R s args own C index y bytes maxL ret ws rm mc ms n) (hp : PreV s H C b Pc As)
    (hg : g.method = m) (hn : As.length = n) (hsize : g.locals.size = nL) (hstack : g.stack = As.reverse ++ .ref b :: rest) (hW : 2 * g.monitorRoom + (rest.map fun v => v.category).sum ≤ 8) (hdg : decode cc g.pc = .ok (.invokevirtual index, 3)) (hf : cells + mc ≤ R.cells ∧ slots + ms ≤ R.slots) :
    vx_Run p l e R s m args below meth c H locs cells slots mc ms g rest (Qc (Value.ref b :: As).toArray) XC free := by
  have hK : vx_Back l R p e below s args y 3 8 (PreOf R mc ms Pc) (PostOf Qc mc ms free) (vx_Post XC mc ms free) := vx_callBack cw.1 hM hp.1
  obtain ⟨⟨-, -, -, -, -, -, hcode, -, hy, hlen, hl⟩, hin, hse⟩ := cw
  obtain ⟨hx, hb, hml, ho, -⟩ := S
  obtain ⟨-, ⟨cellB, hcB, hoB, hclB⟩, hPc⟩ := hp
  intro T hT X
  rcases vx_callV X hx (C := C) (bytes := bytes) (maxL := maxL) (ret := ret) ho hl hin hse hcode hy hK (by rw [hT]; exact hcB) hoB hclB hg (hsize.trans hml.symm) (argsL := As) (rest := rest) (fun sig h => hn.trans (hlen sig h)) hstack hW (by rw [hb]; exact hdg)
    (fun vm₁ hW₁ => ⟨hf.1, hf.2, hPc (T.setVm vm₁) hT hW₁⟩) with ⟨v, vm₁, ⟨U', l2, c2, s2⟩, hW₁, X', ⟨g', mk, t, L, e1, e2, hq, h1, hL, h2, h3⟩, st⟩ | ⟨q, vm₁, ⟨U', l2, c2, s2⟩, hW₁, X', ⟨g', mk, t, L, E, ce, e1, e2, hq, hce, hcv, hcl, h1, hL, h2, h3⟩, st⟩
  · dsimp only [Pt.U, Pt.locs, Pt.cells, Pt.slots] at X' e1 e2 h1 h2 h3 st
    subst h1; subst h2; subst h3
    exact Or.inl ⟨v, (T.setVm vm₁).calling g' mk (Value.ref b :: As).toArray, t, U', L, hT, X', hL, e1, e2, hq, st⟩
  · dsimp only [Pt.U, Pt.locs, Pt.cells, Pt.slots] at X' e1 e2 h1 h2 h3 st hcl
    subst h1; subst h2; subst h3
    exact Or.inr ⟨q, (T.setVm vm₁).calling g' mk (Value.ref b :: As).toArray, t, U', L, E, ce, hT, X', hL, e1, e2, hq, hce, hcv, vx_cls hW₁ hcl, st⟩
theorem vx_runS (S : CallFix p m c cc nL s args Ts own) (hM : vx_Met l y ws rm Pc Qc XC mc ms free) (cw : CallB R s args own index y bytes maxL ret ws rm mc ms n ∧ (Cond.static y).before args s = true) (hp : PreS s H Pc As)
    (hg : g.method = m) (hn : As.length = n) (hsize : g.locals.size = nL) (hstack : g.stack = As.reverse ++ rest) (hW : 2 * g.monitorRoom + (rest.map fun v => v.category).sum ≤ 8) (hdg : decode cc g.pc = .ok (.invokestatic index, 3)) (hf : cells + mc ≤ R.cells ∧ slots + ms ≤ R.slots) :
    vx_Run p l e R s m args below meth c H locs cells slots mc ms g rest (Qc As.toArray) XC free := by
  have hK : vx_Back l R p e below s args y 3 8 (PreOf R mc ms Pc) (PostOf Qc mc ms free) (vx_Post XC mc ms free) := vx_callBack cw.1 hM hp.1
  obtain ⟨⟨-, -, -, -, -, -, hcode, hini, hy, hlen, hl⟩, hstt⟩ := cw
  obtain ⟨hx, hb, hml, ho, -⟩ := S
  intro T hT X
  rcases vx_callS X hx (bytes := bytes) (maxL := maxL) (ret := ret) ho hl hstt hini hcode hy hK hg (hsize.trans hml.symm) (argsL := As) (rest := rest) (fun sig h => hn.trans (hlen sig h)) hstack hW (by rw [hb]; exact hdg)
    (fun vm₁ hW₁ => ⟨hf.1, hf.2, hp.2 (T.setVm vm₁) hT hW₁⟩) with ⟨v, vm₁, ⟨U', l2, c2, s2⟩, hW₁, X', ⟨g', mk, t, L, e1, e2, hq, h1, hL, h2, h3⟩, st⟩ | ⟨q, vm₁, ⟨U', l2, c2, s2⟩, hW₁, X', ⟨g', mk, t, L, E, ce, e1, e2, hq, hce, hcv, hcl, h1, hL, h2, h3⟩, st⟩
  · dsimp only [Pt.U, Pt.locs, Pt.cells, Pt.slots] at X' e1 e2 h1 h2 h3 st
    subst h1; subst h2; subst h3
    exact Or.inl ⟨v, (T.setVm vm₁).calling g' mk As.toArray, t, U', L, hT, X', hL, e1, e2, hq, st⟩
  · dsimp only [Pt.U, Pt.locs, Pt.cells, Pt.slots] at X' e1 e2 h1 h2 h3 st hcl
    subst h1; subst h2; subst h3
    exact Or.inr ⟨q, (T.setVm vm₁).calling g' mk As.toArray, t, U', L, E, ce, hT, X', hL, e1, e2, hq, hce, hcv, vx_cls hW₁ hcl, st⟩
end Runs
section Rows
variable {p : Program} {l : Launch} {e : Env} {R : Room} {s : State} {m : MethodId} {args : Array Value} {below : List Frame} {meth : Method} {c : Code} {H : Heap} {locs : List Loc} {cells slots : Nat} {Q : State → Prop}
variable {mc ms : Nat} {free : Addr → Prop} {A0 A1 : Nat → Prop} {H0 : Heap} {a : Array Value} {pc : Nat} {ls : Array Slot} {st0 rest : List Value}
theorem vx_keep {st₀ t T' : State} {L : List Loc} (h0 : st₀.heap = H) (e1 : T'.heap = t.heap) (hS : va_S A0 H0 H locs) (hA : ∀ q, q < H.size → A1 q → A0 q) (hf : ∀ q, free q → A0 q) (hL : ∀ q ∈ L, free q.base) (hF : va_F A1 st₀ t) :
    H.size ≤ T'.heap.size ∧ (∀ q : Nat, q < H.size → ¬ A1 q → T'.heap[q]? = H[q]?) ∧ va_S A0 H0 T'.heap (locs ++ L) := by
  obtain ⟨hz, hk⟩ := hF
  rw [h0] at hz hk
  exact ⟨by rw [e1]; exact hz, fun q h1 h2 => by rw [e1]; exact hk q h1 h2,
    ⟨Nat.le_trans hS.1 (by rw [e1]; exact hz), fun q h1 h2 => by rw [e1, hk q (Nat.lt_of_lt_of_le h1 hS.1) (fun z => h2 (hA q (Nat.lt_of_lt_of_le h1 hS.1) z))]; exact hS.2.1 q h1 h2, fun q hq => by
      rcases List.mem_append.mp hq with h | h
      · exact hS.2.2 q h
      · exact hf _ (hL q h)⟩⟩
theorem vx_calli {S SX : Type} {post : Int32 → S → Prop} {px : SX → Prop} {B : S → State → Prop} {BX : String → SX → State → Prop} {AX : Nat → Prop} (hr : vx_Run p l e R s m args below meth c H locs cells slots mc ms (F0 m pc ls st0) rest (va_Qi post B A1 a) (vx_X px BX AX) free) (hS : va_S A0 H0 H locs) (hA : ∀ q, q < H.size → A1 q → A0 q) (hf : ∀ q, free q → A0 q) (hAX : ∀ q, q < H.size → AX q → A0 q)
    (kx : ∀ (E : String) (ce : Cell) (q9 : Addr) (u : SX) (t : State) (H1 : Heap) (locs1 : List Loc), t.heap = H1 → s.vm.Alike t.vm → px u → BX E u t → H.size ≤ H1.size → (∀ q : Nat, q < H.size → ¬ AX q → H1[q]? = H[q]?) → va_S A0 H0 H1 locs1 → H1[q9]? = some ce → ce.vm = .none → s.vm.findClass E = some ce.cls → vx_W p l e R s m args below meth c H1 locs1 (cells + mc) (slots + ms) Q (F0 m pc ls rest) q9)
    (kk : ∀ (r : Int32) (u : S) (t : State) (H1 : Heap) (locs1 : List Loc), t.heap = H1 → s.vm.Alike t.vm → post r u → B u t → H.size ≤ H1.size → (∀ q : Nat, q < H.size → ¬ A1 q → H1[q]? = H[q]?) → va_S A0 H0 H1 locs1 → W p l e R s m args below meth c H1 locs1 (cells + mc) (slots + ms) Q (F0 m (pc + 3) ls (.int r :: rest))) : W p l e R s m args below meth c H locs cells slots Q (F0 m pc ls st0) := by
  intro T hT X
  rcases hr T hT X with ⟨v, st₀, t, T', L, h0, X', hL, e1, e2, ⟨⟨r, u, hv, hp, hb⟩, hF⟩, st⟩ | ⟨q, st₀, t, T', L, E, ce, h0, X', hL, e1, e2, ⟨u, hp, hb, hF⟩, hce, hcv, hcl, st⟩
  · cases hv
    obtain ⟨k1, k2, k3⟩ := vx_keep h0 e1 hS hA hf hL hF
    obtain ⟨t2, a1, b1⟩ := kk r u t T'.heap (locs ++ L) e1.symm (by rw [← e2]; exact X'.warmed.alike) hp hb k1 k2 k3 T' rfl X'
    exact ⟨t2, st t2 a1, b1⟩
  · obtain ⟨k1, k2, k3⟩ := vx_keep h0 e1 hS hAX hf hL hF
    obtain ⟨t2, a1, b1⟩ := kx E ce q u t T'.heap (locs ++ L) e1.symm (by rw [← e2]; exact X'.warmed.alike) hp hb k1 k2 k3 (by rw [e1]; exact hce) hcv hcl T' rfl X'
    exact ⟨t2, st.trans a1, b1⟩
theorem vx_calll {S SX : Type} {post : Int64 → S → Prop} {px : SX → Prop} {B : S → State → Prop} {BX : String → SX → State → Prop} {AX : Nat → Prop} (hr : vx_Run p l e R s m args below meth c H locs cells slots mc ms (F0 m pc ls st0) rest (va_Ql post B A1 a) (vx_X px BX AX) free) (hS : va_S A0 H0 H locs) (hA : ∀ q, q < H.size → A1 q → A0 q) (hf : ∀ q, free q → A0 q) (hAX : ∀ q, q < H.size → AX q → A0 q)
    (kx : ∀ (E : String) (ce : Cell) (q9 : Addr) (u : SX) (t : State) (H1 : Heap) (locs1 : List Loc), t.heap = H1 → s.vm.Alike t.vm → px u → BX E u t → H.size ≤ H1.size → (∀ q : Nat, q < H.size → ¬ AX q → H1[q]? = H[q]?) → va_S A0 H0 H1 locs1 → H1[q9]? = some ce → ce.vm = .none → s.vm.findClass E = some ce.cls → vx_W p l e R s m args below meth c H1 locs1 (cells + mc) (slots + ms) Q (F0 m pc ls rest) q9)
    (kk : ∀ (r : Int64) (u : S) (t : State) (H1 : Heap) (locs1 : List Loc), t.heap = H1 → s.vm.Alike t.vm → post r u → B u t → H.size ≤ H1.size → (∀ q : Nat, q < H.size → ¬ A1 q → H1[q]? = H[q]?) → va_S A0 H0 H1 locs1 → W p l e R s m args below meth c H1 locs1 (cells + mc) (slots + ms) Q (F0 m (pc + 3) ls (.long r :: rest))) : W p l e R s m args below meth c H locs cells slots Q (F0 m pc ls st0) := by
  intro T hT X
  rcases hr T hT X with ⟨v, st₀, t, T', L, h0, X', hL, e1, e2, ⟨⟨r, u, hv, hp, hb⟩, hF⟩, st⟩ | ⟨q, st₀, t, T', L, E, ce, h0, X', hL, e1, e2, ⟨u, hp, hb, hF⟩, hce, hcv, hcl, st⟩
  · cases hv
    obtain ⟨k1, k2, k3⟩ := vx_keep h0 e1 hS hA hf hL hF
    obtain ⟨t2, a1, b1⟩ := kk r u t T'.heap (locs ++ L) e1.symm (by rw [← e2]; exact X'.warmed.alike) hp hb k1 k2 k3 T' rfl X'
    exact ⟨t2, st t2 a1, b1⟩
  · obtain ⟨k1, k2, k3⟩ := vx_keep h0 e1 hS hAX hf hL hF
    obtain ⟨t2, a1, b1⟩ := kx E ce q u t T'.heap (locs ++ L) e1.symm (by rw [← e2]; exact X'.warmed.alike) hp hb k1 k2 k3 (by rw [e1]; exact hce) hcv hcl T' rfl X'
    exact ⟨t2, st.trans a1, b1⟩
theorem vx_callf {S SX : Type} {post : UInt32 → S → Prop} {px : SX → Prop} {B : S → State → Prop} {BX : String → SX → State → Prop} {AX : Nat → Prop} (hr : vx_Run p l e R s m args below meth c H locs cells slots mc ms (F0 m pc ls st0) rest (va_Qf post B A1 a) (vx_X px BX AX) free) (hS : va_S A0 H0 H locs) (hA : ∀ q, q < H.size → A1 q → A0 q) (hf : ∀ q, free q → A0 q) (hAX : ∀ q, q < H.size → AX q → A0 q)
    (kx : ∀ (E : String) (ce : Cell) (q9 : Addr) (u : SX) (t : State) (H1 : Heap) (locs1 : List Loc), t.heap = H1 → s.vm.Alike t.vm → px u → BX E u t → H.size ≤ H1.size → (∀ q : Nat, q < H.size → ¬ AX q → H1[q]? = H[q]?) → va_S A0 H0 H1 locs1 → H1[q9]? = some ce → ce.vm = .none → s.vm.findClass E = some ce.cls → vx_W p l e R s m args below meth c H1 locs1 (cells + mc) (slots + ms) Q (F0 m pc ls rest) q9)
    (kk : ∀ (r : UInt32) (u : S) (t : State) (H1 : Heap) (locs1 : List Loc), t.heap = H1 → s.vm.Alike t.vm → post r u → B u t → H.size ≤ H1.size → (∀ q : Nat, q < H.size → ¬ A1 q → H1[q]? = H[q]?) → va_S A0 H0 H1 locs1 → W p l e R s m args below meth c H1 locs1 (cells + mc) (slots + ms) Q (F0 m (pc + 3) ls (.float r :: rest))) : W p l e R s m args below meth c H locs cells slots Q (F0 m pc ls st0) := by
  intro T hT X
  rcases hr T hT X with ⟨v, st₀, t, T', L, h0, X', hL, e1, e2, ⟨⟨r, u, hv, hp, hb⟩, hF⟩, st⟩ | ⟨q, st₀, t, T', L, E, ce, h0, X', hL, e1, e2, ⟨u, hp, hb, hF⟩, hce, hcv, hcl, st⟩
  · cases hv
    obtain ⟨k1, k2, k3⟩ := vx_keep h0 e1 hS hA hf hL hF
    obtain ⟨t2, a1, b1⟩ := kk r u t T'.heap (locs ++ L) e1.symm (by rw [← e2]; exact X'.warmed.alike) hp hb k1 k2 k3 T' rfl X'
    exact ⟨t2, st t2 a1, b1⟩
  · obtain ⟨k1, k2, k3⟩ := vx_keep h0 e1 hS hAX hf hL hF
    obtain ⟨t2, a1, b1⟩ := kx E ce q u t T'.heap (locs ++ L) e1.symm (by rw [← e2]; exact X'.warmed.alike) hp hb k1 k2 k3 (by rw [e1]; exact hce) hcv hcl T' rfl X'
    exact ⟨t2, st.trans a1, b1⟩
theorem vx_calld {S SX : Type} {post : UInt64 → S → Prop} {px : SX → Prop} {B : S → State → Prop} {BX : String → SX → State → Prop} {AX : Nat → Prop} (hr : vx_Run p l e R s m args below meth c H locs cells slots mc ms (F0 m pc ls st0) rest (va_Qd post B A1 a) (vx_X px BX AX) free) (hS : va_S A0 H0 H locs) (hA : ∀ q, q < H.size → A1 q → A0 q) (hf : ∀ q, free q → A0 q) (hAX : ∀ q, q < H.size → AX q → A0 q)
    (kx : ∀ (E : String) (ce : Cell) (q9 : Addr) (u : SX) (t : State) (H1 : Heap) (locs1 : List Loc), t.heap = H1 → s.vm.Alike t.vm → px u → BX E u t → H.size ≤ H1.size → (∀ q : Nat, q < H.size → ¬ AX q → H1[q]? = H[q]?) → va_S A0 H0 H1 locs1 → H1[q9]? = some ce → ce.vm = .none → s.vm.findClass E = some ce.cls → vx_W p l e R s m args below meth c H1 locs1 (cells + mc) (slots + ms) Q (F0 m pc ls rest) q9)
    (kk : ∀ (r : UInt64) (u : S) (t : State) (H1 : Heap) (locs1 : List Loc), t.heap = H1 → s.vm.Alike t.vm → post r u → B u t → H.size ≤ H1.size → (∀ q : Nat, q < H.size → ¬ A1 q → H1[q]? = H[q]?) → va_S A0 H0 H1 locs1 → W p l e R s m args below meth c H1 locs1 (cells + mc) (slots + ms) Q (F0 m (pc + 3) ls (.double r :: rest))) : W p l e R s m args below meth c H locs cells slots Q (F0 m pc ls st0) := by
  intro T hT X
  rcases hr T hT X with ⟨v, st₀, t, T', L, h0, X', hL, e1, e2, ⟨⟨r, u, hv, hp, hb⟩, hF⟩, st⟩ | ⟨q, st₀, t, T', L, E, ce, h0, X', hL, e1, e2, ⟨u, hp, hb, hF⟩, hce, hcv, hcl, st⟩
  · cases hv
    obtain ⟨k1, k2, k3⟩ := vx_keep h0 e1 hS hA hf hL hF
    obtain ⟨t2, a1, b1⟩ := kk r u t T'.heap (locs ++ L) e1.symm (by rw [← e2]; exact X'.warmed.alike) hp hb k1 k2 k3 T' rfl X'
    exact ⟨t2, st t2 a1, b1⟩
  · obtain ⟨k1, k2, k3⟩ := vx_keep h0 e1 hS hAX hf hL hF
    obtain ⟨t2, a1, b1⟩ := kx E ce q u t T'.heap (locs ++ L) e1.symm (by rw [← e2]; exact X'.warmed.alike) hp hb k1 k2 k3 (by rw [e1]; exact hce) hcv hcl T' rfl X'
    exact ⟨t2, st.trans a1, b1⟩
theorem vx_callv {S SX : Type} {post : S → Prop} {px : SX → Prop} {B : S → State → Prop} {BX : String → SX → State → Prop} {AX : Nat → Prop} (hr : vx_Run p l e R s m args below meth c H locs cells slots mc ms (F0 m pc ls st0) rest (va_Qv post B A1 a) (vx_X px BX AX) free) (hS : va_S A0 H0 H locs) (hA : ∀ q, q < H.size → A1 q → A0 q) (hf : ∀ q, free q → A0 q) (hAX : ∀ q, q < H.size → AX q → A0 q)
    (kx : ∀ (E : String) (ce : Cell) (q9 : Addr) (u : SX) (t : State) (H1 : Heap) (locs1 : List Loc), t.heap = H1 → s.vm.Alike t.vm → px u → BX E u t → H.size ≤ H1.size → (∀ q : Nat, q < H.size → ¬ AX q → H1[q]? = H[q]?) → va_S A0 H0 H1 locs1 → H1[q9]? = some ce → ce.vm = .none → s.vm.findClass E = some ce.cls → vx_W p l e R s m args below meth c H1 locs1 (cells + mc) (slots + ms) Q (F0 m pc ls rest) q9)
    (kk : ∀ (u : S) (t : State) (H1 : Heap) (locs1 : List Loc), t.heap = H1 → s.vm.Alike t.vm → post u → B u t → H.size ≤ H1.size → (∀ q : Nat, q < H.size → ¬ A1 q → H1[q]? = H[q]?) → va_S A0 H0 H1 locs1 → W p l e R s m args below meth c H1 locs1 (cells + mc) (slots + ms) Q (F0 m (pc + 3) ls (rest))) : W p l e R s m args below meth c H locs cells slots Q (F0 m pc ls st0) := by
  intro T hT X
  rcases hr T hT X with ⟨v, st₀, t, T', L, h0, X', hL, e1, e2, ⟨⟨u, hv, hp, hb⟩, hF⟩, st⟩ | ⟨q, st₀, t, T', L, E, ce, h0, X', hL, e1, e2, ⟨u, hp, hb, hF⟩, hce, hcv, hcl, st⟩
  · cases hv
    obtain ⟨k1, k2, k3⟩ := vx_keep h0 e1 hS hA hf hL hF
    obtain ⟨t2, a1, b1⟩ := kk u t T'.heap (locs ++ L) e1.symm (by rw [← e2]; exact X'.warmed.alike) hp hb k1 k2 k3 T' rfl X'
    exact ⟨t2, st t2 a1, b1⟩
  · obtain ⟨k1, k2, k3⟩ := vx_keep h0 e1 hS hAX hf hL hF
    obtain ⟨t2, a1, b1⟩ := kx E ce q u t T'.heap (locs ++ L) e1.symm (by rw [← e2]; exact X'.warmed.alike) hp hb k1 k2 k3 (by rw [e1]; exact hce) hcv hcl T' rfl X'
    exact ⟨t2, st.trans a1, b1⟩
/-- caught by the row x of this method's table; the rows ahead don't take it -/
theorem vx_catch {own name : String} {E : String} {ce : Cell} {q : Addr} (hown : s.vm.findClass own = some m.cls) (pre : List ExceptionTableEntry) (x : ExceptionTableEntry) (suf : List ExceptionTableEntry) (hsplit : c.exceptionTable.toList = pre ++ x :: suf)
    (hpass : ∀ z ∈ pre, covers z pc = false ∨ (z.catchType ≠ 0 ∧ ∃ nm : String, (Cond.classLink own z.catchType nm).before args s = true ∧ va_Nc E nm s)) (hx : covers x pc = true) (h0 : x.catchType ≠ 0)
    (hlink : (Cond.classLink own x.catchType name).before args s = true) (hcast : (Cond.castable E name).before args s = true) (hcell : H[q]? = some ce) (hv : ce.vm = .none) (hcl : s.vm.findClass E = some ce.cls)
    (kk : W p l e R s m args below meth c H locs cells slots Q (F0 m x.handlerPc ls [.ref q])) : vx_W p l e R s m args below meth c H locs cells slots Q (F0 m pc ls rest) q := by
  intro T hT X
  have hpl : e.platform.magicAccessors = ({} : Platform).magicAccessors := by rw [X.admits.platform]
  obtain ⟨c3, c4, hc3, hc4, hasg⟩ := Cond.castable_spec hcast
  cases Option.some.inj (hc3.symm.trans hcl)
  obtain ⟨c5, hc5, hcl5⟩ := Cond.classLink_spec hown hlink e.platform hpl
  cases Option.some.inj (hc4.symm.trans hc5)
  obtain ⟨vm', X', st⟩ := X.thenCaughtThrough q (g := F0 m pc ls rest) rfl (Steps.refl _) (by rw [hT]; exact hcell) (by rw [hv]; rfl) (by obtain ⟨k9, h9, -⟩ := Vm.findClass_spec hcl; exact ⟨k9, h9⟩) pre x suf hsplit
    (fun z hz => by
      rcases hpass z hz with h | ⟨hz0, nm, hl1, hn1⟩
      · exact Or.inl h
      · obtain ⟨c6, hc6, hcl6⟩ := Cond.classLink_spec hown hl1 e.platform hpl
        obtain ⟨a8, b8, h1, h2, h3⟩ := hn1
        cases Option.some.inj (h1.symm.trans hcl)
        cases Option.some.inj (h2.symm.trans hc6)
        exact Or.inr ⟨hz0, _, hcl6, h3⟩) hx (Or.inr ⟨h0, c4, hcl5, hasg⟩)
  obtain ⟨t, a1, b1⟩ := kk (T.setVm vm') hT X'
  exact ⟨t, st.trans a1, b1⟩
end Rows
section Ends
variable {p : Program} {l : Launch} {e : Env} {R : Room} {s : State} {m : MethodId} {args : Array Value} {below : List Frame} {meth : Method} {c : Code} {H : Heap} {locs : List Loc} {cells slots : Nat} {Q : State → Prop}
variable {mc ms : Nat} {free : Addr → Prop} {A0 A1 : Nat → Prop} {H0 : Heap} {a : Array Value} {ls : Array Slot} {st0 rest : List Value}
variable {Qc : Array Value → State → Outcome → State → Prop} {XC : String → State → State → Prop}
/-- what a body that may throw owes at its end -/
def vx_MQ (below : List Frame) (Qc : Array Value → State → Outcome → State → Prop) (XC : String → State → State → Prop) (a : Array Value) (s : State) (mc ms : Nat) (free : Addr → Prop) : State → Prop := fun t =>
  ∃ o, t.status = .running ∧ Ended t below o ∧ vx_Q Qc XC mc ms free a s o t
theorem vx_ret {g : JFrame} {mc ms : Nat} (k : W p l e R s m args below meth c H locs cells slots (MQ below Qc args s mc ms free) g) : W p l e R s m args below meth c H locs cells slots (vx_MQ below Qc XC args s mc ms free) g := by
  intro T hT X
  obtain ⟨t, a1, o, b1, b2, b3, b4⟩ := k T hT X
  exact ⟨t, a1, o, b1, b2, Or.inl ⟨b3, b4⟩⟩
/-- not caught here: it goes on to the caller -/
theorem vx_widen {g : JFrame} {q : Addr} {k n : Nat} (h1 : cells ≤ k) (h2 : slots ≤ n) (kk : vx_W p l e R s m args below meth c H locs k n Q g q) : vx_W p l e R s m args below meth c H locs cells slots Q g q := fun T hT X => kk T hT (stand_widen X h1 h2)
theorem vx_out {pc : Nat} {E : String} {ce : Cell} {q : Addr} {mc ms : Nat} (hout : ∀ x ∈ c.exceptionTable.toList, covers x pc = false) (hlocks : meth.locks = false) (hcell : H[q]? = some ce) (hv : ce.vm = .none) (hcl : s.vm.findClass E = some ce.cls)
    (hx : ∀ t : State, t.heap = H → s.vm.Alike t.vm → XC E s t) (hf : ∀ z ∈ locs, free z.base) (hc : cells ≤ mc) (hs : slots ≤ ms) :
    vx_W p l e R s m args below meth c H locs cells slots (vx_MQ below Qc XC args s mc ms free) (F0 m pc ls rest) q := by
  intro T hT X
  obtain ⟨st1, hrun, hend, hW, hsm⟩ := X.leaveThrown q (g := F0 m pc ls rest) rfl rfl rfl hout hlocks
  have hcell9 : (T.setFrames (.throwing q :: below)).heap[q]? = some ce := by
    show T.heap[q]? = some ce
    rw [hT]; exact hcell
  exact ⟨_, st1, .threw q, hrun, hend, Or.inr ⟨q, rfl, E, ce, locs, hx _ hT hW.alike, hcell9, hv, hcl, hW, hsm.mono hc hs, hf⟩⟩
theorem vx_frame {U : State} {k n : Nat} (h : s.sameButNew ({ U with vm := s.vm } : State) locs k n) : s.heap.size ≤ U.heap.size ∧ ∀ q : Nat, q < s.heap.size → (∀ z ∈ locs, z.base ≠ q) → U.heap[q]? = s.heap[q]? := by
  obtain ⟨-, h2, -, -, -, h6⟩ := h
  refine ⟨h2, fun q hq hz => ?_⟩
  obtain ⟨c9, e1, e2, e3, e4⟩ := h6 q _ (Array.getElem?_eq_getElem hq)
  have hs : c9.slots = (s.heap[q]).slots := Array.ext_getElem? fun i => e4 i fun hm => hz _ hm rfl
  have h9 : c9 = s.heap[q] := by
    rw [hs] at e2
    exact e2
  have e5 : U.heap[q]? = some c9 := e1
  rw [e5, h9, Array.getElem?_eq_getElem hq]
/-- the words of a throw but the four that speak of the heap -/
def vx_no (w : Cond) : Bool := decide (w ≠ .isRef (.static Bundle.tN "UNASSIGNED_STACK" Bundle.steD)) && decide (w ≠ .isRef (.static Bundle.tN "SUPPRESSED_SENTINEL" Bundle.listD)) && decide (w ≠ .laysStatic Bundle.tN "UNASSIGNED_STACK" Bundle.steD) && decide (w ≠ .laysStatic Bundle.tN "SUPPRESSED_SENTINEL" Bundle.listD)
def vx_at0 (own : String) (ic : Nat) (X : String) (names : List String) : List Cond := (Bundle.ownAtoms0 own ic X names).filter vx_no
def vx_atS (own : String) (ic : Nat) (X : String) (names : List String) : List Cond := (Bundle.ownAtoms own ic X names).filter vx_no
/-- a word that the tables alone decide, or a good one -/
def vx_ot (w : Cond) : Bool := w.onTables || goodWord w
theorem vx_ot_at {args a' : Array Value} {s U : State} {w : Cond} (hW : s.WarmedH U.vm) (hvm : s.vm = U.vm) (hg : vx_ot w = true) (h : w.before args s = true) : w.before a' U = true := by
  simp only [vx_ot, Bool.or_eq_true] at hg
  rcases hg with hg | hg
  · exact va_tabs hg hvm h
  · exact word_at hW (good_of_word hg) h
/-- a list's words: the good ones out of the method's own list, the others by premises of their own -/
theorem vx_hat {args : Array Value} {s : State} {L B : List Cond} (h1 : ∀ w ∈ L.filter goodWord, w.before args s = true) (h2 : ∀ w ∈ L.filter (fun w => !goodWord w), w ∈ B) (h3 : ∀ w ∈ B, w.before args s = true) : ∀ w ∈ L, w.before args s = true := by
  intro w hw
  by_cases g : goodWord w = true
  · exact h1 w (List.mem_filter.mpr ⟨hw, g⟩)
  · refine h3 w (h2 w (List.mem_filter.mpr ⟨hw, ?_⟩))
    show (!goodWord w) = true
    cases hgw : goodWord w
    · rfl
    · exact absurd hgw g
theorem vx_c {args : Array Value} {s : State} {w : Cond} {B : List Cond} (h : w.before args s = true) (t : ∀ w ∈ B, w.before args s = true) : ∀ w' ∈ w :: B, w'.before args s = true := fun w' h' => (List.mem_cons.mp h').elim (fun e => by rw [e]; exact h) (t w')
theorem vx_n {args : Array Value} {s : State} : ∀ w ∈ ([] : List Cond), w.before args s = true := fun _ h => nomatch h
theorem vx_own {args : Array Value} {s : State} {L : List Cond} (h1 : ∀ w ∈ L.filter vx_no, w.before args s = true)
    (hU : (Cond.isRef (.static Bundle.tN "UNASSIGNED_STACK" Bundle.steD)).before args s = true) (hN : (Cond.isRef (.static Bundle.tN "SUPPRESSED_SENTINEL" Bundle.listD)).before args s = true)
    (lU : (Cond.laysStatic Bundle.tN "UNASSIGNED_STACK" Bundle.steD).before args s = true) (lN : (Cond.laysStatic Bundle.tN "SUPPRESSED_SENTINEL" Bundle.listD).before args s = true) : ∀ w ∈ L, w.before args s = true := by
  intro w hw
  by_cases e1 : w = .isRef (.static Bundle.tN "UNASSIGNED_STACK" Bundle.steD)
  · rw [e1]; exact hU
  · by_cases e2 : w = .isRef (.static Bundle.tN "SUPPRESSED_SENTINEL" Bundle.listD)
    · rw [e2]; exact hN
    · by_cases e3 : w = .laysStatic Bundle.tN "UNASSIGNED_STACK" Bundle.steD
      · rw [e3]; exact lU
      · by_cases e4 : w = .laysStatic Bundle.tN "SUPPRESSED_SENTINEL" Bundle.listD
        · rw [e4]; exact lN
        · exact h1 w (List.mem_filter.mpr ⟨hw, by unfold vx_no; rw [decide_eq_true e1, decide_eq_true e2, decide_eq_true e3, decide_eq_true e4]; rfl⟩)
/-- where a static field lies, its class's statics cell in H -/
def vx_L (C n d : String) (A : Nat → Prop) (U : State) (H : Heap) : Prop := ∃ (c : ClassId) (k : Class) (i : Nat) (f : Field) (a : Nat) (cell : Cell), U.vm.findClass C = some c ∧ U.fieldFound? C n d = some (c, k, i, f) ∧ f.isStatic = true ∧ k.statics = some a ∧ H[a]? = some cell ∧ cell.vm.isStatics = true ∧ cell.cls = c ∧ f.slot < cell.slots.size ∧ k.staticTypes[f.slot]? = some f.type ∧ ¬ A a
theorem vx_L.moved {C n d : String} {A : Nat → Prop} {u U : State} {H : Heap} (hvm : u.vm.Alike U.vm) (h : vx_L C n d A u H) : vx_L C n d A U H := by
  obtain ⟨c, k, i, f, a, cell, h1, h2, h3, h4, h5, h6, h7, h8, h9, h10⟩ := h
  obtain ⟨k', hi', he⟩ := State.fieldFound?_setVm hvm h2
  exact ⟨c, k', i, f, a, cell, by rw [hvm.findClass]; exact h1, hi', h3, by rw [he]; exact h4, h5, h6, h7, h8, by rw [he]; exact h9, h10⟩
theorem vx_L.kept {C n d : String} {A : Nat → Prop} {U : State} {H H1 : Heap} (h : vx_L C n d A U H) (hq : ∀ a : Nat, a < H.size → ¬ A a → H1[a]? = H[a]?) : vx_L C n d A U H1 := by
  obtain ⟨c, k, i, f, a, cell, h1, h2, h3, h4, h5, h6, h7, h8, h9, h10⟩ := h
  exact ⟨c, k, i, f, a, cell, h1, h2, h3, h4, by rw [hq a (Array.getElem?_eq_some_iff.mp h5).1 h10]; exact h5, h6, h7, h8, h9, h10⟩
theorem vx_L.narrow {C n d : String} {A B : Nat → Prop} {U : State} {H : Heap} (h : vx_L C n d A U H) (hAB : ∀ q, B q → A q) : vx_L C n d B U H := by
  obtain ⟨c, k, i, f, a, cell, h1, h2, h3, h4, h5, h6, h7, h8, h9, h10⟩ := h
  exact ⟨c, k, i, f, a, cell, h1, h2, h3, h4, h5, h6, h7, h8, h9, fun z => h10 (hAB _ z)⟩
theorem vx_L.word {C n d : String} {A : Nat → Prop} {s : State} {args : Array Value} (h : vx_L C n d A s s.heap) : (Cond.laysStatic C n d).before args s = true := by
  obtain ⟨c, k, i, f, a, cell, h1, h2, h3, h4, h5, h6, h7, h8, h9, -⟩ := h
  show (Cond.laysStatic C n d).holds args s none s [] = true
  exact Cond.laysStatic_of h1 h2 h3 h4 h5 h6 h7 h8 h9
/-- .. and what it holds: null or some reference -/
def vx_Zq (C n d : String) (A : Nat → Prop) (U : State) (H : Heap) : Prop := va_Zq C n d A U H ∧ vx_L C n d A U H
theorem vx_Zq.moved {C n d : String} {A : Nat → Prop} {u U : State} {H : Heap} (hvm : u.vm.Alike U.vm) (h : vx_Zq C n d A u H) : vx_Zq C n d A U H := ⟨va_Zq.moved hvm h.1, vx_L.moved hvm h.2⟩
theorem vx_Zq.kept {C n d : String} {A : Nat → Prop} {U : State} {H H1 : Heap} (h : vx_Zq C n d A U H) (hq : ∀ a : Nat, a < H.size → ¬ A a → H1[a]? = H[a]?) : vx_Zq C n d A U H1 := ⟨va_Zq.kept h.1 hq, vx_L.kept h.2 hq⟩
theorem vx_Zq.narrow {C n d : String} {A B : Nat → Prop} {U : State} {H : Heap} (h : vx_Zq C n d A U H) (hAB : ∀ q, B q → A q) : vx_Zq C n d B U H := ⟨va_Zq.narrow h.1 hAB, vx_L.narrow h.2 hAB⟩
theorem vx_Zqof {args : Array Value} {s : State} {C n d : String} {A : Nat → Prop} (hl : (Cond.laysStatic C n d).before args s = true) (hini : (Cond.initialized C).before args s = true) (h : (Cond.isRef (.static C n d)).before args s = true) (hA : ∀ a : Nat, a < s.heap.size → ¬ A a) : vx_Zq C n d A s s.heap := by
  refine ⟨va_Zqof hl hini h hA, ?_⟩
  obtain ⟨c, k, i, f, a, cell, h1, h2, h3, h4, h5, h6, h7, h8, h9⟩ := Cond.laysStatic_spec hl
  exact ⟨c, k, i, f, a, cell, h1, h2, h3, h4, h5, h6, h7, h8, h9, hA a (Array.getElem?_eq_some_iff.mp h5).1⟩
theorem vx_isRef {C n d : String} {v : Value} {A : Nat → Prop} {s : State} {args : Array Value} (h : va_Z C n d v A s s.heap) (hv : v.isRef = true) : (Cond.isRef (.static C n d)).before args s = true := by
  obtain ⟨cf, kf, fi, f, a, cell, h1, h2, h3, h4, h5, h6, h7, -⟩ := h
  have he : (Term.static C n d).eval args s none [] s = some v := by
    simp [Term.eval, State.fieldNamed?, h1, h2, h4, h5, h6, h7]
  simp only [Cond.before, Cond.holds, Cond.value, he]
  cases v <;> simp_all [Value.isRef]
theorem vx_isRefq {C n d : String} {A : Nat → Prop} {s : State} {args : Array Value} (h : va_Zq C n d A s s.heap) : (Cond.isRef (.static C n d)).before args s = true := by
  rcases h with h | ⟨t, h⟩
  · exact vx_isRef h rfl
  · exact vx_isRef h rfl
/-- the same frame, seen from here: as if the method were called anew in this heap -/
theorem vx_rebase {T : State} (X : Stand p l e R s m args below meth c T locs cells slots) {R' : Room} (hf : R'.frames ≤ R.frames) (hl : R'.locals ≤ R.locals) (hc : cells + R'.cells ≤ R.cells) (hs : slots + R'.slots ≤ R.slots) :
    Stand p l e R' ((T.setVm s.vm).setFrames (.invoking m args :: below)) m args below meth c T [] 0 0 := by
  have htop : (T.setVm s.vm).topJava?.isSome := X.here.top
  have hF : ((T.setVm s.vm).setFrames (.invoking m args :: below)).frames = .invoking m args :: below := State.frames_setFrames _ (State.cur_lt_of_top htop)
  obtain ⟨g₀, hg0⟩ := Option.isSome_iff_exists.mp htop
  obtain ⟨r, hr⟩ := State.topJava?_eq_some.mp hg0
  have hl9 : e.platform.stackLimits (T.setVm s.vm).me = e.platform.stackLimits s.me := X.limits
  have hb9 : (T.setVm s.vm).me.stackBytes = s.me.stackBytes := X.bytes
  refine ⟨X.admits, X.cas, X.clock, hF, ?_, X.hears, X.method, X.code, X.here, X.tail, X.warmed, ?_, ?_, ?_⟩
  · have h := X.room
    have hU : ((T.setVm s.vm).setFrames (.invoking m args :: below)).localsInUse = s.localsInUse := by
      rw [State.localsInUse_invoking hF (meth := meth) (c := c) X.method X.code, State.localsInUse_invoking X.frames X.method X.code]
    simp only [State.hasRoom, Bool.and_eq_true, decide_eq_true_eq] at h ⊢
    obtain ⟨⟨⟨⟨h1, h2, h3, h4, h5, h6⟩, h7⟩, h8⟩, h9⟩ := h
    rw [X.frames, List.length_cons] at h2 h3
    have q1 := X.heapSize
    have q2 := X.used
    simp only [hF, hU, List.length_cons, State.stackLimits_setFrames, State.stackBytes_setFrames, hl9, hb9]
    refine ⟨⟨⟨⟨by omega, by omega, by omega, by omega, by omega, h6⟩, ?_⟩, ?_⟩, X.book⟩
    · show T.heap.size + R'.cells ≤ e.platform.maxCells
      omega
    · show T.slotsUsed + R'.slots ≤ e.platform.maxSlots
      omega
  · rw [State.stackLimits_setFrames]; rfl
  · rw [State.stackBytes_setFrames]; rfl
  · refine ⟨?_, Nat.le_refl _, Nat.le_refl _, ?_, ?_, fun a c9 h9 => ⟨c9, h9, rfl, rfl, fun _ _ => rfl⟩⟩
    · obtain ⟨t, ht, -⟩ := State.frames_cons hr
      show T.setVm s.vm = { ((T.setVm s.vm).setFrames (.invoking m args :: below)).setFrames (T.setVm s.vm).frames with heap := T.heap, slotsUsed := T.slotsUsed }
      rw [State.setFrames_setFrames, State.setFrames_self ht]
      rfl
    · show T.slotsUsed = T.slotsUsed + ((T.heap.toList.drop T.heap.size).map (·.slots.size)).sum
      rw [List.drop_eq_nil_of_le (Nat.le_of_eq Array.length_toList)]
      rfl
    · show ((T.heap.toList.drop T.heap.size).map (·.slots.size)).sum ≤ 0
      rw [List.drop_eq_nil_of_le (Nat.le_of_eq Array.length_toList)]
      exact Nat.le_refl _
/-- 'throw new E()': new; dup; invokespecial; athrow -/
theorem vx_throw0 {cc : ByteArray} {pc : Nat} (hexec : p.tables.exec = Jvm.exec) (hb : c.code = cc) (hl : l.stackTraces = false) {own cls : String} {names : List String} {ik ic mc ms : Nat} {A : Nat → Prop}
    (hown : s.vm.findClass own = some m.cls) (hcls : Bundle.fit cls = true) (hnames : ∀ n ∈ names, Bundle.fit n = true)
    (hk : (Cond.classLink own ik cls).before args s = true) (hini : (Cond.initialized cls).before args s = true) (hat : ∀ w ∈ vx_at0 own ic cls names, w.before args s = true)
    (hgood : ∀ w ∈ Cond.classLink own ik cls :: Cond.initialized cls :: vx_at0 own ic cls names, vx_ot w = true)
    (hU : vx_Zq Bundle.tN "UNASSIGNED_STACK" Bundle.steD A s s.heap) (hN : vx_Zq Bundle.tN "SUPPRESSED_SENTINEL" Bundle.listD A s s.heap) (hS : va_S A s.heap H locs) (hsize : ls.size = c.maxLocals)
    (d0 : decode cc pc = .ok (.new ik, 3)) (d3 : decode cc (pc + 3) = .ok (.dup, 1)) (d4 : decode cc (pc + 4) = .ok (.invokespecial ic, 3)) (d7 : decode cc (pc + 7) = .ok (.athrow, 1))
    (hout : ∀ x ∈ c.exceptionTable.toList, covers x (pc + 7) = false)
    (hRframes : names.length + 3 < R.frames) (hRlocals : (rest.map fun v => v.category).sum + (13 * (names.length + 1) + 42) ≤ R.locals) (hRcells : cells + 1 ≤ R.cells) (hRslots : slots + 6 ≤ R.slots) (hlocks : meth.locks = false)
    (hx : ∀ t : State, s.vm.Alike t.vm → H.size ≤ t.heap.size → (∀ q : Nat, q < H.size → t.heap[q]? = H[q]?) → XC cls s t)
    (hf : ∀ z ∈ locs, free z.base) (hc : cells + 1 ≤ mc) (hs : slots + 6 ≤ ms) :
    W p l e R s m args below meth c H locs cells slots (vx_MQ below Qc XC args s mc ms free) (F0 m pc ls rest) := by
  intro T hT X
  have htr : e.platform.stackTraces = false := (show e.platform.stackTraces = l.stackTraces by rw [X.admits.platform]).trans hl
  have Y := vx_rebase X (R' := { frames := R.frames, locals := R.locals, cells := 1, slots := 6 }) (Nat.le_refl _) (Nat.le_refl _) hRcells hRslots
  obtain ⟨s', hA⟩ : ∃ z, z = (T.setVm s.vm).setFrames (.invoking m args :: below) := ⟨_, rfl⟩
  rw [← hA] at Y
  have hvm : s'.vm = s.vm := by rw [hA]; rfl
  have hhp : s'.heap = H := by rw [hA]; exact hT
  have hW0 : s.WarmedH s'.vm := by rw [hvm]; exact State.WarmedH.refl s
  have hat' : ∀ w ∈ vx_at0 own ic cls names, w.before args s' = true := fun w hw => vx_ot_at hW0 hvm.symm (hgood w (List.mem_cons_of_mem _ (List.mem_cons_of_mem _ hw))) (hat w hw)
  have hk' : (Cond.classLink own ik cls).before args s' = true := vx_ot_at hW0 hvm.symm (hgood _ List.mem_cons_self) hk
  have hini' : (Cond.initialized cls).before args s' = true := vx_ot_at hW0 hvm.symm (hgood _ (List.mem_cons_of_mem _ List.mem_cons_self)) hini
  have hU' : vx_Zq Bundle.tN "UNASSIGNED_STACK" Bundle.steD A s' s'.heap := by rw [hhp]; exact vx_Zq.moved hW0.alike (hU.kept hS.2.1)
  have hN' : vx_Zq Bundle.tN "SUPPRESSED_SENTINEL" Bundle.listD A s' s'.heap := by rw [hhp]; exact vx_Zq.moved hW0.alike (hN.kept hS.2.1)
  have h : ∀ w ∈ Bundle.ownAtoms0 own ic cls names, w.before args s' = true := vx_own hat' (vx_isRefq hU'.1) (vx_isRefq hN'.1) hU'.2.word hN'.2.word
  have hown' : s'.vm.findClass own = some m.cls := by rw [hvm]; exact hown
  have hins : (Cond.instantiable cls 6).before args s' = true := h _ (by simp [Bundle.ownAtoms0])
  obtain ⟨vm₁, cX, kX, hfX, hkX, -, -, X₁, st1⟩ := Y.newCold hexec (own := own) (C := cls) (index := ik) (n := 6) hown' hk' hins hini'
    (g := F0 m pc ls rest) rfl (by rw [hb]; exact d0) (Nat.le_refl _) (Nat.le_refl _)
  generalize hT1 : (T.setVm vm₁).pushCell { cls := cX, slots := kX.instanceTypes.map defaultValue, vm := .none } = T1 at X₁ st1
  have hcat : (Value.ref T.heap.size).category = 1 := rfl
  have hcellA : T1.heap[T.heap.size]? = some (freshCell cX kX) := by rw [← hT1]; exact State.heap_pushCell_size _ _
  have d3' : decode c.code (pc + 3) = .ok (.dup, 1) := by rw [hb]; exact d3
  obtain ⟨U, hsteps, hrun, hend, hW, hsame, ce, hce, hO⟩ := X₁.ctorThrow0 hexec htr (own := own) (cls := cls) (names := names) (ic := ic) hown' hcls hnames h (fun x hx => nomatch hx) hfX hkX hcellA (by rw [hhp, hT]; exact Nat.le_refl _)
    (g := { method := m, pc := pc + 4, locals := ls, stack := .ref T.heap.size :: .ref T.heap.size :: rest, locked := none }) rfl hsize rfl rfl (rest := rest) rfl
    (by rw [hb]; exact d4) (by rw [hb]; exact d7) hout hRframes (by simp only [List.map_cons, List.sum_cons, hcat]; omega) hlocks
  obtain ⟨f1, f2⟩ := vx_frame hsame
  rw [hhp] at f1 f2
  have hWs : s.WarmedH U.vm := State.WarmedH.trans hW0 hW
  have hcl : s.vm.findClass cls = some ce.cls := by
    have h9 := hO.cls
    rw [hvm] at h9
    exact h9
  have hall : s.sameButNew ({ U with vm := s.vm } : State) locs mc ms := by
    subst hA
    obtain ⟨e1, e2⟩ := hsame
    rw [State.setFrames_setFrames] at e1
    have h2 : (T.setVm s.vm).sameButNew ({ U with vm := s.vm } : State) [] (0 + 1) (0 + 6) := ⟨e1, e2⟩
    have h3 := X.same.trans h2
    rw [List.append_nil] at h3
    exact h3.mono hc hs
  refine ⟨U, ?_, .threw T.heap.size, hrun, hend, Or.inr ⟨T.heap.size, rfl, cls, ce, locs, hx U hWs.alike f1 (fun q hq => f2 q hq (fun z hz => nomatch hz)), hce, hO.vm, hcl, hWs, hall, hf⟩⟩
  refine st1 _ ?_
  show Steps p.tables e below (T1.setTop { method := m, pc := pc + 3, locals := ls, stack := .ref T.heap.size :: rest, locked := none }) _
  jvm_step X₁.here [X₁.here.top, hexec, d3', Value.category]
  exact hsteps
/-- 'throw new E("text")': new; dup; ldc; invokespecial; athrow -/
theorem vx_throwS {cc : ByteArray} {pc : Nat} (hexec : p.tables.exec = Jvm.exec) (hb : c.code = cc) (hl : l.stackTraces = false) {own cls text : String} {names : List String} {ik is ic mc ms sa : Nat} {A : Nat → Prop}
    (hown : s.vm.findClass own = some m.cls) (hcls : Bundle.fit cls = true) (hnames : ∀ n ∈ names, Bundle.fit n = true)
    (hk : (Cond.classLink own ik cls).before args s = true) (hini : (Cond.initialized cls).before args s = true) (hstr : vk_R own is text sa s) (hat : ∀ w ∈ vx_atS own ic cls names, w.before args s = true)
    (hgood : ∀ w ∈ Cond.classLink own ik cls :: Cond.initialized cls :: vx_atS own ic cls names, vx_ot w = true)
    (hU : vx_Zq Bundle.tN "UNASSIGNED_STACK" Bundle.steD A s s.heap) (hN : vx_Zq Bundle.tN "SUPPRESSED_SENTINEL" Bundle.listD A s s.heap) (hS : va_S A s.heap H locs) (hsize : ls.size = c.maxLocals)
    (d0 : decode cc pc = .ok (.new ik, 3)) (d3 : decode cc (pc + 3) = .ok (.dup, 1)) (d4 : decode cc (pc + 4) = .ok (.ldc is, 2)) (d6 : decode cc (pc + 6) = .ok (.invokespecial ic, 3)) (d9 : decode cc (pc + 9) = .ok (.athrow, 1))
    (hout : ∀ x ∈ c.exceptionTable.toList, covers x (pc + 9) = false)
    (hRframes : names.length + 3 < R.frames) (hRlocals : (rest.map fun v => v.category).sum + (13 * (names.length + 1) + 43) ≤ R.locals) (hRcells : cells + 1 ≤ R.cells) (hRslots : slots + 6 ≤ R.slots) (hlocks : meth.locks = false)
    (hx : ∀ t : State, s.vm.Alike t.vm → H.size ≤ t.heap.size → (∀ q : Nat, q < H.size → t.heap[q]? = H[q]?) → XC cls s t)
    (hf : ∀ z ∈ locs, free z.base) (hc : cells + 1 ≤ mc) (hs : slots + 6 ≤ ms) :
    W p l e R s m args below meth c H locs cells slots (vx_MQ below Qc XC args s mc ms free) (F0 m pc ls rest) := by
  intro T hT X
  have htr : e.platform.stackTraces = false := (show e.platform.stackTraces = l.stackTraces by rw [X.admits.platform]).trans hl
  have Y := vx_rebase X (R' := { frames := R.frames, locals := R.locals, cells := 1, slots := 6 }) (Nat.le_refl _) (Nat.le_refl _) hRcells hRslots
  obtain ⟨s', hA⟩ : ∃ z, z = (T.setVm s.vm).setFrames (.invoking m args :: below) := ⟨_, rfl⟩
  rw [← hA] at Y
  have hvm : s'.vm = s.vm := by rw [hA]; rfl
  have hhp : s'.heap = H := by rw [hA]; exact hT
  have hW0 : s.WarmedH s'.vm := by rw [hvm]; exact State.WarmedH.refl s
  have hat' : ∀ w ∈ vx_atS own ic cls names, w.before args s' = true := fun w hw => vx_ot_at hW0 hvm.symm (hgood w (List.mem_cons_of_mem _ (List.mem_cons_of_mem _ hw))) (hat w hw)
  have hk' : (Cond.classLink own ik cls).before args s' = true := vx_ot_at hW0 hvm.symm (hgood _ List.mem_cons_self) hk
  have hini' : (Cond.initialized cls).before args s' = true := vx_ot_at hW0 hvm.symm (hgood _ (List.mem_cons_of_mem _ List.mem_cons_self)) hini
  have hU' : vx_Zq Bundle.tN "UNASSIGNED_STACK" Bundle.steD A s' s'.heap := by rw [hhp]; exact vx_Zq.moved hW0.alike (hU.kept hS.2.1)
  have hN' : vx_Zq Bundle.tN "SUPPRESSED_SENTINEL" Bundle.listD A s' s'.heap := by rw [hhp]; exact vx_Zq.moved hW0.alike (hN.kept hS.2.1)
  have h : ∀ w ∈ Bundle.ownAtoms own ic cls names, w.before args s' = true := vx_own hat' (vx_isRefq hU'.1) (vx_isRefq hN'.1) hU'.2.word hN'.2.word
  have hown' : s'.vm.findClass own = some m.cls := by rw [hvm]; exact hown
  have hins : (Cond.instantiable cls 6).before args s' = true := h _ (by simp [Bundle.ownAtoms])
  obtain ⟨vm₁, cX, kX, hfX, hkX, -, -, X₁, st1⟩ := Y.newCold hexec (own := own) (C := cls) (index := ik) (n := 6) hown' hk' hins hini'
    (g := F0 m pc ls rest) rfl (by rw [hb]; exact d0) (Nat.le_refl _) (Nat.le_refl _)
  generalize hT1 : (T.setVm vm₁).pushCell { cls := cX, slots := kX.instanceTypes.map defaultValue, vm := .none } = T1 at X₁ st1
  have hcat : (Value.ref T.heap.size).category = 1 := rfl
  have hcellA : T1.heap[T.heap.size]? = some (freshCell cX kX) := by rw [← hT1]; exact State.heap_pushCell_size _ _
  have d3' : decode c.code (pc + 3) = .ok (.dup, 1) := by rw [hb]; exact d3
  have d4' : decode c.code (pc + 4) = .ok (.ldc is, 2) := by rw [hb]; exact d4
  have hstr' : vk_R own is text sa s' := vk_R.warm hW0 hstr
  obtain ⟨U, hsteps, hrun, hend, hW, hsame, ce, hce, hO⟩ := X₁.ctorThrowS hexec htr (own := own) (cls := cls) (names := names) (ic := ic) hown' hcls hnames h (fun x hx => nomatch hx) hfX hkX hcellA (by rw [hhp, hT]; exact Nat.le_refl _) (msg := .ref sa) rfl
    (g := { method := m, pc := pc + 6, locals := ls, stack := .ref sa :: .ref T.heap.size :: .ref T.heap.size :: rest, locked := none }) rfl hsize rfl rfl (rest := rest) rfl
    (by rw [hb]; exact d6) (by rw [hb]; exact d9) hout hRframes (by simp only [List.map_cons, List.sum_cons, hcat]; omega) hlocks
  obtain ⟨f1, f2⟩ := vx_frame hsame
  rw [hhp] at f1 f2
  have hWs : s.WarmedH U.vm := State.WarmedH.trans hW0 hW
  have hcl : s.vm.findClass cls = some ce.cls := by
    have h9 := hO.cls
    rw [hvm] at h9
    exact h9
  have hall : s.sameButNew ({ U with vm := s.vm } : State) locs mc ms := by
    subst hA
    obtain ⟨e1, e2⟩ := hsame
    rw [State.setFrames_setFrames] at e1
    have h2 : (T.setVm s.vm).sameButNew ({ U with vm := s.vm } : State) [] (0 + 1) (0 + 6) := ⟨e1, e2⟩
    have h3 := X.same.trans h2
    rw [List.append_nil] at h3
    exact h3.mono hc hs
  refine ⟨U, ?_, .threw T.heap.size, hrun, hend, Or.inr ⟨T.heap.size, rfl, cls, ce, locs, hx U hWs.alike f1 (fun q hq => f2 q hq (fun z hz => nomatch hz)), hce, hO.vm, hcl, hWs, hall, hf⟩⟩
  refine st1 _ ?_
  show Steps p.tables e below (T1.setTop { method := m, pc := pc + 3, locals := ls, stack := .ref T.heap.size :: rest, locked := none }) _
  jvm_step X₁.here [X₁.here.top, hexec, d3', Value.category]
  exact X₁.ldcString hexec (own := own) (text := text) (index := is) (a := sa) hown' hstr'.1 hstr'.2
    (g := { method := m, pc := pc + 4, locals := ls, stack := .ref T.heap.size :: .ref T.heap.size :: rest, locked := none }) rfl d4' _ hsteps
/-- 'throw new E("text")', the text by a wide index -/
theorem vx_throwSW {cc : ByteArray} {pc : Nat} (hexec : p.tables.exec = Jvm.exec) (hb : c.code = cc) (hl : l.stackTraces = false) {own cls text : String} {names : List String} {ik is ic mc ms sa : Nat} {A : Nat → Prop}
    (hown : s.vm.findClass own = some m.cls) (hcls : Bundle.fit cls = true) (hnames : ∀ n ∈ names, Bundle.fit n = true)
    (hk : (Cond.classLink own ik cls).before args s = true) (hini : (Cond.initialized cls).before args s = true) (hstr : vk_R own is text sa s) (hat : ∀ w ∈ vx_atS own ic cls names, w.before args s = true)
    (hgood : ∀ w ∈ Cond.classLink own ik cls :: Cond.initialized cls :: vx_atS own ic cls names, vx_ot w = true)
    (hU : vx_Zq Bundle.tN "UNASSIGNED_STACK" Bundle.steD A s s.heap) (hN : vx_Zq Bundle.tN "SUPPRESSED_SENTINEL" Bundle.listD A s s.heap) (hS : va_S A s.heap H locs) (hsize : ls.size = c.maxLocals)
    (d0 : decode cc pc = .ok (.new ik, 3)) (d3 : decode cc (pc + 3) = .ok (.dup, 1)) (d4 : decode cc (pc + 4) = .ok (.ldc_w is, 3)) (d7 : decode cc (pc + 7) = .ok (.invokespecial ic, 3)) (d10 : decode cc (pc + 10) = .ok (.athrow, 1))
    (hout : ∀ x ∈ c.exceptionTable.toList, covers x (pc + 10) = false)
    (hRframes : names.length + 3 < R.frames) (hRlocals : (rest.map fun v => v.category).sum + (13 * (names.length + 1) + 43) ≤ R.locals) (hRcells : cells + 1 ≤ R.cells) (hRslots : slots + 6 ≤ R.slots) (hlocks : meth.locks = false)
    (hx : ∀ t : State, s.vm.Alike t.vm → H.size ≤ t.heap.size → (∀ q : Nat, q < H.size → t.heap[q]? = H[q]?) → XC cls s t)
    (hf : ∀ z ∈ locs, free z.base) (hc : cells + 1 ≤ mc) (hs : slots + 6 ≤ ms) :
    W p l e R s m args below meth c H locs cells slots (vx_MQ below Qc XC args s mc ms free) (F0 m pc ls rest) := by
  intro T hT X
  have htr : e.platform.stackTraces = false := (show e.platform.stackTraces = l.stackTraces by rw [X.admits.platform]).trans hl
  have Y := vx_rebase X (R' := { frames := R.frames, locals := R.locals, cells := 1, slots := 6 }) (Nat.le_refl _) (Nat.le_refl _) hRcells hRslots
  obtain ⟨s', hA⟩ : ∃ z, z = (T.setVm s.vm).setFrames (.invoking m args :: below) := ⟨_, rfl⟩
  rw [← hA] at Y
  have hvm : s'.vm = s.vm := by rw [hA]; rfl
  have hhp : s'.heap = H := by rw [hA]; exact hT
  have hW0 : s.WarmedH s'.vm := by rw [hvm]; exact State.WarmedH.refl s
  have hat' : ∀ w ∈ vx_atS own ic cls names, w.before args s' = true := fun w hw => vx_ot_at hW0 hvm.symm (hgood w (List.mem_cons_of_mem _ (List.mem_cons_of_mem _ hw))) (hat w hw)
  have hk' : (Cond.classLink own ik cls).before args s' = true := vx_ot_at hW0 hvm.symm (hgood _ List.mem_cons_self) hk
  have hini' : (Cond.initialized cls).before args s' = true := vx_ot_at hW0 hvm.symm (hgood _ (List.mem_cons_of_mem _ List.mem_cons_self)) hini
  have hU' : vx_Zq Bundle.tN "UNASSIGNED_STACK" Bundle.steD A s' s'.heap := by rw [hhp]; exact vx_Zq.moved hW0.alike (hU.kept hS.2.1)
  have hN' : vx_Zq Bundle.tN "SUPPRESSED_SENTINEL" Bundle.listD A s' s'.heap := by rw [hhp]; exact vx_Zq.moved hW0.alike (hN.kept hS.2.1)
  have h : ∀ w ∈ Bundle.ownAtoms own ic cls names, w.before args s' = true := vx_own hat' (vx_isRefq hU'.1) (vx_isRefq hN'.1) hU'.2.word hN'.2.word
  have hown' : s'.vm.findClass own = some m.cls := by rw [hvm]; exact hown
  have hins : (Cond.instantiable cls 6).before args s' = true := h _ (by simp [Bundle.ownAtoms])
  obtain ⟨vm₁, cX, kX, hfX, hkX, -, -, X₁, st1⟩ := Y.newCold hexec (own := own) (C := cls) (index := ik) (n := 6) hown' hk' hins hini'
    (g := F0 m pc ls rest) rfl (by rw [hb]; exact d0) (Nat.le_refl _) (Nat.le_refl _)
  generalize hT1 : (T.setVm vm₁).pushCell { cls := cX, slots := kX.instanceTypes.map defaultValue, vm := .none } = T1 at X₁ st1
  have hcat : (Value.ref T.heap.size).category = 1 := rfl
  have hcellA : T1.heap[T.heap.size]? = some (freshCell cX kX) := by rw [← hT1]; exact State.heap_pushCell_size _ _
  have d3' : decode c.code (pc + 3) = .ok (.dup, 1) := by rw [hb]; exact d3
  have d4' : decode c.code (pc + 4) = .ok (.ldc_w is, 3) := by rw [hb]; exact d4
  have hstr' : vk_R own is text sa s' := vk_R.warm hW0 hstr
  obtain ⟨U, hsteps, hrun, hend, hW, hsame, ce, hce, hO⟩ := X₁.ctorThrowS hexec htr (own := own) (cls := cls) (names := names) (ic := ic) hown' hcls hnames h (fun x hx => nomatch hx) hfX hkX hcellA (by rw [hhp, hT]; exact Nat.le_refl _) (msg := .ref sa) rfl
    (g := { method := m, pc := pc + 7, locals := ls, stack := .ref sa :: .ref T.heap.size :: .ref T.heap.size :: rest, locked := none }) rfl hsize rfl rfl (rest := rest) rfl
    (by rw [hb]; exact d7) (by rw [hb]; exact d10) hout hRframes (by simp only [List.map_cons, List.sum_cons, hcat]; omega) hlocks
  obtain ⟨f1, f2⟩ := vx_frame hsame
  rw [hhp] at f1 f2
  have hWs : s.WarmedH U.vm := State.WarmedH.trans hW0 hW
  have hcl : s.vm.findClass cls = some ce.cls := by
    have h9 := hO.cls
    rw [hvm] at h9
    exact h9
  have hall : s.sameButNew ({ U with vm := s.vm } : State) locs mc ms := by
    subst hA
    obtain ⟨e1, e2⟩ := hsame
    rw [State.setFrames_setFrames] at e1
    have h2 : (T.setVm s.vm).sameButNew ({ U with vm := s.vm } : State) [] (0 + 1) (0 + 6) := ⟨e1, e2⟩
    have h3 := X.same.trans h2
    rw [List.append_nil] at h3
    exact h3.mono hc hs
  refine ⟨U, ?_, .threw T.heap.size, hrun, hend, Or.inr ⟨T.heap.size, rfl, cls, ce, locs, hx U hWs.alike f1 (fun q hq => f2 q hq (fun z hz => nomatch hz)), hce, hO.vm, hcl, hWs, hall, hf⟩⟩
  refine st1 _ ?_
  show Steps p.tables e below (T1.setTop { method := m, pc := pc + 3, locals := ls, stack := .ref T.heap.size :: rest, locked := none }) _
  jvm_step X₁.here [X₁.here.top, hexec, d3', Value.category]
  exact X₁.ldcStringW hexec (own := own) (text := text) (index := is) (a := sa) hown' hstr'.1 hstr'.2
    (g := { method := m, pc := pc + 4, locals := ls, stack := .ref T.heap.size :: .ref T.heap.size :: rest, locked := none }) rfl d4' _ hsteps
end Ends
section Bodies
variable {l : Launch}
theorem vx_ofW {y : MethodName} {ws ws' : List Cond} {rm : Room} {Pc : Array Value → State → Prop} {Qc : Array Value → State → Outcome → State → Prop} {XC : String → State → State → Prop} {mc ms : Nat} {free : Addr → Prop} {cc : ByteArray} {maxL : Nat} {ret : Option FieldType}
    (hy : plainName y.cls = true) (hw : ws = Cond.code y cc maxL ret :: ws')
    (body : ∀ p e s m args below meth c s₁, BodyLoose p l y (headSpec ws rm) cc maxL ret e s m args below meth c s₁ → c.maxLocals = maxL → (∀ x ∈ c.exceptionTable.toList, False) → Pc args s →
      W p l e (headSpec ws rm).room s m args below meth c s.heap [] 0 0 (vx_MQ below Qc XC args s mc ms free) (entryFrame m args maxL)) : vx_Met l y ws rm Pc Qc XC mc ms free := by
  refine MetFree.of_bodyS (code := cc) (maxLocals := maxL) (ret := ret) hy ?_ ?_
  · intro args s m h hn
    obtain ⟨meth, c, h1, h2, h3, h4, h5, h6, -, -⟩ := Cond.code_spec hn (atoms_spec (ws := ws) h _ (by rw [hw]; exact List.mem_cons_self))
    exact ⟨meth, c, h1, h2, h3, h4, h5, h6⟩
  · intro p e s m args below meth c s₁ B hml hP _
    have hh0 : s₁.heap = s.heap := by rw [B.state]; rfl
    have ht : ∀ x ∈ c.exceptionTable.toList, False := by
      obtain ⟨meth9, c9, h1, h2, -, -, -, -, h7, -⟩ := Cond.code_spec B.named (atoms_spec (ws := ws) B.pre _ (by rw [hw]; exact List.mem_cons_self))
      cases Option.some.inj (h1.symm.trans B.method)
      cases Option.some.inj (h2.symm.trans (Stand.of_body B).code)
      intro x hx
      rw [Array.isEmpty_iff.mp h7] at hx
      cases hx
    obtain ⟨t, a1, o, b1, b2, b3⟩ := body p e s m args below meth c s₁ B hml ht hP s₁ hh0 (Stand.of_body B)
    exact ⟨t, o, a1, b1, b2, b3⟩
/-- the table of a body with handlers -/
theorem vx_table {p : Program} {x y : MethodName} {S : Spec} {cc bytes : ByteArray} {maxL maxL' : Nat} {ret ret' : Option FieldType} {e : Env} {s s₁ : State} {m : MethodId} {args : Array Value} {below : List Frame} {meth : Method} {c : Code} {hh : List (Nat × Nat × Nat × Nat)}
    (B : BodyLoose p l y S cc maxL ret e s m args below meth c s₁) (h : (Cond.codeWith y bytes maxL' ret' hh).before args s = true) : c.exceptionTable.toList = tableOf hh := by
  obtain ⟨m9, meth9, c9, hn9, h1, h2, -, -, h6, -⟩ := Cond.codeWith_spec h
  cases Option.some.inj (hn9.symm.trans B.named)
  cases Option.some.inj (h1.symm.trans B.method)
  cases Option.some.inj (h2.symm.trans (Stand.of_body B).code)
  rw [← h6, table_eq]
end Bodies
end VXA
/-! ===== END ===== -/
/-! ===== BEGIN a static call of a method with an exception table ===== -/
section VXS
variable {p : Program} {l : Launch} {e : Env} {R : Room} {s : State} {m : MethodId} {args : Array Value} {below : List Frame} {meth : Method} {c : Code} {T : State} {H : Heap} {locs : List Loc} {cells slots : Nat}
abbrev vx_CSW (R : Room) (s : State) (args : Array Value) (own : String) (index : Nat) (y : MethodName) (bytes : ByteArray) (maxL : Nat) (ret : Option FieldType) (hh : List (Nat × Nat × Nat × Nat)) (ws : List Cond) (rm : Room) (mc ms n : Nat) : Prop :=
  (rm.cells = mc ∧ rm.slots = ms ∧ rm.frames + 1 ≤ R.frames ∧ 8 + (maxL + 11) + rm.locals ≤ R.locals ∧ (∀ w ∈ ws, ∀ (a' : Array Value) (U : State), s.WarmedH U.vm → w.before a' U = true) ∧ Cond.codeWith y bytes maxL ret hh ∈ ws) ∧
  (Cond.codeWith y bytes maxL ret hh).before args s = true ∧ (Cond.initialized y.cls).before args s = true ∧ (y.cls ≠ "java/lang/invoke/MethodHandle" ∧ y.cls ≠ "java/lang/invoke/VarHandle") ∧
  (∀ sig, parseMethodDescriptor y.desc = some sig → n = sig.parameters.length) ∧ (Cond.methodLink own index y).before args s = true ∧ (Cond.static y).before args s = true
theorem vx_cwSW {own : String} {index maxL mc ms : Nat} {y : MethodName} {bytes : ByteArray} {ret : Option FieldType} {hh : List (Nat × Nat × Nat × Nat)} {Ts ws ws' : List Cond} {rm : Room} (n : Nat) (ht : ∀ w ∈ Ts, w.before args s = true) (hT : GoodIn Ts (va_wsS own index y ws)) (hw : ws = Cond.codeWith y bytes maxL ret hh :: ws') (hrc : rm.cells = mc) (hrs : rm.slots = ms)
    (hd : y.cls ≠ "java/lang/invoke/MethodHandle" ∧ y.cls ≠ "java/lang/invoke/VarHandle" ∧ (parseMethodDescriptor y.desc).map (fun d => d.parameters.length) = some n) (hR : rm.frames + 1 ≤ R.frames ∧ 8 + (maxL + 11) + rm.locals ≤ R.locals) :
    vx_CSW R s args own index y bytes maxL ret hh ws rm mc ms n := by
  have ok : ∀ w ∈ va_wsS own index y ws, w.before args s = true := fun w h => ht w (hT w h).1
  have hG : GoodIn Ts ws := fun w h => hT w (by unfold va_wsS; exact List.mem_append_right _ h)
  have hc : Cond.codeWith y bytes maxL ret hh ∈ ws := by rw [hw]; exact List.mem_cons_self
  refine ⟨⟨hrc, hrs, hR.1, hR.2, pay_in ht hG, hc⟩, ht _ (hG _ hc).1, ok _ (by simp [va_wsS]), ⟨hd.1, hd.2.1⟩, fun sig h => ?_, ok _ (by simp [va_wsS]), ok _ (by simp [va_wsS])⟩
  have h2 := hd.2.2
  rw [h] at h2
  exact (Option.some.inj h2).symm
theorem vx_callSW (X : Stand p l e R s m args below meth c T locs cells slots) (hexec : p.tables.exec = Jvm.exec) {own : String} {index : Nat} {y : MethodName} {bytes : ByteArray} {maxL : Nat} {ret : Option FieldType} {hh : List (Nat × Nat × Nat × Nat)}
    (hown : s.vm.findClass own = some m.cls) (hlink : (Cond.methodLink own index y).before args s = true) (hstat : (Cond.static y).before args s = true) (hinit : (Cond.initialized y.cls).before args s = true)
    (hcode : (Cond.codeWith y bytes maxL ret hh).before args s = true) (hy : y.cls ≠ "java/lang/invoke/MethodHandle" ∧ y.cls ≠ "java/lang/invoke/VarHandle")
    {W9 : Nat} {Pre : Pt → Array Value → Prop} {Post : Pt → Array Value → Option Value → Pt → Prop} (hK : Back l R p e below s args y 3 W9 Pre Post)
    {g : JFrame} (hg : g.method = m) (hsize : g.locals.size = c.maxLocals) {argsL rest : List Value} (hlen : ∀ sig, parseMethodDescriptor y.desc = some sig → argsL.length = sig.parameters.length)
    (hstack : g.stack = argsL.reverse ++ rest) (hW : 2 * g.monitorRoom + (rest.map fun v => v.category).sum ≤ W9) (hdg : decode c.code g.pc = .ok (.invokestatic index, 3))
    (hpre : ∀ vm₁, s.WarmedH vm₁ → Pre ⟨T.setVm vm₁, locs, cells, slots⟩ argsL.toArray) :
    ∃ (v : Option Value) (vm₁ : Vm) (B : Pt), s.WarmedH vm₁ ∧ Stand p l e R s m args below meth c B.U B.locs B.cells B.slots ∧ Post ⟨T.setVm vm₁, locs, cells, slots⟩ argsL.toArray v B ∧
      ∀ target, Steps p.tables e below (B.U.setTop { g with pc := g.pc + 3, stack := v.toList ++ rest }) target → Steps p.tables e below (T.setTop g) target := by
  obtain ⟨mk, methM, cM, hnamed, hmethM, -, -, -, -, -, -, hsigM⟩ := Cond.codeWith_spec hcode
  have hstatic : methM.isStatic = true := Cond.static_spec hnamed hmethM hstat
  obtain ⟨kP, hkP, -⟩ := className_of_methodNamed hnamed
  have hinitP : kP.init = .initialized := Cond.initialized_spec (findClass_of_methodNamed hnamed) hkP hinit
  obtain ⟨vm₁, X₁, hstep₁⟩ := X.invokestatic hexec hown hlink hnamed hmethM hstatic hkP hinitP hy (g := g) hg (argsL := argsL) (rest := rest) (hlen _ hsigM) hstack hdg
  obtain ⟨v, B, X', hpost, hsteps⟩ := hK m meth c ⟨T.setVm vm₁, locs, cells, slots⟩ { g with stack := rest } (.invokestatic index) mk argsL.toArray X₁ hg hsize hdg hW (X₁.named hnamed) (hpre vm₁ X₁.warmed)
  exact ⟨v, vm₁, B, X₁.warmed, X', hpost, fun target h => hstep₁ _ fun acts => by rw [doInvoke_state]; exact hsteps.trans h⟩
theorem vx_runSW {y : MethodName} {bytes cc : ByteArray} {maxL nL mc ms n index : Nat} {ret : Option FieldType} {hh : List (Nat × Nat × Nat × Nat)} {ws : List Cond} {rm : Room} {Pc : Array Value → State → Prop} {Qc : Array Value → State → Outcome → State → Prop} {free : Addr → Prop} {Ts : List Cond} {own : String} {As rest : List Value} {g : JFrame}
    (S : CallFix p m c cc nL s args Ts own) (hM : Met l y ws rm Pc Qc mc ms free) (cw : vx_CSW R s args own index y bytes maxL ret hh ws rm mc ms n) (hp : PreS s H Pc As)
    (hg : g.method = m) (hn : As.length = n) (hsize : g.locals.size = nL) (hstack : g.stack = As.reverse ++ rest) (hW : 2 * g.monitorRoom + (rest.map fun v => v.category).sum ≤ 8) (hdg : decode cc g.pc = .ok (.invokestatic index, 3)) (hf : cells + mc ≤ R.cells ∧ slots + ms ≤ R.slots) :
    va_Run p l e R s m args below meth c H locs cells slots mc ms g rest (Qc As.toArray) (free) := by
  obtain ⟨⟨hrc, hrs, hfr, hlo, hws, hcw⟩, hcode, hini, hy, hlen, hl, hstt⟩ := cw
  have hK : Back l R p e below s args y 3 8 (PreOf R mc ms Pc) (PostOf Qc mc ms free) := va_backW (hh := hh) (bytes := bytes) (maxL := maxL) (ret := ret) hM hp.1 hrc hrs hfr hlo hws hcw (fun a' U hW => word_at hW (Or.inl (by first | rfl | simp [Cond.onTables, Cond.keeps, Cond.steady])) hini)
  obtain ⟨hx, hb, hml, ho, -⟩ := S
  intro T hT X
  obtain ⟨v, vm₁, ⟨U', l2, c2, s2⟩, hW₁, X', ⟨g', mk, t, L, e1, e2, hq, h1, hL, h2, h3⟩, st⟩ := vx_callSW X hx (hh := hh) (bytes := bytes) (maxL := maxL) (ret := ret) ho hl hstt hini hcode hy hK hg (hsize.trans hml.symm) (argsL := As) (rest := rest) (fun sig h => hn.trans (hlen sig h)) hstack hW (by rw [hb]; exact hdg)
    (fun vm₁ hW₁ => ⟨hf.1, hf.2, hp.2 (T.setVm vm₁) hT hW₁⟩)
  dsimp only [Pt.U, Pt.locs, Pt.cells, Pt.slots] at X' e1 e2 h1 h2 h3 st
  subst h1; subst h2; subst h3
  exact ⟨v, (T.setVm vm₁).calling g' mk As.toArray, t, U', L, hT, X', hL, e1, e2, hq, st⟩
/-- not caught here, past rows that name other classes: it goes on to the caller -/
theorem vx_outP {p : Program} {l : Launch} {e : Env} {R : Room} {s : State} {m : MethodId} {args : Array Value} {below : List Frame} {meth : Method} {c : Code} {H : Heap} {locs : List Loc} {cells slots : Nat} {free : Addr → Prop} {ls : Array Slot} {rest : List Value} {Qc : Array Value → State → Outcome → State → Prop} {XC : String → State → State → Prop}
    {pc : Nat} {own E : String} {ce : Cell} {q : Addr} {mc ms : Nat} (hown : s.vm.findClass own = some m.cls) (hlocks : meth.locks = false)
    (hpass : ∀ z ∈ c.exceptionTable.toList, covers z pc = false ∨ (z.catchType ≠ 0 ∧ ∃ nm : String, (Cond.classLink own z.catchType nm).before args s = true ∧ va_Nc E nm s)) (hcell : H[q]? = some ce) (hv : ce.vm = .none) (hcl : s.vm.findClass E = some ce.cls)
    (hx : ∀ t : State, t.heap = H → s.vm.Alike t.vm → XC E s t) (hf : ∀ z ∈ locs, free z.base) (hc : cells ≤ mc) (hs : slots ≤ ms) :
    vx_W p l e R s m args below meth c H locs cells slots (vx_MQ below Qc XC args s mc ms free) (F0 m pc ls rest) q := by
  intro T hT X
  have hpl : e.platform.magicAccessors = ({} : Platform).magicAccessors := by rw [X.admits.platform]
  obtain ⟨vm', hW', X', st⟩ := X.outThrough hlocks q (g := F0 m pc ls rest) rfl rfl rfl (cell := ce) (by rw [hT]; exact hcell) (by rw [hv]; rfl)
    (by obtain ⟨k9, h9, -⟩ := Vm.findClass_spec hcl; exact ⟨k9, h9⟩) (fun z hz => by
      rcases hpass z hz with h | ⟨hz0, nm, hl1, hn1⟩
      · exact Or.inl h
      · obtain ⟨c6, hc6, hcl6⟩ := Cond.classLink_spec hown hl1 e.platform hpl
        obtain ⟨a8, b8, h1, h2, h3⟩ := hn1
        cases Option.some.inj (h1.symm.trans hcl)
        cases Option.some.inj (h2.symm.trans hc6)
        exact Or.inr ⟨hz0, _, hcl6, h3⟩)
  obtain ⟨g₀, hfr⟩ := X'.frames_eq
  have hcell9 : ((T.setVm vm').setFrames (.throwing q :: below)).heap[q]? = some ce := by
    show T.heap[q]? = some ce
    rw [hT]; exact hcell
  have hend : Ended ((T.setVm vm').setFrames (.throwing q :: below)) below (.threw q) := State.frames_setFrames _ (State.cur_lt_of_frames hfr)
  refine ⟨(T.setVm vm').setFrames (.throwing q :: below), ?_, .threw q, X'.here.running, hend, Or.inr ⟨q, rfl, E, ce, locs, hx _ hT (X'.ends _).1.alike, hcell9, hv, hcl, (X'.ends _).1, (X'.ends _).2.mono hc hs, hf⟩⟩
  rw [X.pushThrowing_eq]
  exact st
/-- a thing of a world lies in the heap -/
theorem vx_lt {D : va_G} {cl : List vw_C} {ws : va_W} {H1 : Heap} (h : va_P D cl ws H1) {k : Nat} {q : Nat × va_E} (hk : ws[k]? = some q) : q.1 < H1.size := (h k q hk).lt
end VXS
/-! ===== END ===== -/
/-! ===== BEGIN methods with a table of their own: called by a name, returning or throwing ===== -/
section VXH
/-! vx_backW, vx_callVX, vx_callSX, vx_callVW, vx_runVW, vx_runVX, vx_runSX, vx_ofWH follow the same proofs as their sisters above (Free/Laws.lean, Shelf42/LK1.lean); vx_outP calls Shelf42/NT130.lean (outThrough). -/
section
variable {l : Launch} {R : Room} {p : Program} {e : Env} {below : List Frame} {s : State} {sargs : Array Value} {y : MethodName} {len W9 : Nat}
theorem vx_backW {ws : List Cond} {rm : Room} {Pc : Array Value → State → Prop} {Qc : Array Value → State → Outcome → State → Prop} {XC : String → State → State → Prop} {mc ms : Nat} {free : Addr → Prop} {bytes : ByteArray} {maxL : Nat} {ret : Option FieldType} {hh : List (Nat × Nat × Nat × Nat)}
    (hM : vx_Met l y ws rm Pc Qc XC mc ms free) (hblind : FrameBlind Pc) (hrc : rm.cells = mc) (hrs : rm.slots = ms)
    (hframes : rm.frames + 1 ≤ R.frames) (hlocals : W9 + (maxL + 11) + rm.locals ≤ R.locals)
    (hws : ∀ w ∈ ws, ∀ a' U, s.WarmedH U.vm → w.before a' U = true) (hcode : Cond.codeWith y bytes maxL ret hh ∈ ws) (hinit : ∀ a' U, s.WarmedH U.vm → (Cond.initialized y.cls).before a' U = true) :
    vx_Back l R p e below s sargs y len W9 (PreOf R mc ms Pc) (PostOf Qc mc ms free) (vx_Post XC mc ms free) := by
  intro m meth c A g ig mk a X hg hsize hdg hW hn hp
  have h1 : (headSpec ws rm).pre.before a A.U = true := atoms_intro fun w hw => hws w hw _ _ X.warmed
  have h2 : (Cond.codeWith y bytes maxL ret hh).before a A.U = true := hws _ hcode _ _ X.warmed
  have h3 : (Cond.initialized y.cls).before a A.U = true := hinit _ _ X.warmed
  have h4 : A.cells + (headSpec ws rm).room.cells ≤ R.cells := by rw [show (headSpec ws rm).room.cells = mc from hrc]; exact hp.1
  have h5 : A.slots + (headSpec ws rm).room.slots ≤ R.slots := by rw [show (headSpec ws rm).room.slots = ms from hrs]; exact hp.2.1
  have hPc : Pc a (A.U.calling g mk a) := hblind _ _ _ _ hp.2.2
  obtain ⟨U, Ls, c0, s0⟩ := A
  dsimp only [Pt.U, Pt.locs, Pt.cells, Pt.slots] at h1 h2 h3 h4 h5 X hn hPc ⊢
  obtain ⟨m9, methY, cY, hn9, hmY, hcY, -, hlY, -⟩ := Cond.codeWith_spec h2
  cases Option.some.inj (hn9.symm.trans hn)
  obtain ⟨kY, hkY, -⟩ := className_of_methodNamed hn
  have hinitY : kY.init = .initialized := Cond.initialized_spec (findClass_of_methodNamed hn) hkY h3
  have h : At U g.method c below := by rw [hg]; exact X.here
  have hlocals9 : W9 + (maxL + 11) + (headSpec ws rm).room.locals ≤ R.locals := hlocals
  have happ : (headSpec ws rm).appliesLoose y e.platform (U.calling g mk a) = true :=
    Spec.appliesLoose_calling (g := g) h hdg hn hkY hinitY
      (X.room_calling (g := g) (R' := (headSpec ws rm).room) hsize hmY hcY hframes (by rw [hlY]; omega) h4 h5) h1
  obtain ⟨mid, hmid⟩ := h.above
  have hfr : (U.setTop g).frames = (.java g :: mid) ++ below := by rw [State.frames_setTop' g h.top, hmid]; rfl
  obtain ⟨o, s₂, hsteps, -, hend, hq⟩ := Steps.callFree hM p X.admits X.cas X.clock (acts := []) hfr happ hPc trivial
  have hq' : vx_Q Qc XC mc ms free a (U.calling g mk a) o s₂ := hq
  rw [State.frames_setTop' g h.top] at hend
  obtain ⟨g₀, hg0⟩ := Option.isSome_iff_exists.mp h.top
  obtain ⟨r, hr⟩ := State.topJava?_eq_some.mp hg0
  have hr' : (({ U with heap := s₂.heap, slotsUsed := s₂.slotsUsed } : State).setVm s₂.vm).frames = .java g₀ :: r := hr
  rcases hq' with ⟨hqc, L, hfe, hL⟩ | ⟨q, rfl, E, ce, L, hx, hce, hcv, hcl, hW₂, hsm, hL⟩
  · obtain ⟨⟨v, rfl⟩, hW₂, e2, q2, q3, q4, q5, q6⟩ := id hfe
    have e3 : s₂ = ({ (U.calling g mk a).setFrames s₂.frames with heap := s₂.heap, slotsUsed := s₂.slotsUsed } : State).setVm s₂.vm := by
      have : s₂ = ({ s₂ with vm := (U.calling g mk a).vm } : State).setVm s₂.vm := rfl
      rw [e2] at this
      exact this
    obtain ⟨c₂, i₂, len₂, hc₂, hd₂, hf₂⟩ := hend
    have hW' : U.WarmedH s₂.vm := hW₂
    have hcc : c₂ = c := by
      have h1 : s₂.code? g.method = U.code? g.method := by
        rw [State.code?_eq, State.code?_eq, hW'.alike.method?]
      exact Option.some.inj (hc₂.symm.trans (h1.trans h.code))
    subst hcc
    have hlen : len₂ = len := by rw [hdg] at hd₂; cases hd₂; rfl
    subst hlen
    have hs₂ : s₂ = (({ U with heap := s₂.heap, slotsUsed := s₂.slotsUsed } : State).setVm s₂.vm).setTop { g with pc := g.pc + len₂, stack := v.toList ++ g.stack } := by
      refine e3.trans ?_
      rw [hf₂, State.calling_eq h.top, State.setFrames_setFrames, State.setTop_of_frames _ hr', hr]
      rfl
    have hsame : U.sameButNew ({ U with heap := s₂.heap, slotsUsed := s₂.slotsUsed } : State) L mc ms := by
      refine ⟨?_, q2, q3, q4, q5, q6⟩
      obtain ⟨t, ht, -⟩ := State.frames_cons hr
      show ({ U with heap := s₂.heap, slotsUsed := s₂.slotsUsed } : State) = { U.setFrames U.frames with heap := s₂.heap, slotsUsed := s₂.slotsUsed }
      rw [State.setFrames_self ht]
    subst hg
    refine Or.inl ⟨v, ⟨(({ U with heap := s₂.heap, slotsUsed := s₂.slotsUsed } : State).setVm s₂.vm), Ls ++ L, c0 + mc, s0 + ms⟩,
      ⟨X.admits, X.cas, X.clock, X.frames, X.room, X.hears, X.method, X.code, (X.here.setHeapUsed s₂.heap s₂.slotsUsed).setVm hW'.alike, X.tail, State.WarmedH.trans X.warmed hW', X.limits, X.bytes, X.same.trans (hsame.setVm s.vm)⟩,
      ⟨g, mk, s₂, L, rfl, rfl, hqc, rfl, hL, rfl, rfl⟩, ?_⟩
    show Steps p.tables e below _ ((({ U with heap := s₂.heap, slotsUsed := s₂.slotsUsed } : State).setVm s₂.vm).setTop { g with pc := g.pc + len₂, stack := v.toList ++ g.stack })
    rw [← hs₂]
    exact hsteps
  · obtain ⟨e2, q2, q3, q4, q5, q6⟩ := id hsm
    have e3 : s₂ = ({ (U.calling g mk a).setFrames s₂.frames with heap := s₂.heap, slotsUsed := s₂.slotsUsed } : State).setVm s₂.vm := by
      have : s₂ = ({ s₂ with vm := (U.calling g mk a).vm } : State).setVm s₂.vm := rfl
      rw [e2] at this
      exact this
    have hf₂ : s₂.frames = .throwing q :: .java g :: U.frames.tail := hend
    have hW' : U.WarmedH s₂.vm := hW₂
    have hs₂ : s₂ = ((({ U with heap := s₂.heap, slotsUsed := s₂.slotsUsed } : State).setVm s₂.vm).setTop g).pushFrame (.throwing q) := by
      refine e3.trans ?_
      rw [hf₂, State.calling_eq h.top, State.setFrames_setFrames, State.pushFrame, State.frames_setTop _ hr', State.setTop_of_frames _ hr', State.setFrames_setFrames, hr]
      rfl
    have hsame : U.sameButNew ({ U with heap := s₂.heap, slotsUsed := s₂.slotsUsed } : State) L mc ms := by
      refine ⟨?_, q2, q3, q4, q5, q6⟩
      obtain ⟨t, ht, -⟩ := State.frames_cons hr
      show ({ U with heap := s₂.heap, slotsUsed := s₂.slotsUsed } : State) = { U.setFrames U.frames with heap := s₂.heap, slotsUsed := s₂.slotsUsed }
      rw [State.setFrames_self ht]
    subst hg
    refine Or.inr ⟨q, ⟨(({ U with heap := s₂.heap, slotsUsed := s₂.slotsUsed } : State).setVm s₂.vm), Ls ++ L, c0 + mc, s0 + ms⟩,
      ⟨X.admits, X.cas, X.clock, X.frames, X.room, X.hears, X.method, X.code, (X.here.setHeapUsed s₂.heap s₂.slotsUsed).setVm hW'.alike, X.tail, State.WarmedH.trans X.warmed hW', X.limits, X.bytes, X.same.trans (hsame.setVm s.vm)⟩,
      ⟨g, mk, s₂, L, E, ce, rfl, rfl, hx, hce, hcv, hcl, rfl, hL, rfl, rfl⟩, ?_⟩
    show Steps p.tables e below _ (((({ U with heap := s₂.heap, slotsUsed := s₂.slotsUsed } : State).setVm s₂.vm).setTop g).pushFrame (.throwing q))
    rw [← hs₂]
    exact hsteps
end
variable {p : Program} {l : Launch} {e : Env} {R : Room} {s : State} {m : MethodId} {args : Array Value} {below : List Frame} {meth : Method} {c : Code} {T : State} {H : Heap} {locs : List Loc} {cells slots : Nat}
theorem vx_callVX (X : Stand p l e R s m args below meth c T locs cells slots) (hexec : p.tables.exec = Jvm.exec) {own C : String} {index : Nat} {y : MethodName} {bytes : ByteArray} {maxL : Nat} {ret : Option FieldType} {hh : List (Nat × Nat × Nat × Nat)}
    (hown : s.vm.findClass own = some m.cls) (hlink : (Cond.methodLink own index y).before args s = true) (hinst : (Cond.instanceMethod y).before args s = true) (hsel : (Cond.selects C y y).before args s = true)
    (hcode : (Cond.codeWith y bytes maxL ret hh).before args s = true) (hy : y.cls ≠ "java/lang/invoke/MethodHandle" ∧ y.cls ≠ "java/lang/invoke/VarHandle")
    {W9 : Nat} {Pre : Pt → Array Value → Prop} {Post : Pt → Array Value → Option Value → Pt → Prop} {PostX : Pt → Array Value → Addr → Pt → Prop} (hK : vx_Back l R p e below s args y 3 W9 Pre Post PostX)
    {b : Addr} {cellB : Cell} (hcell : T.heap[b]? = some cellB) (hobj : cellB.vm.isStatics = false) (hcls : s.vm.findClass C = some cellB.cls)
    {g : JFrame} (hg : g.method = m) (hsize : g.locals.size = c.maxLocals) {argsL rest : List Value} (hlen : ∀ sig, parseMethodDescriptor y.desc = some sig → argsL.length = sig.parameters.length)
    (hstack : g.stack = argsL.reverse ++ .ref b :: rest) (hW : 2 * g.monitorRoom + (rest.map fun v => v.category).sum ≤ W9) (hdg : decode c.code g.pc = .ok (.invokevirtual index, 3))
    (hpre : ∀ vm₁, s.WarmedH vm₁ → Pre ⟨T.setVm vm₁, locs, cells, slots⟩ (Value.ref b :: argsL).toArray) :
    (∃ (v : Option Value) (vm₁ : Vm) (B : Pt), s.WarmedH vm₁ ∧ Stand p l e R s m args below meth c B.U B.locs B.cells B.slots ∧ Post ⟨T.setVm vm₁, locs, cells, slots⟩ (Value.ref b :: argsL).toArray v B ∧
      ∀ target, Steps p.tables e below (B.U.setTop { g with pc := g.pc + 3, stack := v.toList ++ rest }) target → Steps p.tables e below (T.setTop g) target) ∨
    (∃ (q : Addr) (vm₁ : Vm) (B : Pt), s.WarmedH vm₁ ∧ Stand p l e R s m args below meth c B.U B.locs B.cells B.slots ∧ PostX ⟨T.setVm vm₁, locs, cells, slots⟩ (Value.ref b :: argsL).toArray q B ∧
      Steps p.tables e below (T.setTop g) ((B.U.setTop { g with stack := rest }).pushFrame (.throwing q))) := by
  obtain ⟨mk, methM, hnamed, hmethM, hstM, habM⟩ := Cond.instanceMethod_spec hinst
  obtain ⟨m8, methM', cM, hn8, hmethM', -, -, -, -, -, -, hsigM⟩ := Cond.codeWith_spec hcode
  cases Option.some.inj (hn8.symm.trans hnamed)
  cases hmethM.symm.trans hmethM'
  obtain ⟨c2, r2, m2, q1, q2, q3, q4, kP, hkP, hkPi⟩ := Cond.selects_spec hsel
  cases hcls.symm.trans q1
  cases (State.methodFound?_of_named hnamed hy).symm.trans q2
  cases hnamed.symm.trans q3
  have hselP : selectMethod e.platform s.vm cellB.cls mk = .method mk := by rw [Launch.admits_selectMethod X.admits]; exact q4
  obtain ⟨vm₁, X₁, hstep₁⟩ := X.invokevirtual hexec hown hlink hnamed hmethM hstM hkP hkPi hy (a := b) (cell := cellB) hcell
    (fun z h => by rw [h] at hobj; cases hobj) hselP hmethM habM hkP hkPi (g := g) hg (argsL := argsL) (rest := rest) (hlen _ hsigM) hstack hdg
  rcases hK m meth c ⟨T.setVm vm₁, locs, cells, slots⟩ { g with stack := rest } (.invokevirtual index) mk (Value.ref b :: argsL).toArray X₁ hg hsize hdg hW (X₁.named hnamed) (hpre vm₁ X₁.warmed) with ⟨v, B, X', hpost, hsteps⟩ | ⟨q, B, X', hpost, hsteps⟩
  · exact Or.inl ⟨v, vm₁, B, X₁.warmed, X', hpost, fun target h => hstep₁ _ fun acts => by rw [doInvoke_state]; exact hsteps.trans h⟩
  · exact Or.inr ⟨q, vm₁, B, X₁.warmed, X', hpost, hstep₁ _ fun acts => by rw [doInvoke_state]; exact hsteps⟩
theorem vx_callSX (X : Stand p l e R s m args below meth c T locs cells slots) (hexec : p.tables.exec = Jvm.exec) {own : String} {index : Nat} {y : MethodName} {bytes : ByteArray} {maxL : Nat} {ret : Option FieldType} {hh : List (Nat × Nat × Nat × Nat)}
    (hown : s.vm.findClass own = some m.cls) (hlink : (Cond.methodLink own index y).before args s = true) (hstat : (Cond.static y).before args s = true) (hinit : (Cond.initialized y.cls).before args s = true)
    (hcode : (Cond.codeWith y bytes maxL ret hh).before args s = true) (hy : y.cls ≠ "java/lang/invoke/MethodHandle" ∧ y.cls ≠ "java/lang/invoke/VarHandle")
    {W9 : Nat} {Pre : Pt → Array Value → Prop} {Post : Pt → Array Value → Option Value → Pt → Prop} {PostX : Pt → Array Value → Addr → Pt → Prop} (hK : vx_Back l R p e below s args y 3 W9 Pre Post PostX)
    {g : JFrame} (hg : g.method = m) (hsize : g.locals.size = c.maxLocals) {argsL rest : List Value} (hlen : ∀ sig, parseMethodDescriptor y.desc = some sig → argsL.length = sig.parameters.length)
    (hstack : g.stack = argsL.reverse ++ rest) (hW : 2 * g.monitorRoom + (rest.map fun v => v.category).sum ≤ W9) (hdg : decode c.code g.pc = .ok (.invokestatic index, 3))
    (hpre : ∀ vm₁, s.WarmedH vm₁ → Pre ⟨T.setVm vm₁, locs, cells, slots⟩ argsL.toArray) :
    (∃ (v : Option Value) (vm₁ : Vm) (B : Pt), s.WarmedH vm₁ ∧ Stand p l e R s m args below meth c B.U B.locs B.cells B.slots ∧ Post ⟨T.setVm vm₁, locs, cells, slots⟩ argsL.toArray v B ∧
      ∀ target, Steps p.tables e below (B.U.setTop { g with pc := g.pc + 3, stack := v.toList ++ rest }) target → Steps p.tables e below (T.setTop g) target) ∨
    (∃ (q : Addr) (vm₁ : Vm) (B : Pt), s.WarmedH vm₁ ∧ Stand p l e R s m args below meth c B.U B.locs B.cells B.slots ∧ PostX ⟨T.setVm vm₁, locs, cells, slots⟩ argsL.toArray q B ∧
      Steps p.tables e below (T.setTop g) ((B.U.setTop { g with stack := rest }).pushFrame (.throwing q))) := by
  obtain ⟨mk, methM, cM, hnamed, hmethM, -, -, -, -, -, -, hsigM⟩ := Cond.codeWith_spec hcode
  have hstatic : methM.isStatic = true := Cond.static_spec hnamed hmethM hstat
  obtain ⟨kP, hkP, -⟩ := className_of_methodNamed hnamed
  have hinitP : kP.init = .initialized := Cond.initialized_spec (findClass_of_methodNamed hnamed) hkP hinit
  obtain ⟨vm₁, X₁, hstep₁⟩ := X.invokestatic hexec hown hlink hnamed hmethM hstatic hkP hinitP hy (g := g) hg (argsL := argsL) (rest := rest) (hlen _ hsigM) hstack hdg
  rcases hK m meth c ⟨T.setVm vm₁, locs, cells, slots⟩ { g with stack := rest } (.invokestatic index) mk argsL.toArray X₁ hg hsize hdg hW (X₁.named hnamed) (hpre vm₁ X₁.warmed) with ⟨v, B, X', hpost, hsteps⟩ | ⟨q, B, X', hpost, hsteps⟩
  · exact Or.inl ⟨v, vm₁, B, X₁.warmed, X', hpost, fun target h => hstep₁ _ fun acts => by rw [doInvoke_state]; exact hsteps.trans h⟩
  · exact Or.inr ⟨q, vm₁, B, X₁.warmed, X', hpost, hstep₁ _ fun acts => by rw [doInvoke_state]; exact hsteps⟩
theorem vx_callVW (X : Stand p l e R s m args below meth c T locs cells slots) (hexec : p.tables.exec = Jvm.exec) {own C : String} {index : Nat} {y : MethodName} {bytes : ByteArray} {maxL : Nat} {ret : Option FieldType} {hh : List (Nat × Nat × Nat × Nat)}
    (hown : s.vm.findClass own = some m.cls) (hlink : (Cond.methodLink own index y).before args s = true) (hinst : (Cond.instanceMethod y).before args s = true) (hsel : (Cond.selects C y y).before args s = true)
    (hcode : (Cond.codeWith y bytes maxL ret hh).before args s = true) (hy : y.cls ≠ "java/lang/invoke/MethodHandle" ∧ y.cls ≠ "java/lang/invoke/VarHandle")
    {W9 : Nat} {Pre : Pt → Array Value → Prop} {Post : Pt → Array Value → Option Value → Pt → Prop} (hK : Back l R p e below s args y 3 W9 Pre Post)
    {b : Addr} {cellB : Cell} (hcell : T.heap[b]? = some cellB) (hobj : cellB.vm.isStatics = false) (hcls : s.vm.findClass C = some cellB.cls)
    {g : JFrame} (hg : g.method = m) (hsize : g.locals.size = c.maxLocals) {argsL rest : List Value} (hlen : ∀ sig, parseMethodDescriptor y.desc = some sig → argsL.length = sig.parameters.length)
    (hstack : g.stack = argsL.reverse ++ .ref b :: rest) (hW : 2 * g.monitorRoom + (rest.map fun v => v.category).sum ≤ W9) (hdg : decode c.code g.pc = .ok (.invokevirtual index, 3))
    (hpre : ∀ vm₁, s.WarmedH vm₁ → Pre ⟨T.setVm vm₁, locs, cells, slots⟩ (Value.ref b :: argsL).toArray) :
    ∃ (v : Option Value) (vm₁ : Vm) (B : Pt), s.WarmedH vm₁ ∧ Stand p l e R s m args below meth c B.U B.locs B.cells B.slots ∧ Post ⟨T.setVm vm₁, locs, cells, slots⟩ (Value.ref b :: argsL).toArray v B ∧
      ∀ target, Steps p.tables e below (B.U.setTop { g with pc := g.pc + 3, stack := v.toList ++ rest }) target → Steps p.tables e below (T.setTop g) target := by
  obtain ⟨mk, methM, hnamed, hmethM, hstM, habM⟩ := Cond.instanceMethod_spec hinst
  obtain ⟨m8, methM', cM, hn8, hmethM', -, -, -, -, -, -, hsigM⟩ := Cond.codeWith_spec hcode
  cases Option.some.inj (hn8.symm.trans hnamed)
  cases hmethM.symm.trans hmethM'
  obtain ⟨c2, r2, m2, q1, q2, q3, q4, kP, hkP, hkPi⟩ := Cond.selects_spec hsel
  cases hcls.symm.trans q1
  cases (State.methodFound?_of_named hnamed hy).symm.trans q2
  cases hnamed.symm.trans q3
  have hselP : selectMethod e.platform s.vm cellB.cls mk = .method mk := by rw [Launch.admits_selectMethod X.admits]; exact q4
  obtain ⟨vm₁, X₁, hstep₁⟩ := X.invokevirtual hexec hown hlink hnamed hmethM hstM hkP hkPi hy (a := b) (cell := cellB) hcell
    (fun z h => by rw [h] at hobj; cases hobj) hselP hmethM habM hkP hkPi (g := g) hg (argsL := argsL) (rest := rest) (hlen _ hsigM) hstack hdg
  obtain ⟨v, B, X', hpost, hsteps⟩ := hK m meth c ⟨T.setVm vm₁, locs, cells, slots⟩ { g with stack := rest } (.invokevirtual index) mk (Value.ref b :: argsL).toArray X₁ hg hsize hdg hW (X₁.named hnamed) (hpre vm₁ X₁.warmed)
  exact ⟨v, vm₁, B, X₁.warmed, X', hpost, fun target h => hstep₁ _ fun acts => by rw [doInvoke_state]; exact hsteps.trans h⟩
abbrev vx_CVW (R : Room) (s : State) (args : Array Value) (own C : String) (index : Nat) (y : MethodName) (bytes : ByteArray) (maxL : Nat) (ret : Option FieldType) (hh : List (Nat × Nat × Nat × Nat)) (ws : List Cond) (rm : Room) (mc ms n : Nat) : Prop :=
  (rm.cells = mc ∧ rm.slots = ms ∧ rm.frames + 1 ≤ R.frames ∧ 8 + (maxL + 11) + rm.locals ≤ R.locals ∧ (∀ w ∈ ws, ∀ (a' : Array Value) (U : State), s.WarmedH U.vm → w.before a' U = true) ∧ Cond.codeWith y bytes maxL ret hh ∈ ws) ∧
  (Cond.codeWith y bytes maxL ret hh).before args s = true ∧ (Cond.initialized y.cls).before args s = true ∧ (y.cls ≠ "java/lang/invoke/MethodHandle" ∧ y.cls ≠ "java/lang/invoke/VarHandle") ∧
  (∀ sig, parseMethodDescriptor y.desc = some sig → n = sig.parameters.length) ∧ (Cond.methodLink own index y).before args s = true ∧ (Cond.instanceMethod y).before args s = true ∧ (Cond.selects C y y).before args s = true
theorem vx_cwVW {own C : String} {index maxL mc ms : Nat} {y : MethodName} {bytes : ByteArray} {ret : Option FieldType} {hh : List (Nat × Nat × Nat × Nat)} {Ts ws ws' : List Cond} {rm : Room} (n : Nat) (ht : ∀ w ∈ Ts, w.before args s = true) (hT : GoodIn Ts (wsV own index C y ws)) (hw : ws = Cond.codeWith y bytes maxL ret hh :: ws') (hrc : rm.cells = mc) (hrs : rm.slots = ms)
    (hd : y.cls = C ∧ y.cls ≠ "java/lang/invoke/MethodHandle" ∧ y.cls ≠ "java/lang/invoke/VarHandle" ∧ (parseMethodDescriptor y.desc).map (fun d => d.parameters.length) = some n) (hR : rm.frames + 1 ≤ R.frames ∧ 8 + (maxL + 11) + rm.locals ≤ R.locals) :
    vx_CVW R s args own C index y bytes maxL ret hh ws rm mc ms n := by
  obtain ⟨hC, hd⟩ := hd
  subst hC
  have ok : ∀ w ∈ wsV own index y.cls y ws, w.before args s = true := fun w h => ht w (hT w h).1
  have hG : GoodIn Ts ws := fun w h => hT w (by unfold wsV; exact List.mem_append_right _ h)
  have hc : Cond.codeWith y bytes maxL ret hh ∈ ws := by rw [hw]; exact List.mem_cons_self
  refine ⟨⟨hrc, hrs, hR.1, hR.2, pay_in ht hG, hc⟩, ht _ (hG _ hc).1, ok _ (by simp [wsV]), ⟨hd.1, hd.2.1⟩, fun sig h => ?_, ok _ (by simp [wsV]), ok _ (by simp [wsV]), ok _ (by simp [wsV])⟩
  have h2 := hd.2.2
  rw [h] at h2
  exact (Option.some.inj h2).symm
theorem vx_runVW {y : MethodName} {bytes cc : ByteArray} {maxL nL mc ms n index : Nat} {ret : Option FieldType} {hh : List (Nat × Nat × Nat × Nat)} {ws : List Cond} {rm : Room} {Pc : Array Value → State → Prop} {Qc : Array Value → State → Outcome → State → Prop} {free : Addr → Prop} {Ts : List Cond} {own C : String} {b : Addr} {As rest : List Value} {g : JFrame}
    (S : CallFix p m c cc nL s args Ts own) (hM : Met l y ws rm Pc Qc mc ms free) (cw : vx_CVW R s args own C index y bytes maxL ret hh ws rm mc ms n) (hp : PreV s H C b Pc As)
    (hg : g.method = m) (hn : As.length = n) (hsize : g.locals.size = nL) (hstack : g.stack = As.reverse ++ .ref b :: rest) (hW : 2 * g.monitorRoom + (rest.map fun v => v.category).sum ≤ 8) (hdg : decode cc g.pc = .ok (.invokevirtual index, 3)) (hf : cells + mc ≤ R.cells ∧ slots + ms ≤ R.slots) :
    va_Run p l e R s m args below meth c H locs cells slots mc ms g rest (Qc (Value.ref b :: As).toArray) free := by
  obtain ⟨⟨hrc, hrs, hfr, hlo, hws, hcw⟩, hcode, hini, hy, hlen, hl, hin, hse⟩ := cw
  have hK : Back l R p e below s args y 3 8 (PreOf R mc ms Pc) (PostOf Qc mc ms free) := va_backW (hh := hh) (bytes := bytes) (maxL := maxL) (ret := ret) hM hp.1 hrc hrs hfr hlo hws hcw (fun a' U hW => word_at hW (Or.inl (by first | rfl | simp [Cond.onTables, Cond.keeps, Cond.steady])) hini)
  obtain ⟨hx, hb, hml, ho, -⟩ := S
  obtain ⟨-, ⟨cellB, hcB, hoB, hclB⟩, hPc⟩ := hp
  intro T hT X
  obtain ⟨v, vm₁, ⟨U', l2, c2, s2⟩, hW₁, X', ⟨g', mk, t, L, e1, e2, hq, h1, hL, h2, h3⟩, st⟩ := vx_callVW X hx (C := C) (hh := hh) (bytes := bytes) (maxL := maxL) (ret := ret) ho hl hin hse hcode hy hK (by rw [hT]; exact hcB) hoB hclB hg (hsize.trans hml.symm) (argsL := As) (rest := rest) (fun sig h => hn.trans (hlen sig h)) hstack hW (by rw [hb]; exact hdg)
    (fun vm₁ hW₁ => ⟨hf.1, hf.2, hPc (T.setVm vm₁) hT hW₁⟩)
  dsimp only [Pt.U, Pt.locs, Pt.cells, Pt.slots] at X' e1 e2 h1 h2 h3 st
  subst h1; subst h2; subst h3
  exact ⟨v, (T.setVm vm₁).calling g' mk (Value.ref b :: As).toArray, t, U', L, hT, X', hL, e1, e2, hq, st⟩
section
variable {y : MethodName} {bytes cc : ByteArray} {maxL nL mc ms n index : Nat} {ret : Option FieldType} {ws : List Cond} {rm : Room} {Pc : Array Value → State → Prop} {Qc : Array Value → State → Outcome → State → Prop} {XC : String → State → State → Prop} {free : Addr → Prop} {Ts : List Cond} {own C : String} {b : Addr} {As rest : List Value} {g : JFrame}
theorem vx_runVX {hh : List (Nat × Nat × Nat × Nat)} (S : CallFix p m c cc nL s args Ts own) (hM : vx_Met l y ws rm Pc Qc XC mc ms free) (cw : vx_CVW R s args own C index y bytes maxL ret hh ws rm mc ms n) (hp : PreV s H C b Pc As)
    (hg : g.method = m) (hn : As.length = n) (hsize : g.locals.size = nL) (hstack : g.stack = As.reverse ++ .ref b :: rest) (hW : 2 * g.monitorRoom + (rest.map fun v => v.category).sum ≤ 8) (hdg : decode cc g.pc = .ok (.invokevirtual index, 3)) (hf : cells + mc ≤ R.cells ∧ slots + ms ≤ R.slots) :
    vx_Run p l e R s m args below meth c H locs cells slots mc ms g rest (Qc (Value.ref b :: As).toArray) XC free := by
  obtain ⟨⟨hrc, hrs, hfr, hlo, hws, hcw⟩, hcode, hini, hy, hlen, hl, hin, hse⟩ := cw
  have hK : vx_Back l R p e below s args y 3 8 (PreOf R mc ms Pc) (PostOf Qc mc ms free) (vx_Post XC mc ms free) := vx_backW (hh := hh) (bytes := bytes) (maxL := maxL) (ret := ret) hM hp.1 hrc hrs hfr hlo hws hcw (fun a' U hW => word_at hW (Or.inl (by first | rfl | simp [Cond.onTables, Cond.keeps, Cond.steady])) hini)
  obtain ⟨hx, hb, hml, ho, -⟩ := S
  obtain ⟨-, ⟨cellB, hcB, hoB, hclB⟩, hPc⟩ := hp
  intro T hT X
  rcases vx_callVX X hx (C := C) (hh := hh) (bytes := bytes) (maxL := maxL) (ret := ret) ho hl hin hse hcode hy hK (by rw [hT]; exact hcB) hoB hclB hg (hsize.trans hml.symm) (argsL := As) (rest := rest) (fun sig h => hn.trans (hlen sig h)) hstack hW (by rw [hb]; exact hdg)
    (fun vm₁ hW₁ => ⟨hf.1, hf.2, hPc (T.setVm vm₁) hT hW₁⟩) with ⟨v, vm₁, ⟨U', l2, c2, s2⟩, hW₁, X', ⟨g', mk, t, L, e1, e2, hq, h1, hL, h2, h3⟩, st⟩ | ⟨q, vm₁, ⟨U', l2, c2, s2⟩, hW₁, X', ⟨g', mk, t, L, E, ce, e1, e2, hq, hce, hcv, hcl, h1, hL, h2, h3⟩, st⟩
  · dsimp only [Pt.U, Pt.locs, Pt.cells, Pt.slots] at X' e1 e2 h1 h2 h3 st
    subst h1; subst h2; subst h3
    exact Or.inl ⟨v, (T.setVm vm₁).calling g' mk (Value.ref b :: As).toArray, t, U', L, hT, X', hL, e1, e2, hq, st⟩
  · dsimp only [Pt.U, Pt.locs, Pt.cells, Pt.slots] at X' e1 e2 h1 h2 h3 st hcl
    subst h1; subst h2; subst h3
    exact Or.inr ⟨q, (T.setVm vm₁).calling g' mk (Value.ref b :: As).toArray, t, U', L, E, ce, hT, X', hL, e1, e2, hq, hce, hcv, vx_cls hW₁ hcl, st⟩
theorem vx_runSX {hh : List (Nat × Nat × Nat × Nat)} (S : CallFix p m c cc nL s args Ts own) (hM : vx_Met l y ws rm Pc Qc XC mc ms free) (cw : vx_CSW R s args own index y bytes maxL ret hh ws rm mc ms n) (hp : PreS s H Pc As)
    (hg : g.method = m) (hn : As.length = n) (hsize : g.locals.size = nL) (hstack : g.stack = As.reverse ++ rest) (hW : 2 * g.monitorRoom + (rest.map fun v => v.category).sum ≤ 8) (hdg : decode cc g.pc = .ok (.invokestatic index, 3)) (hf : cells + mc ≤ R.cells ∧ slots + ms ≤ R.slots) :
    vx_Run p l e R s m args below meth c H locs cells slots mc ms g rest (Qc As.toArray) XC free := by
  obtain ⟨⟨hrc, hrs, hfr, hlo, hws, hcw⟩, hcode, hini, hy, hlen, hl, hstt⟩ := cw
  have hK : vx_Back l R p e below s args y 3 8 (PreOf R mc ms Pc) (PostOf Qc mc ms free) (vx_Post XC mc ms free) := vx_backW (hh := hh) (bytes := bytes) (maxL := maxL) (ret := ret) hM hp.1 hrc hrs hfr hlo hws hcw (fun a' U hW => word_at hW (Or.inl (by first | rfl | simp [Cond.onTables, Cond.keeps, Cond.steady])) hini)
  obtain ⟨hx, hb, hml, ho, -⟩ := S
  intro T hT X
  rcases vx_callSX X hx (hh := hh) (bytes := bytes) (maxL := maxL) (ret := ret) ho hl hstt hini hcode hy hK hg (hsize.trans hml.symm) (argsL := As) (rest := rest) (fun sig h => hn.trans (hlen sig h)) hstack hW (by rw [hb]; exact hdg)
    (fun vm₁ hW₁ => ⟨hf.1, hf.2, hp.2 (T.setVm vm₁) hT hW₁⟩) with ⟨v, vm₁, ⟨U', l2, c2, s2⟩, hW₁, X', ⟨g', mk, t, L, e1, e2, hq, h1, hL, h2, h3⟩, st⟩ | ⟨q, vm₁, ⟨U', l2, c2, s2⟩, hW₁, X', ⟨g', mk, t, L, E, ce, e1, e2, hq, hce, hcv, hcl, h1, hL, h2, h3⟩, st⟩
  · dsimp only [Pt.U, Pt.locs, Pt.cells, Pt.slots] at X' e1 e2 h1 h2 h3 st
    subst h1; subst h2; subst h3
    exact Or.inl ⟨v, (T.setVm vm₁).calling g' mk As.toArray, t, U', L, hT, X', hL, e1, e2, hq, st⟩
  · dsimp only [Pt.U, Pt.locs, Pt.cells, Pt.slots] at X' e1 e2 h1 h2 h3 st hcl
    subst h1; subst h2; subst h3
    exact Or.inr ⟨q, (T.setVm vm₁).calling g' mk As.toArray, t, U', L, E, ce, hT, X', hL, e1, e2, hq, hce, hcv, vx_cls hW₁ hcl, st⟩
end
end VXH
theorem vx_ofWH {l : Launch} {y : MethodName} {ws ws' : List Cond} {rm : Room} {Pc : Array Value → State → Prop} {Qc : Array Value → State → Outcome → State → Prop} {XC : String → State → State → Prop} {mc ms : Nat} {free : Addr → Prop} {cc : ByteArray} {maxL : Nat} {ret : Option FieldType} {hh : List (Nat × Nat × Nat × Nat)}
    (hy : plainName y.cls = true) (hw : ws = Cond.codeWith y cc maxL ret hh :: ws')
    (body : ∀ p e s m args below meth c s₁, BodyLoose p l y (headSpec ws rm) cc maxL ret e s m args below meth c s₁ → c.maxLocals = maxL → Pc args s →
      W p l e (headSpec ws rm).room s m args below meth c s.heap [] 0 0 (vx_MQ below Qc XC args s mc ms free) (entryFrame m args maxL)) : vx_Met l y ws rm Pc Qc XC mc ms free := by
  refine MetFree.of_bodyS (code := cc) (maxLocals := maxL) (ret := ret) hy ?_ ?_
  · intro args s m h hn
    obtain ⟨m9, meth, c, hn9, h1, h2, h3, h4, -, h5, h6, -⟩ := Cond.codeWith_spec (atoms_spec (ws := ws) h _ (by rw [hw]; exact List.mem_cons_self))
    cases hn.symm.trans hn9
    exact ⟨meth, c, h1, h2, h3, h4, h5, h6⟩
  · intro p e s m args below meth c s₁ B hml hP _
    have hh0 : s₁.heap = s.heap := by rw [B.state]; rfl
    obtain ⟨t, a1, o, b1, b2, b3⟩ := body p e s m args below meth c s₁ B hml hP s₁ hh0 (Stand.of_body B)
    exact ⟨t, o, a1, b1, b2, b3⟩
/-! ===== END ===== -/
/-! ===== BEGIN what the machine throws by itself, no traces kept ===== -/
section VXM
set_option maxHeartbeats 1000000 in
/-- the machine throws cls with the message text, no traces kept: from its note over the frame g to 'throwing' over the same frame (follows the proofs of Stand.vmThrowsMessage, Shelf/KitTracedVmS.lean, and Stand.throwsMessageColdBareV, StandMessageColdV.lean, without the step out of the frame) -/
theorem vx_vmAt {p : Program} {l : Launch} {e : Env} {R : Room} {s : State} {m₀ : MethodId} {args : Array Value} {below : List Frame} {meth : Method} {c : Code} {W : State} {locs : List Loc} {cells slots : Nat}
    (X : Stand p l e R s m₀ args below meth c W locs cells slots) (hexec : p.tables.exec = Jvm.exec) (htr : e.platform.stackTraces = false) {cls : String} {names : List String} {text : String}
    (hcls : Bundle.fit cls = true) (hnames : ∀ n ∈ names, Bundle.fit n = true) (hsoe : (cls == "java/lang/StackOverflowError") = false) (hoom : (cls == "java/lang/OutOfMemoryError") = false)
    (h : ∀ a ∈ Bundle.messageArmAtoms cls names, a.before args s = true)
    (hlocs : ∀ x ∈ locs, ∀ cell, s.heap[x.base]? = some cell → cell.vm.isStatics = false)
    (htext : (text == notModelled) = false) (hlimit : ¬ (stringBytes (stringToUtf16 text)).size > e.platform.arrayLengthLimit) (hheap : ¬ (stringBytes (stringToUtf16 text)).size * componentBytes .byte > e.platform.maxHeapBytes)
    {g : JFrame} (hg : g.method = m₀) (hsize : g.locals.size = c.maxLocals)
    (hRframes : names.length + 4 < R.frames) (hRlocals : 2 * g.monitorRoom + (g.stack.map fun v => v.category).sum + 10240 ≤ R.locals) (hshort : 13 * names.length + 55 ≤ 10240)
    (hRcells : cells + 3 ≤ R.cells) (hRslots : slots + ((stringBytes (stringToUtf16 text)).size + 4 + 6) ≤ R.slots) (hlocks : meth.locks = false) :
    ∃ (S : State) (q : Addr) (ce : Cell), (∀ target, Steps p.tables e below ((S.setTop g).pushFrame (.throwing q)) target → Steps p.tables e below ((W.setTop g).pushFrame (.throwNew cls (some text) none)) target) ∧
      Stand p l e R s m₀ args below meth c S locs (cells + 3) (slots + ((stringBytes (stringToUtf16 text)).size + 4 + 6)) ∧ S.heap[q]? = some ce ∧ s.vm.findClass cls = some ce.cls ∧ ce.vm = .none := by
  have howns : e.platform.frameOwnsMonitors = true := by rw [X.admits.platform]
  have hfin : e.platform.finalization = false := by rw [X.admits.platform]
  have hpl : e.platform.magicAccessors = ({} : Platform).magicAccessors := by rw [X.admits.platform]
  have a : ∀ x, x ∈ Bundle.messageArmAtoms cls names → x.holds args s none s [] = true := fun x hx => h x hx
  obtain ⟨T, Z0, L, -, Y⟩ := ThrowableC.of_atoms (args := args) howns hfin hpl (fun x hx => h x (by simp [Bundle.messageArmAtoms, hx]))
  obtain ⟨Z, M, LZ, LM, hnZ⟩ := Init0T.ofS_atoms (args := args) hpl L Y (fun x hx => h x (by simp [Bundle.messageArmAtoms, hx]))
  obtain ⟨P1, Ps, hlen, L1, hL, hP1m, hlink1, hlink⟩ := Bundle.chainS (args := args) hpl hnZ names cls hcls hnames (fun x hx => h x (by simp [Bundle.messageArmAtoms, hx]))
  obtain ⟨Zs, LZs, hn4, hfitv, hfitc⟩ := StringT.of_atoms (args := args) (fun x hx => h x (by simp [Bundle.messageArmAtoms, hx]))
  have hfound : s.vm.findClass cls = some P1.m.cls := findClass_of_methodNamed hP1m
  obtain ⟨c1, kX, hc1, hk, hord, -, -, hn6⟩ := Cond.instantiable_spec (a (.instantiable cls 6) (by simp [Bundle.messageArmAtoms]))
  cases Option.some.inj (hc1.symm.trans hfound)
  have hinit := Cond.initialized_spec hfound hk (a (.initialized cls) (by simp [Bundle.messageArmAtoms]))
  have hctor : kX.findMethod "<init>" "(Ljava/lang/String;)V" = some P1.m.idx := findMethod_of_methodNamed hP1m hk
  have hsel0 : selectMethod e.platform s.vm P1.m.cls T.fill0 = .method T.fill0 := by
    obtain ⟨c2, r2, m2, q1, q2, q3, q4, -⟩ := Cond.selects_spec (a (.selects cls Bundle.tFill0 Bundle.tFill0) (by simp [Bundle.messageArmAtoms]))
    cases Option.some.inj (q1.symm.trans hfound)
    cases Option.some.inj (q2.symm.trans (State.methodFound?_of_named Y.fill0 (by decide)))
    cases Option.some.inj (q3.symm.trans Y.fill0)
    rw [Launch.admits_selectMethod X.admits]; exact q4
  have hselF : selectMethod e.platform s.vm P1.m.cls T.fill = .method T.fill := by
    obtain ⟨c2, r2, m2, q1, q2, q3, q4, -⟩ := Cond.selects_spec (a (.selects cls Bundle.tFill Bundle.tFill) (by simp [Bundle.messageArmAtoms]))
    cases Option.some.inj (q1.symm.trans hfound)
    cases Option.some.inj (q2.symm.trans (State.methodFound?_of_named Y.fill (by decide)))
    cases Option.some.inj (q3.symm.trans Y.fill)
    rw [Launch.admits_selectMethod X.admits]; exact q4
  obtain ⟨cellS0, hcS0, hiss⟩ := Y.statics
  obtain ⟨u0, hu0⟩ := Cond.staticRefV Y.unassigned L.unassignedStatic L.statics hcS0 hiss (a (.isRef (.static Bundle.tN "UNASSIGNED_STACK" Bundle.steD)) (by simp [Bundle.messageArmAtoms]))
  obtain ⟨sen, hsen⟩ := Cond.staticRefV Y.sentinel L.sentinelStatic L.statics hcS0 hiss (a (.isRef (.static Bundle.tN "SUPPRESSED_SENTINEL" Bundle.listD)) (by simp [Bundle.messageArmAtoms]))
  obtain ⟨ci198, i198, fB, hk198, hg198, ha198, hsB, -, hnB, htB, hffB⟩ := Cond.ownField (t := .object "java/lang/Object") Y.found L.cls (by decide +kernel) (a (.fieldLink Bundle.tN 198 Bundle.tN "backtrace" "Ljava/lang/Object;") (by simp [Bundle.messageArmAtoms])) (a (.lays Bundle.tN Bundle.tN "backtrace" "Ljava/lang/Object;") (by simp [Bundle.messageArmAtoms])) e.platform hpl
  obtain ⟨cellS, hcS', heS, -, hkeep⟩ := X.same.2.2.2.2.2 T.aS cellS0 hcS0
  have hcellS : W.heap[T.aS]? = some cellS := hcS'
  have hout' : ∀ i, (⟨T.aS, i⟩ : Loc) ∉ locs := fun i hmem => by
    have := hlocs _ hmem cellS0 hcS0
    rw [hiss] at this; cases this
  have hknownS : cellS.vm ≠ .unknown := by
    rw [heS]; intro hu
    rw [show cellS0.vm = .unknown from hu] at hiss
    cases hiss
  have hvU : cellS.slots[T.fUnassigned.slot]? = some u0.v := by rw [hkeep _ (hout' _)]; exact hu0
  have hvSen : cellS.slots[T.fSentinel.slot]? = some sen.v := by rw [hkeep _ (hout' _)]; exact hsen
  obtain ⟨iM, hffM⟩ := Y.msg
  obtain ⟨tyC, dC, hdC, hdnC⟩ := Cond.laysAt hfound hk Y.cause (a (.lays cls Bundle.tN "cause" "Ljava/lang/Throwable;") (by simp [Bundle.messageArmAtoms]))
  obtain ⟨tyS, dS, hdS, hdnS⟩ := Cond.laysAt hfound hk Y.stack (a (.lays cls Bundle.tN "stackTrace" Bundle.steD) (by simp [Bundle.messageArmAtoms]))
  obtain ⟨tyP, dP, hdP, hdnP⟩ := Cond.laysAt hfound hk Y.supp (a (.lays cls Bundle.tN "suppressedExceptions" Bundle.listD) (by simp [Bundle.messageArmAtoms]))
  obtain ⟨tyM, dM, hdM, hdnM⟩ := Cond.laysAt hfound hk hffM (a (.lays cls Bundle.tN "detailMessage" "Ljava/lang/String;") (by simp [Bundle.messageArmAtoms]))
  obtain ⟨tyB, dB, hdB, hdnB⟩ := Cond.laysAt hfound hk hffB (a (.lays cls Bundle.tN "backtrace" "Ljava/lang/Object;") (by simp [Bundle.messageArmAtoms]))
  have bC := Cond.laysApart hdB hdC hdnB hdnC (by rw [hnB, Y.causeName]; decide)
  have bS := Cond.laysApart hdB hdS hdnB hdnS (by rw [hnB, Y.stackName]; decide)
  have bP := Cond.laysApart hdB hdP hdnB hdnP (by rw [hnB, Y.suppName]; decide)
  have hbk : ((preparedCellV T.toThrowableT (freshCell P1.m.cls kX) (W.heap.size + 2) u0 sen).withEntry W.cur).slots[fB.slot]? = some .null := by
    have := fresh_default (c := P1.m.cls) tyB
    rw [htB] at this
    simpa [preparedCellV, Cell.setSlot, Cell.withEntry, Array.getElem?_setIfInBounds, bC, bS, bP, bC.symm, bS.symm, bP.symm, defaultValue] using this
  have tkC := Takes.of_laid (v := .ref (W.heap.size + 2)) hk hord tyC (by rw [Y.causeType]; rfl)
  have tkS := Takes.of_laid (v := u0.v) hk hord tyS (by rw [Y.stackType]; exact fits_refV_array _ u0)
  have tkP := Takes.of_laid (v := sen.v) hk hord tyP (by rw [Y.suppType]; exact fits_refV_object _ sen)
  have tkM := Takes.of_laid (v := .ref (W.heap.size + 1)) hk hord tyM (by rw [Y.msgType]; rfl)
  have hskip : SkipFacts T e.platform s (fun u => u) u0 ((preparedCellV T.toThrowableT (freshCell P1.m.cls kX) (W.heap.size + 2) u0 sen).withEntry W.cur) := ⟨{ ci198 := ci198, i198 := i198, fBack := fB }, ⟨hk198, hg198, ha198, hsB⟩, hbk, fun _ _ => rfl⟩
  have h0 : At W g.method c below := by rw [hg]; exact X.here
  obtain ⟨hbeyond, hfreeW⟩ := X.vmMayThrow hsize (.throwNew cls (some text) none) (fun f hf => by cases hf) rfl hRlocals
  have hfr' : W.frames.length + Ps.length + 4 < (e.platform.stackLimits W.me).1 := by have := X.framesAbove hRframes; omega
  have hwd' : (stackUse (.java g :: W.frames.tail)).2 + 13 * Ps.length + 55 ≤ (e.platform.stackLimits W.me).2 := by have := X.stackAbove hsize (K := 13 * Ps.length + 55) (by omega); omega
  have hslots : W.slotsUsed + (stringBytes (stringToUtf16 text)).size + Zs.kS.instanceTypes.size + kX.instanceTypes.size ≤ e.platform.maxSlots := by
    have := X.slotsAbove hRslots
    rw [hn4, hn6]
    omega
  obtain ⟨vm', hW', st⟩ := Steps.vmThrowsMessageColdByV p (s₀ := s) (S := W) (g := g) h0 hexec T L Z LZ M LM X.warmed (t := W.cur) rfl Zs LZs P1 L1 Ps hL hlink1 hlink hsoe hoom hfound hk hinit hord hctor
    (Launch.admits_hotImplicitExceptions X.admits) hbeyond hfreeW htext hlimit hheap (X.cellsAbove hRcells) hslots (hfitv _) (hfitc _)
    (Nn := fun u => u) heapOnly_id (fun _ _ => rfl) (fun _ => rfl) (fun u x y => setCell_twice _ _ _ _) (fun _ => Nat.le_refl _) (cN := ((preparedCellV T.toThrowableT (freshCell P1.m.cls kX) (W.heap.size + 2) u0 sen).withEntry W.cur))
    hsel0 hcellS hknownS hvU tkS (fun _ hu => hu) (fun _ hu => hu) rfl rfl rfl (by simp [preparedCellV, Cell.setSlot, Cell.withEntry]) hskip (fun _ _ hA hW _ hroom _ hrest => L.nativeOff p htr hA hW hroom hrest) hselF hvSen tkC tkP tkM Y.objLocals rfl hfr' hwd'
  rw [plainBareV_eq T.toThrowableT (W.heap.size + 2) u0 sen (.ref (W.heap.size + 1)) W.cur rfl rfl] at st
  obtain ⟨-, -, w3, w4, -, -, -⟩ := withThrown_facts e.platform W Zs text P1.m.cls kX
  have X3 := ((X.pushed (bytesOf Zs.cB (stringToUtf16 text))).pushed (stringAt Zs.cS Zs.kS Zs.fv Zs.fc (stringToUtf16 text) W.heap.size)).pushed (freshCell P1.m.cls kX)
  rw [← withString_eq] at X3
  have X4 := X3.noted hW'
  have ha : (W.heap.size + 2) < ((withThrown W Zs text P1.m.cls kX).setVm vm').heap.size := by show _ < (withThrown W Zs text P1.m.cls kX).heap.size; rw [w3]; omega
  have hcell : ((withThrown W Zs text P1.m.cls kX).setVm vm').heap[(W.heap.size + 2)]? = some (freshCell P1.m.cls kX) := w4
  have X5 := ((((X4.stored hcell T.fCause.slot (.ref (W.heap.size + 2))).storedAgain ha T.fStack.slot u0.v).storedAgain ha T.fSupp.slot sen.v).storedAgain ha T.fStack.slot u0.v).storedAgain ha T.fMsg.slot (.ref (W.heap.size + 1))
  obtain ⟨g₁, hfrM⟩ := X5.frames_eq
  have hU : ((((withThrown W Zs text P1.m.cls kX).setVm vm').setCell (W.heap.size + 2) (plainBareV T.toThrowableT (freshCell P1.m.cls kX) (W.heap.size + 2) u0 sen (.ref (W.heap.size + 1)))).setTop g).pushFrame (.throwing (W.heap.size + 2)) = (((withThrown W Zs text P1.m.cls kX).setVm vm').setCell (W.heap.size + 2) (plainBareV T.toThrowableT (freshCell P1.m.cls kX) (W.heap.size + 2) u0 sen (.ref (W.heap.size + 1)))).setFrames (.throwing (W.heap.size + 2) :: .java g :: below) := by
    rw [State.pushFrame, State.frames_setTop _ hfrM, State.setTop_of_frames _ hfrM, State.setFrames_setFrames]
  have b1 : (bytesOf Zs.cB (stringToUtf16 text)).slots.size = (stringBytes (stringToUtf16 text)).size := by
    rw [(Cell.writeAll_facts _ _).2.2]; simp [bytes0]
  have b2 : (stringAt Zs.cS Zs.kS Zs.fv Zs.fc (stringToUtf16 text) W.heap.size).slots.size = 4 := by simp [string0, Cell.setSlot, hn4]
  have b3 : (freshCell P1.m.cls kX).slots.size = 6 := by simp [hn6]
  rw [b1, b2, b3] at X5
  have e9 : slots + (stringBytes (stringToUtf16 text)).size + 4 + 6 = slots + ((stringBytes (stringToUtf16 text)).size + 4 + 6) := by omega
  rw [e9] at X5
  simp only [List.append_assoc, List.cons_append, List.nil_append] at X5
  refine ⟨((withThrown W Zs text P1.m.cls kX).setVm vm').setCell (W.heap.size + 2) (plainBareV T.toThrowableT (freshCell P1.m.cls kX) (W.heap.size + 2) u0 sen (.ref (W.heap.size + 1))), W.heap.size + 2, _, fun target ht => st _ (by rw [X.tail, ← hU]; exact ht),
    X5.forget (fun y hy => ?_), heapAt_setCell_self _ ha, hfound, rfl⟩
  simp only [List.mem_cons, List.not_mem_nil, or_false] at hy
  have hge : s.heap.size ≤ W.heap.size := X.same.2.1
  rcases hy with rfl | rfl | rfl | rfl | rfl <;> exact Nat.le_trans hge (Nat.le_add_right _ 2)
set_option maxHeartbeats 1000000 in
/-- the machine throws NullPointerException, no traces kept: from its note over the frame g to 'throwing' over the same frame (follows the proof of Stand.vmThrowsNpe, Shelf42/KT2.lean; throwsNpeColdBareVAt, Shelf42/NT91.lean, called) -/
theorem vx_npeAt {p : Program} {l : Launch} {e : Env} {R : Room} {s : State} {m₀ : MethodId} {args : Array Value} {below : List Frame} {meth : Method} {c : Code} {W : State} {locs : List Loc} {cells slots : Nat}
    (X : Stand p l e R s m₀ args below meth c W locs cells slots) (hexec : p.tables.exec = Jvm.exec) (htr : e.platform.stackTraces = false) {n : Nat}
    (h : ∀ a ∈ Bundle.npeArmAtoms n, a.before args s = true)
    (hlocs : ∀ x ∈ locs, ∀ cell, s.heap[x.base]? = some cell → cell.vm.isStatics = false)
    {g : JFrame} (hg : g.method = m₀) (hsize : g.locals.size = c.maxLocals)
    (hRframes : 7 < R.frames) (hRlocals : 2 * g.monitorRoom + (g.stack.map fun v => v.category).sum + 10240 ≤ R.locals)
    (hRcells : cells + 1 ≤ R.cells) (hRslots : slots + n ≤ R.slots) (hlocks : meth.locks = false) :
    ∃ (S : State) (q : Addr) (ce : Cell), (∀ target, Steps p.tables e below ((S.setTop g).pushFrame (.throwing q)) target → Steps p.tables e below ((W.setTop g).pushFrame (.throwNew "java/lang/NullPointerException" none none)) target) ∧
      Stand p l e R s m₀ args below meth c S locs (cells + 1) (slots + n) ∧ S.heap[q]? = some ce ∧ s.vm.findClass "java/lang/NullPointerException" = some ce.cls ∧ ce.vm = .none := by
  have howns : e.platform.frameOwnsMonitors = true := by rw [X.admits.platform]
  have hfin : e.platform.finalization = false := by rw [X.admits.platform]
  have hpl : e.platform.magicAccessors = ({} : Platform).magicAccessors := by rw [X.admits.platform]
  have hpl2 : e.platform.arrayCloneIsPublic = true := by rw [X.admits.platform]
  have a' : ∀ x, x ∈ Bundle.npeArmAtoms n → x.holds args s none s [] = true := fun x hx => h x hx
  obtain ⟨T, Z, L, LZ, Y⟩ := ThrowableC.of_atoms (args := args) howns hfin hpl (fun x hx => h x (by simp [Bundle.npeArmAtoms, hx]))
  obtain ⟨N, LN, hcN, hnNF, hordN, hffS⟩ := NpeC.of_atoms (args := args) hpl hpl2 L Y (fun x hx => h x (by simp [Bundle.npeArmAtoms, hx]))
  obtain ⟨P1, L1, hP1m, hP1s⟩ := PassC.of_atoms (args := args) (s := s) hpl (X := Bundle.nN) (Y := Bundle.rN) (by decide) (by decide) LibCode.NullPointerException.Init0.at_0 LibCode.NullPointerException.Init0.at_1 LibCode.NullPointerException.Init0.at_4 (fun x hx => h x (by simp [Bundle.npeArmAtoms, hx]))
  obtain ⟨PR, LR, hPRm, hPRs⟩ := PassC.of_atoms (args := args) (s := s) hpl (X := Bundle.rN) (Y := Bundle.eN) (by decide) (by decide) LibCode.RuntimeException.Init0.at_0 LibCode.RuntimeException.Init0.at_1 LibCode.RuntimeException.Init0.at_4 (fun x hx => h x (by simp [Bundle.npeArmAtoms, hx]))
  obtain ⟨PE, LEx, hPEm, hPEs⟩ := PassC.of_atoms (args := args) (s := s) hpl (X := Bundle.eN) (Y := Bundle.tN) (by decide) (by decide) LibCode.Exception.Init0.at_0 LibCode.Exception.Init0.at_1 LibCode.Exception.Init0.at_4 (fun x hx => h x (by simp [Bundle.npeArmAtoms, hx]))
  have hfound : s.vm.findClass Bundle.nN = some P1.m.cls := findClass_of_methodNamed hP1m
  have ecls : N.cN = P1.m.cls := Option.some.inj (hcN.symm.trans hfound)
  have hk : s.vm.classes[P1.m.cls]? = some N.kN := by rw [← ecls]; exact LN.cls
  have hinit := Cond.initialized_spec hfound hk (a' (.initialized Bundle.nN) (by simp [Bundle.npeArmAtoms]))
  have hctor : N.kN.findMethod "<init>" "()V" = some P1.m.idx := findMethod_of_methodNamed hP1m hk
  obtain ⟨c1, k1, hc1, hk1, -, -, -, hn⟩ := Cond.instantiable_spec (a' (.instantiable Bundle.nN n) (by simp [Bundle.npeArmAtoms]))
  cases Option.some.inj (hc1.symm.trans hfound)
  cases Option.some.inj (hk1.symm.trans hk)
  have hfsz : (freshCell P1.m.cls N.kN).slots.size = n := by simp [hn]
  have hlink1 : P1.sup = PR.m := Option.some.inj (hP1s.symm.trans hPRm)
  have hlinkR : PR.sup = PE.m := Option.some.inj (hPRs.symm.trans hPEm)
  have hlinkE : PE.sup = Z.m T.toThrowableT := Option.some.inj (hPEs.symm.trans Y.init0)
  have hLs : ∀ P, P ∈ [PR, PE] → P.Links0 e.platform s := fun P hP => by
    simp only [List.mem_cons, List.not_mem_nil, or_false] at hP
    rcases hP with rfl | rfl
    · exact LR
    · exact LEx
  have hsel0 : selectMethod e.platform s.vm P1.m.cls T.fill0 = .method T.fill0 := by
    obtain ⟨c2, r2, m2, q1, q2, q3, q4, -⟩ := Cond.selects_spec (a' (.selects Bundle.nN Bundle.tFill0 Bundle.tFill0) (by simp [Bundle.npeArmAtoms]))
    cases Option.some.inj (q1.symm.trans hfound)
    cases Option.some.inj (q2.symm.trans (State.methodFound?_of_named Y.fill0 (by decide)))
    cases Option.some.inj (q3.symm.trans Y.fill0)
    rw [Launch.admits_selectMethod X.admits]; exact q4
  have hselF : selectMethod e.platform s.vm P1.m.cls T.fill = .method N.fill := by
    obtain ⟨c2, r2, m2, q1, q2, q3, q4, -⟩ := Cond.selects_spec (a' (.selects Bundle.nN Bundle.tFill Bundle.nFill) (by simp [Bundle.npeArmAtoms]))
    cases Option.some.inj (q1.symm.trans hfound)
    cases Option.some.inj (q2.symm.trans (State.methodFound?_of_named Y.fill (by decide)))
    cases Option.some.inj (q3.symm.trans hnNF)
    rw [Launch.admits_selectMethod X.admits]; exact q4
  obtain ⟨cellS0, hcS0, hiss⟩ := Y.statics
  obtain ⟨u0, hu0⟩ := Cond.staticRefV Y.unassigned L.unassignedStatic L.statics hcS0 hiss (a' (.isRef (.static Bundle.tN "UNASSIGNED_STACK" Bundle.steD)) (by simp [Bundle.npeArmAtoms]))
  obtain ⟨sen, hsen⟩ := Cond.staticRefV Y.sentinel L.sentinelStatic L.statics hcS0 hiss (a' (.isRef (.static Bundle.tN "SUPPRESSED_SENTINEL" Bundle.listD)) (by simp [Bundle.npeArmAtoms]))
  obtain ⟨ci198, i198, fB, hk198, hg198, ha198, hsB, -, hnB, htB, hffB⟩ := Cond.ownField (t := .object "java/lang/Object") Y.found L.cls (by decide +kernel) (a' (.fieldLink Bundle.tN 198 Bundle.tN "backtrace" Bundle.objD) (by simp [Bundle.npeArmAtoms])) (a' (.lays Bundle.tN Bundle.tN "backtrace" Bundle.objD) (by simp [Bundle.npeArmAtoms])) e.platform hpl
  obtain ⟨cellS, hcS', heS, -, hkeep⟩ := X.same.2.2.2.2.2 T.aS cellS0 hcS0
  have hcellS : W.heap[T.aS]? = some cellS := hcS'
  have hout' : ∀ i, (⟨T.aS, i⟩ : Loc) ∉ locs := fun i hmem => by
    have := hlocs _ hmem cellS0 hcS0
    rw [hiss] at this; cases this
  have hknownS : cellS.vm ≠ .unknown := by
    rw [heS]; intro hu
    rw [show cellS0.vm = .unknown from hu] at hiss
    cases hiss
  have hvU : cellS.slots[T.fUnassigned.slot]? = some u0.v := by rw [hkeep _ (hout' _)]; exact hu0
  have hvSen : cellS.slots[T.fSentinel.slot]? = some sen.v := by rw [hkeep _ (hout' _)]; exact hsen
  obtain ⟨tyC, dC, hdC, hdnC⟩ := Cond.laysAt hfound hk Y.cause (a' (.lays Bundle.nN Bundle.tN "cause" "Ljava/lang/Throwable;") (by simp [Bundle.npeArmAtoms]))
  obtain ⟨tyS, dS, hdS, hdnS⟩ := Cond.laysAt hfound hk Y.stack (a' (.lays Bundle.nN Bundle.tN "stackTrace" Bundle.steD) (by simp [Bundle.npeArmAtoms]))
  obtain ⟨tyP, dP, hdP, hdnP⟩ := Cond.laysAt hfound hk Y.supp (a' (.lays Bundle.nN Bundle.tN "suppressedExceptions" Bundle.listD) (by simp [Bundle.npeArmAtoms]))
  obtain ⟨tyX, dX, hdX, hdnX⟩ := Cond.laysAt hfound hk hffS (a' (.lays Bundle.nN Bundle.nN "extendedMessageState" "I") (by simp [Bundle.npeArmAtoms, Bundle.npeAtoms]))
  obtain ⟨hnX, htX⟩ := State.fieldFound?_type hffS (t := .int) (by decide +kernel)
  have xC := Cond.laysApart hdC hdX hdnC hdnX (by rw [hnX, Y.causeName]; decide)
  have xS := Cond.laysApart hdS hdX hdnS hdnX (by rw [hnX, Y.stackName]; decide)
  have xP := Cond.laysApart hdP hdX hdnP hdnX (by rw [hnX, Y.suppName]; decide)
  have hv0 : (freshCell P1.m.cls N.kN).slots[N.fState.slot]? = some (.int 0) := by
    have := fresh_default (c := P1.m.cls) tyX
    rw [htX] at this; exact this
  obtain ⟨tyB, dB, hdB, hdnB⟩ := Cond.laysAt hfound hk hffB (a' (.lays Bundle.nN Bundle.tN "backtrace" Bundle.objD) (by simp [Bundle.npeArmAtoms]))
  have bC := Cond.laysApart hdB hdC hdnB hdnC (by rw [hnB, Y.causeName]; decide)
  have bS := Cond.laysApart hdB hdS hdnB hdnS (by rw [hnB, Y.stackName]; decide)
  have bP := Cond.laysApart hdB hdP hdnB hdnP (by rw [hnB, Y.suppName]; decide)
  have bX := Cond.laysApart hdB hdX hdnB hdnX (by rw [hnB, hnX]; decide)
  have hbk : ((npeCell N.toNpeT (preparedCellV T.toThrowableT (freshCell P1.m.cls N.kN) W.heap.size u0 sen) W.cur).withEntry W.cur).slots[fB.slot]? = some .null := by
    have := fresh_default (c := P1.m.cls) tyB
    rw [htB] at this
    simpa [npeCell, preparedCellV, Cell.setSlot, Cell.withEntry, Array.getElem?_setIfInBounds, bC, bS, bP, bX, bC.symm, bS.symm, bP.symm, bX.symm, defaultValue] using this
  have tkC := Takes.of_laid (v := .ref W.heap.size) hk hordN tyC (by rw [Y.causeType]; rfl)
  have tkS := Takes.of_laid (v := u0.v) hk hordN tyS (by rw [Y.stackType]; exact fits_refV_array _ u0)
  have tkP := Takes.of_laid (v := sen.v) hk hordN tyP (by rw [Y.suppType]; exact fits_refV_object _ sen)
  have tkX := Takes.of_laid (v := .int 1) hk hordN tyX (by rw [htX]; rfl)
  have hskip : SkipFacts T e.platform s (fun u => u) u0 ((npeCell N.toNpeT (preparedCellV T.toThrowableT (freshCell P1.m.cls N.kN) W.heap.size u0 sen) W.cur).withEntry W.cur) := ⟨{ ci198 := ci198, i198 := i198, fBack := fB }, ⟨hk198, hg198, ha198, hsB⟩, hbk, fun _ _ => rfl⟩
  obtain ⟨vm', X3, st, -⟩ := X.throwsNpeColdBareVAt hexec hg hsize T L Z LZ N LN P1 L1 [PR, PE] hLs hlink1 ⟨hlinkR, hlinkE, trivial⟩ hfound hk hinit hordN hctor hsel0 hselF hcellS hknownS hvU hvSen
    hv0 xC xS xP tkC tkS tkP tkX Y.objLocals hskip (fun _ _ hA hW _ hroom _ hrest => L.nativeOff p htr hA hW hroom hrest) (by simpa using hRframes) hRlocals (by simp) hRcells (by rw [hn]; exact hRslots)
  have hlt : W.heap.size < ((W.pushCell (freshCell P1.m.cls N.kN)).setVm vm').heap.size := by
    show W.heap.size < (W.pushCell (freshCell P1.m.cls N.kN)).heap.size
    rw [State.heap_size_pushCell]; omega
  rw [hfsz] at X3
  obtain ⟨g₁, hfrM⟩ := X3.frames_eq
  have hU : ((((W.pushCell (freshCell P1.m.cls N.kN)).setVm vm').setCell W.heap.size (npeBareV T.toThrowableT N.toNpeT (freshCell P1.m.cls N.kN) W.heap.size u0 sen)).setTop g).pushFrame (.throwing W.heap.size) = (((W.pushCell (freshCell P1.m.cls N.kN)).setVm vm').setCell W.heap.size (npeBareV T.toThrowableT N.toNpeT (freshCell P1.m.cls N.kN) W.heap.size u0 sen)).setFrames (.throwing W.heap.size :: .java g :: below) := by
    rw [State.pushFrame, State.frames_setTop _ hfrM, State.setTop_of_frames _ hfrM, State.setFrames_setFrames]
  refine ⟨_, W.heap.size, _, fun target ht => st.trans (by rw [← hU]; exact ht), X3.forget (fun y hy => ?_), heapAt_setCell_self _ hlt, hfound, rfl⟩
  simp only [List.mem_cons, List.not_mem_nil, or_false] at hy
  have hge : s.heap.size ≤ W.heap.size := X.same.2.1
  rcases hy with rfl | rfl | rfl | rfl | rfl <;> exact hge
/-- the words of a machine's NullPointerException, but the four that speak of the heap -/
def vx_atN (n : Nat) : List Cond := (Bundle.npeArmAtoms n).filter vx_no
/-- the words of a machine's throw with a message, but the four that speak of the heap -/
def vx_atM (X : String) (names : List String) : List Cond := (Bundle.messageArmAtoms X names).filter vx_no
section
variable {p : Program} {l : Launch} {e : Env} {R : Room} {s : State} {m : MethodId} {args : Array Value} {below : List Frame} {meth : Method} {c : Code} {H : Heap} {locs : List Loc} {cells slots : Nat}
/-- a frame seen from a rebased start, seen from the first start again -/
theorem vx_back9 {T S : State} {R' : Room} {k n : Nat} (X : Stand p l e R s m args below meth c T locs cells slots) (Y : Stand p l e R' ((T.setVm s.vm).setFrames (.invoking m args :: below)) m args below meth c T [] 0 0) (Z : Stand p l e R' ((T.setVm s.vm).setFrames (.invoking m args :: below)) m args below meth c S [] k n) :
    Stand p l e R s m args below meth c S locs (cells + k) (slots + n) := by
  have hW0 : s.WarmedH ((T.setVm s.vm).setFrames (.invoking m args :: below)).vm := State.WarmedH.refl s
  refine { admits := X.admits, cas := X.cas, clock := X.clock, frames := X.frames, room := X.room, hears := X.hears, method := X.method, code := X.code, here := Z.here, tail := Z.tail, warmed := State.WarmedH.trans hW0 Z.warmed, limits := Z.limits.trans (Y.limits.symm.trans X.limits), bytes := Z.bytes.trans (Y.bytes.symm.trans X.bytes), same := ?_ }
  obtain ⟨e1, e2⟩ := Z.same
  rw [State.setFrames_setFrames] at e1
  have h2 : (T.setVm s.vm).sameButNew (S.setVm s.vm) [] k n := ⟨e1, e2⟩
  have h3 := X.same.trans h2
  rw [List.append_nil] at h3
  exact h3
/-- from the machine's note that E is thrown here with this text -/
def vx_Note (p : Program) (l : Launch) (e : Env) (R : Room) (s : State) (m : MethodId) (args : Array Value) (below : List Frame) (meth : Method) (c : Code) (H : Heap) (locs : List Loc) (cells slots : Nat) (Q : State → Prop) (g : JFrame) (E text : String) : Prop :=
  ∀ T : State, T.heap = H → Stand p l e R s m args below meth c T locs cells slots → ∃ t, Steps p.tables e below ((T.setTop g).pushFrame (.throwNew E (some text) none)) t ∧ Q t
theorem vx_vm {pc : Nat} {ls : Array Slot} {rest : List Value} {Q : State → Prop} (hexec : p.tables.exec = Jvm.exec) (hl : l.stackTraces = false) {cls text : String} {names : List String} {nb : Nat} {A : Nat → Prop}
    (hcls : Bundle.fit cls = true) (hnames : ∀ n ∈ names, Bundle.fit n = true) (hsoe : (cls == "java/lang/StackOverflowError") = false) (hoom : (cls == "java/lang/OutOfMemoryError") = false)
    (hat : ∀ w ∈ vx_atM cls names, w.before args s = true) (hgood : ∀ w ∈ vx_atM cls names, vx_ot w = true)
    (hU : vx_Zq Bundle.tN "UNASSIGNED_STACK" Bundle.steD A s s.heap) (hN : vx_Zq Bundle.tN "SUPPRESSED_SENTINEL" Bundle.listD A s s.heap) (hS : va_S A s.heap H locs) (hsize : ls.size = c.maxLocals)
    (htext : (text == notModelled) = false) (hnb : (stringBytes (stringToUtf16 text)).size ≤ nb) (hnb1 : nb ≤ 1000)
    (hRframes : names.length + 4 < R.frames) (hRlocals : (rest.map fun v => v.category).sum + 10240 ≤ R.locals) (hshort : 13 * names.length + 55 ≤ 10240) (hRcells : cells + 3 ≤ R.cells) (hRslots : slots + (nb + 10) ≤ R.slots) (hlocks : meth.locks = false)
    (k : ∀ (H1 : Heap) (q9 : Addr) (ce : Cell), H.size ≤ H1.size → (∀ q : Nat, q < H.size → H1[q]? = H[q]?) → va_S A s.heap H1 locs → H1[q9]? = some ce → ce.vm = .none → s.vm.findClass cls = some ce.cls → vx_W p l e R s m args below meth c H1 locs (cells + 3) (slots + (nb + 10)) Q (F0 m pc ls rest) q9) :
    vx_Note p l e R s m args below meth c H locs cells slots Q (F0 m pc ls rest) cls text := by
  intro T hT X
  have htr : e.platform.stackTraces = false := (show e.platform.stackTraces = l.stackTraces by rw [X.admits.platform]).trans hl
  have Y := vx_rebase X (R' := { frames := R.frames, locals := R.locals, cells := 3, slots := nb + 10 }) (Nat.le_refl _) (Nat.le_refl _) hRcells hRslots
  have hhp : ((T.setVm s.vm).setFrames (.invoking m args :: below)).heap = H := hT
  have hW0 : s.WarmedH ((T.setVm s.vm).setFrames (.invoking m args :: below)).vm := State.WarmedH.refl s
  have hat' : ∀ w ∈ vx_atM cls names, w.before args ((T.setVm s.vm).setFrames (.invoking m args :: below)) = true := fun w hw => vx_ot_at hW0 rfl (hgood w hw) (hat w hw)
  have hU' : vx_Zq Bundle.tN "UNASSIGNED_STACK" Bundle.steD A ((T.setVm s.vm).setFrames (.invoking m args :: below)) ((T.setVm s.vm).setFrames (.invoking m args :: below)).heap := by rw [hhp]; exact vx_Zq.moved hW0.alike (hU.kept hS.2.1)
  have hN' : vx_Zq Bundle.tN "SUPPRESSED_SENTINEL" Bundle.listD A ((T.setVm s.vm).setFrames (.invoking m args :: below)) ((T.setVm s.vm).setFrames (.invoking m args :: below)).heap := by rw [hhp]; exact vx_Zq.moved hW0.alike (hN.kept hS.2.1)
  obtain ⟨S, q, ce, st, Z, hce, hcl', hv⟩ := vx_vmAt Y hexec htr (cls := cls) (names := names) (text := text) hcls hnames hsoe hoom (vx_own hat' (vx_isRefq hU'.1) (vx_isRefq hN'.1) hU'.2.word hN'.2.word) (fun x hx => nomatch hx) htext
    (by rw [Launch.admits_arrayLengthLimit X.admits]; omega) (by rw [Launch.admits_maxHeapBytes X.admits]; simp only [componentBytes]; omega)
    (g := F0 m pc ls rest) rfl hsize hRframes (by show 2 * 0 + (rest.map fun v => v.category).sum + 10240 ≤ R.locals; omega) hshort (by show 0 + 3 ≤ 3; omega) (by show 0 + (_ + 4 + 6) ≤ nb + 10; omega) hlocks
  obtain ⟨f1, f2⟩ := vx_frame Z.same
  have f1' : H.size ≤ S.heap.size := by rw [← hT]; exact f1
  have f2' : ∀ q : Nat, q < H.size → S.heap[q]? = H[q]? := fun q hq => by
    rw [← hT]
    exact f2 q (by rw [← hT] at hq; exact hq) (fun z hz => nomatch hz)
  have X5 := vx_back9 X Y Z
  have X6 : Stand p l e R s m args below meth c S locs (cells + 3) (slots + (nb + 10)) := { X5 with same := X5.same.mono (by omega) (by omega) }
  obtain ⟨t, a1, b1⟩ := k S.heap q ce f1' f2' ⟨Nat.le_trans hS.1 f1', fun q h1 h2 => (f2' q (Nat.lt_of_lt_of_le h1 hS.1)).trans (hS.2.1 q h1 h2), hS.2.2⟩ hce hv hcl' S rfl X6
  exact ⟨t, st t a1, b1⟩
/-- from the machine's note that NullPointerException is thrown here -/
def vx_NoteN (p : Program) (l : Launch) (e : Env) (R : Room) (s : State) (m : MethodId) (args : Array Value) (below : List Frame) (meth : Method) (c : Code) (H : Heap) (locs : List Loc) (cells slots : Nat) (Q : State → Prop) (g : JFrame) : Prop :=
  ∀ T : State, T.heap = H → Stand p l e R s m args below meth c T locs cells slots → ∃ t, Steps p.tables e below ((T.setTop g).pushFrame (.throwNew "java/lang/NullPointerException" none none)) t ∧ Q t
theorem vx_npe {pc : Nat} {ls : Array Slot} {rest : List Value} {Q : State → Prop} (hexec : p.tables.exec = Jvm.exec) (hl : l.stackTraces = false) {nb : Nat} {A : Nat → Prop}
    (hat : ∀ w ∈ vx_atN nb, w.before args s = true) (hgood : ∀ w ∈ vx_atN nb, vx_ot w = true)
    (hU : vx_Zq Bundle.tN "UNASSIGNED_STACK" Bundle.steD A s s.heap) (hN : vx_Zq Bundle.tN "SUPPRESSED_SENTINEL" Bundle.listD A s s.heap) (hS : va_S A s.heap H locs) (hsize : ls.size = c.maxLocals)
    (hRframes : 7 < R.frames) (hRlocals : (rest.map fun v => v.category).sum + 10240 ≤ R.locals) (hRcells : cells + 1 ≤ R.cells) (hRslots : slots + nb ≤ R.slots) (hlocks : meth.locks = false)
    (k : ∀ (H1 : Heap) (q9 : Addr) (ce : Cell), H.size ≤ H1.size → (∀ q : Nat, q < H.size → H1[q]? = H[q]?) → va_S A s.heap H1 locs → H1[q9]? = some ce → ce.vm = .none → s.vm.findClass "java/lang/NullPointerException" = some ce.cls → vx_W p l e R s m args below meth c H1 locs (cells + 1) (slots + nb) Q (F0 m pc ls rest) q9) :
    vx_NoteN p l e R s m args below meth c H locs cells slots Q (F0 m pc ls rest) := by
  intro T hT X
  have htr : e.platform.stackTraces = false := (show e.platform.stackTraces = l.stackTraces by rw [X.admits.platform]).trans hl
  have Y := vx_rebase X (R' := { frames := R.frames, locals := R.locals, cells := 1, slots := nb }) (Nat.le_refl _) (Nat.le_refl _) hRcells hRslots
  have hhp : ((T.setVm s.vm).setFrames (.invoking m args :: below)).heap = H := hT
  have hW0 : s.WarmedH ((T.setVm s.vm).setFrames (.invoking m args :: below)).vm := State.WarmedH.refl s
  have hat' : ∀ w ∈ vx_atN nb, w.before args ((T.setVm s.vm).setFrames (.invoking m args :: below)) = true := fun w hw => vx_ot_at hW0 rfl (hgood w hw) (hat w hw)
  have hU' : vx_Zq Bundle.tN "UNASSIGNED_STACK" Bundle.steD A ((T.setVm s.vm).setFrames (.invoking m args :: below)) ((T.setVm s.vm).setFrames (.invoking m args :: below)).heap := by rw [hhp]; exact vx_Zq.moved hW0.alike (hU.kept hS.2.1)
  have hN' : vx_Zq Bundle.tN "SUPPRESSED_SENTINEL" Bundle.listD A ((T.setVm s.vm).setFrames (.invoking m args :: below)) ((T.setVm s.vm).setFrames (.invoking m args :: below)).heap := by rw [hhp]; exact vx_Zq.moved hW0.alike (hN.kept hS.2.1)
  obtain ⟨S, q, ce, st, Z, hce, hcl', hv⟩ := vx_npeAt Y hexec htr (n := nb) (vx_own hat' (vx_isRefq hU'.1) (vx_isRefq hN'.1) hU'.2.word hN'.2.word) (fun x hx => nomatch hx)
    (g := F0 m pc ls rest) rfl hsize hRframes (by show 2 * 0 + (rest.map fun v => v.category).sum + 10240 ≤ R.locals; omega) (by show 0 + 1 ≤ 1; omega) (by show 0 + nb ≤ nb; omega) hlocks
  obtain ⟨f1, f2⟩ := vx_frame Z.same
  have f1' : H.size ≤ S.heap.size := by rw [← hT]; exact f1
  have f2' : ∀ q : Nat, q < H.size → S.heap[q]? = H[q]? := fun q hq => by
    rw [← hT]
    exact f2 q (by rw [← hT] at hq; exact hq) (fun z hz => nomatch hz)
  have X5 := vx_back9 X Y Z
  have X6 : Stand p l e R s m args below meth c S locs (cells + 1) (slots + nb) := { X5 with same := X5.same.mono (by omega) (by omega) }
  obtain ⟨t, a1, b1⟩ := k S.heap q ce f1' f2' ⟨Nat.le_trans hS.1 f1', fun q h1 h2 => (f2' q (Nat.lt_of_lt_of_le h1 hS.1)).trans (hS.2.1 q h1 h2), hS.2.2⟩ hce hv hcl' S rfl X6
  exact ⟨t, st t a1, b1⟩
variable {Q : State → Prop} {cc : ByteArray} {pc : Nat} {ls : Array Slot} {rest : List Value}
theorem vx_idivZ (hexec : p.tables.exec = Jvm.exec) (hb : c.code = cc) {a b : Int32} (h0 : b = 0) (d : decode cc pc = .ok (.idiv, 1)) (k : vx_Note p l e R s m args below meth c H locs cells slots Q (F0 m pc ls rest) "java/lang/ArithmeticException" "/ by zero") :
    W p l e R s m args below meth c H locs cells slots Q (F0 m pc ls (.int b :: .int a :: rest)) := by
  intro T hT X
  obtain ⟨t, st, q⟩ := k T hT X
  exact ⟨t, X.idivZero hexec (g := F0 m pc ls (.int b :: .int a :: rest)) rfl (a := a) (rest := rest) (by rw [h0]) (by rw [hb]; exact d) t st, q⟩
theorem vx_iremZ (hexec : p.tables.exec = Jvm.exec) (hb : c.code = cc) {a b : Int32} (h0 : b = 0) (d : decode cc pc = .ok (.irem, 1)) (k : vx_Note p l e R s m args below meth c H locs cells slots Q (F0 m pc ls rest) "java/lang/ArithmeticException" "/ by zero") :
    W p l e R s m args below meth c H locs cells slots Q (F0 m pc ls (.int b :: .int a :: rest)) := by
  intro T hT X
  obtain ⟨t, st, q⟩ := k T hT X
  exact ⟨t, X.iremZero hexec (g := F0 m pc ls (.int b :: .int a :: rest)) rfl (a := a) (rest := rest) (by rw [h0]) (by rw [hb]; exact d) t st, q⟩
theorem vx_ldivZ (hexec : p.tables.exec = Jvm.exec) (hb : c.code = cc) {a b : Int64} (h0 : b = 0) (d : decode cc pc = .ok (.ldiv, 1)) (k : vx_Note p l e R s m args below meth c H locs cells slots Q (F0 m pc ls rest) "java/lang/ArithmeticException" "/ by zero") :
    W p l e R s m args below meth c H locs cells slots Q (F0 m pc ls (.long b :: .long a :: rest)) := by
  intro T hT X
  obtain ⟨t, st, q⟩ := k T hT X
  exact ⟨t, X.ldivZero hexec (g := F0 m pc ls (.long b :: .long a :: rest)) rfl (a := a) (rest := rest) (by rw [h0]) (by rw [hb]; exact d) t st, q⟩
theorem vx_lremZ (hexec : p.tables.exec = Jvm.exec) (hb : c.code = cc) {a b : Int64} (h0 : b = 0) (d : decode cc pc = .ok (.lrem, 1)) (k : vx_Note p l e R s m args below meth c H locs cells slots Q (F0 m pc ls rest) "java/lang/ArithmeticException" "/ by zero") :
    W p l e R s m args below meth c H locs cells slots Q (F0 m pc ls (.long b :: .long a :: rest)) := by
  intro T hT X
  obtain ⟨t, st, q⟩ := k T hT X
  exact ⟨t, X.lremZero hexec (g := F0 m pc ls (.long b :: .long a :: rest)) rfl (a := a) (rest := rest) (by rw [h0]) (by rw [hb]; exact d) t st, q⟩
theorem vx_ialdZ {D : va_G} {cl : List vw_C} {ws : va_W} {tys : List (ClassId × FieldType)} {a : Nat} (hexec : p.tables.exec = Jvm.exec) (hb : c.code = cc) (hK : va_K D cl tys s) (hP : va_P D cl ws H) (q0 t0 : Nat) {cA : ClassId} {n : Nat} {f : Nat → Int32} (ha : ws[q0]? = some (a, .inl (cA, n, .inl f))) (ht : tys[t0]? = some (cA, .int)) {i : Int32} (hout : ¬ vp_in i n) (hdg : decode cc pc = .ok (.iaload, 1))
    (k : ∀ tx : String, tx = (toString "Index " ++ toString i ++ toString " out of bounds for length " ++ toString n : String) → vx_Note p l e R s m args below meth c H locs cells slots Q (F0 m pc ls rest) "java/lang/ArrayIndexOutOfBoundsException" tx) : W p l e R s m args below meth c H locs cells slots Q (F0 m pc ls (.int i :: .ref a :: rest)) := by
  intro T hT X
  obtain ⟨t, st, q⟩ := k _ rfl T hT X
  refine ⟨t, ?_, q⟩
  have h1 := X.ialoadOut hexec (by rw [hT]; exact hP q0 _ ha) ((hK.2 t0 _ ht).1 n (fun j => .int (f j))) (j := i) (by show (i < 0 ∨ (arrV _ _ _).slots.size ≤ _); rw [arrV_size]; exact Classical.byContradiction hout) (g := F0 m pc ls (.int i :: .ref a :: rest)) rfl (rest := rest) rfl (by rw [hb]; exact hdg) t
  simp only [arrV_size] at h1
  exact h1 st
theorem vx_iastZ {D : va_G} {cl : List vw_C} {ws : va_W} {tys : List (ClassId × FieldType)} {a : Nat} (hexec : p.tables.exec = Jvm.exec) (hb : c.code = cc) (hK : va_K D cl tys s) (hP : va_P D cl ws H) (q0 t0 : Nat) {cA : ClassId} {n : Nat} {f : Nat → Int32} (ha : ws[q0]? = some (a, .inl (cA, n, .inl f))) (ht : tys[t0]? = some (cA, .int)) {i : Int32} {x : Int32} (hout : ¬ vp_in i n) (hdg : decode cc pc = .ok (.iastore, 1))
    (k : ∀ tx : String, tx = (toString "Index " ++ toString i ++ toString " out of bounds for length " ++ toString n : String) → vx_Note p l e R s m args below meth c H locs cells slots Q (F0 m pc ls rest) "java/lang/ArrayIndexOutOfBoundsException" tx) : W p l e R s m args below meth c H locs cells slots Q (F0 m pc ls (.int x :: .int i :: .ref a :: rest)) := by
  intro T hT X
  obtain ⟨t, st, q⟩ := k _ rfl T hT X
  refine ⟨t, ?_, q⟩
  have h1 := X.iastoreOut hexec (by rw [hT]; exact hP q0 _ ha) ((hK.2 t0 _ ht).1 n (fun j => .int (f j))) (j := i) (by show (i < 0 ∨ (arrV _ _ _).slots.size ≤ _); rw [arrV_size]; exact Classical.byContradiction hout) (g := F0 m pc ls (.int x :: .int i :: .ref a :: rest)) rfl (rest := rest) rfl (by rw [hb]; exact hdg) t
  simp only [arrV_size] at h1
  exact h1 st
theorem vx_baldZ {D : va_G} {cl : List vw_C} {ws : va_W} {tys : List (ClassId × FieldType)} {a : Nat} (hexec : p.tables.exec = Jvm.exec) (hb : c.code = cc) (hK : va_K D cl tys s) (hP : va_P D cl ws H) (q0 t0 : Nat) {cA : ClassId} {n : Nat} {f : Nat → Int32} (ha : ws[q0]? = some (a, .inl (cA, n, .inl f))) (ht : tys[t0]? = some (cA, .byte)) {i : Int32} (hout : ¬ vp_in i n) (hdg : decode cc pc = .ok (.baload, 1))
    (k : ∀ tx : String, tx = (toString "Index " ++ toString i ++ toString " out of bounds for length " ++ toString n : String) → vx_Note p l e R s m args below meth c H locs cells slots Q (F0 m pc ls rest) "java/lang/ArrayIndexOutOfBoundsException" tx) : W p l e R s m args below meth c H locs cells slots Q (F0 m pc ls (.int i :: .ref a :: rest)) := by
  intro T hT X
  obtain ⟨t, st, q⟩ := k _ rfl T hT X
  refine ⟨t, ?_, q⟩
  have h1 := X.baloadOut hexec (by rw [hT]; exact hP q0 _ ha) ((hK.2 t0 _ ht).1 n (fun j => .int (f j))) (j := i) (by show (i < 0 ∨ (arrV _ _ _).slots.size ≤ _); rw [arrV_size]; exact Classical.byContradiction hout) (g := F0 m pc ls (.int i :: .ref a :: rest)) rfl (rest := rest) rfl (by rw [hb]; exact hdg) t
  simp only [arrV_size] at h1
  exact h1 st
theorem vx_bastZ {D : va_G} {cl : List vw_C} {ws : va_W} {tys : List (ClassId × FieldType)} {a : Nat} (hexec : p.tables.exec = Jvm.exec) (hb : c.code = cc) (hK : va_K D cl tys s) (hP : va_P D cl ws H) (q0 t0 : Nat) {cA : ClassId} {n : Nat} {f : Nat → Int32} (ha : ws[q0]? = some (a, .inl (cA, n, .inl f))) (ht : tys[t0]? = some (cA, .byte)) {i : Int32} {x : Int32} (hout : ¬ vp_in i n) (hdg : decode cc pc = .ok (.bastore, 1))
    (k : ∀ tx : String, tx = (toString "Index " ++ toString i ++ toString " out of bounds for length " ++ toString n : String) → vx_Note p l e R s m args below meth c H locs cells slots Q (F0 m pc ls rest) "java/lang/ArrayIndexOutOfBoundsException" tx) : W p l e R s m args below meth c H locs cells slots Q (F0 m pc ls (.int x :: .int i :: .ref a :: rest)) := by
  intro T hT X
  obtain ⟨t, st, q⟩ := k _ rfl T hT X
  refine ⟨t, ?_, q⟩
  have h1 := X.bastoreOut hexec (by rw [hT]; exact hP q0 _ ha) ((hK.2 t0 _ ht).1 n (fun j => .int (f j))) (j := i) (by show (i < 0 ∨ (arrV _ _ _).slots.size ≤ _); rw [arrV_size]; exact Classical.byContradiction hout) (g := F0 m pc ls (.int x :: .int i :: .ref a :: rest)) rfl (rest := rest) rfl (by rw [hb]; exact hdg) t
  simp only [arrV_size] at h1
  exact h1 st
theorem vx_zaldZ {D : va_G} {cl : List vw_C} {ws : va_W} {tys : List (ClassId × FieldType)} {a : Nat} (hexec : p.tables.exec = Jvm.exec) (hb : c.code = cc) (hK : va_K D cl tys s) (hP : va_P D cl ws H) (q0 t0 : Nat) {cA : ClassId} {n : Nat} {f : Nat → Int32} (ha : ws[q0]? = some (a, .inl (cA, n, .inl f))) (ht : tys[t0]? = some (cA, .boolean)) {i : Int32} (hout : ¬ vp_in i n) (hdg : decode cc pc = .ok (.baload, 1))
    (k : ∀ tx : String, tx = (toString "Index " ++ toString i ++ toString " out of bounds for length " ++ toString n : String) → vx_Note p l e R s m args below meth c H locs cells slots Q (F0 m pc ls rest) "java/lang/ArrayIndexOutOfBoundsException" tx) : W p l e R s m args below meth c H locs cells slots Q (F0 m pc ls (.int i :: .ref a :: rest)) := by
  intro T hT X
  obtain ⟨t, st, q⟩ := k _ rfl T hT X
  refine ⟨t, ?_, q⟩
  have h1 := X.baloadOut hexec (by rw [hT]; exact hP q0 _ ha) ((hK.2 t0 _ ht).1 n (fun j => .int (f j))) (j := i) (by show (i < 0 ∨ (arrV _ _ _).slots.size ≤ _); rw [arrV_size]; exact Classical.byContradiction hout) (g := F0 m pc ls (.int i :: .ref a :: rest)) rfl (rest := rest) rfl (by rw [hb]; exact hdg) t
  simp only [arrV_size] at h1
  exact h1 st
theorem vx_zastZ {D : va_G} {cl : List vw_C} {ws : va_W} {tys : List (ClassId × FieldType)} {a : Nat} (hexec : p.tables.exec = Jvm.exec) (hb : c.code = cc) (hK : va_K D cl tys s) (hP : va_P D cl ws H) (q0 t0 : Nat) {cA : ClassId} {n : Nat} {f : Nat → Int32} (ha : ws[q0]? = some (a, .inl (cA, n, .inl f))) (ht : tys[t0]? = some (cA, .boolean)) {i : Int32} {x : Int32} (hout : ¬ vp_in i n) (hdg : decode cc pc = .ok (.bastore, 1))
    (k : ∀ tx : String, tx = (toString "Index " ++ toString i ++ toString " out of bounds for length " ++ toString n : String) → vx_Note p l e R s m args below meth c H locs cells slots Q (F0 m pc ls rest) "java/lang/ArrayIndexOutOfBoundsException" tx) : W p l e R s m args below meth c H locs cells slots Q (F0 m pc ls (.int x :: .int i :: .ref a :: rest)) := by
  intro T hT X
  obtain ⟨t, st, q⟩ := k _ rfl T hT X
  refine ⟨t, ?_, q⟩
  have h1 := X.bastoreOut hexec (by rw [hT]; exact hP q0 _ ha) ((hK.2 t0 _ ht).1 n (fun j => .int (f j))) (j := i) (by show (i < 0 ∨ (arrV _ _ _).slots.size ≤ _); rw [arrV_size]; exact Classical.byContradiction hout) (g := F0 m pc ls (.int x :: .int i :: .ref a :: rest)) rfl (rest := rest) rfl (by rw [hb]; exact hdg) t
  simp only [arrV_size] at h1
  exact h1 st
theorem vx_caldZ {D : va_G} {cl : List vw_C} {ws : va_W} {tys : List (ClassId × FieldType)} {a : Nat} (hexec : p.tables.exec = Jvm.exec) (hb : c.code = cc) (hK : va_K D cl tys s) (hP : va_P D cl ws H) (q0 t0 : Nat) {cA : ClassId} {n : Nat} {f : Nat → Int32} (ha : ws[q0]? = some (a, .inl (cA, n, .inl f))) (ht : tys[t0]? = some (cA, .char)) {i : Int32} (hout : ¬ vp_in i n) (hdg : decode cc pc = .ok (.caload, 1))
    (k : ∀ tx : String, tx = (toString "Index " ++ toString i ++ toString " out of bounds for length " ++ toString n : String) → vx_Note p l e R s m args below meth c H locs cells slots Q (F0 m pc ls rest) "java/lang/ArrayIndexOutOfBoundsException" tx) : W p l e R s m args below meth c H locs cells slots Q (F0 m pc ls (.int i :: .ref a :: rest)) := by
  intro T hT X
  obtain ⟨t, st, q⟩ := k _ rfl T hT X
  refine ⟨t, ?_, q⟩
  have h1 := X.caloadOut hexec (by rw [hT]; exact hP q0 _ ha) ((hK.2 t0 _ ht).1 n (fun j => .int (f j))) (j := i) (by show (i < 0 ∨ (arrV _ _ _).slots.size ≤ _); rw [arrV_size]; exact Classical.byContradiction hout) (g := F0 m pc ls (.int i :: .ref a :: rest)) rfl (rest := rest) rfl (by rw [hb]; exact hdg) t
  simp only [arrV_size] at h1
  exact h1 st
theorem vx_castZ {D : va_G} {cl : List vw_C} {ws : va_W} {tys : List (ClassId × FieldType)} {a : Nat} (hexec : p.tables.exec = Jvm.exec) (hb : c.code = cc) (hK : va_K D cl tys s) (hP : va_P D cl ws H) (q0 t0 : Nat) {cA : ClassId} {n : Nat} {f : Nat → Int32} (ha : ws[q0]? = some (a, .inl (cA, n, .inl f))) (ht : tys[t0]? = some (cA, .char)) {i : Int32} {x : Int32} (hout : ¬ vp_in i n) (hdg : decode cc pc = .ok (.castore, 1))
    (k : ∀ tx : String, tx = (toString "Index " ++ toString i ++ toString " out of bounds for length " ++ toString n : String) → vx_Note p l e R s m args below meth c H locs cells slots Q (F0 m pc ls rest) "java/lang/ArrayIndexOutOfBoundsException" tx) : W p l e R s m args below meth c H locs cells slots Q (F0 m pc ls (.int x :: .int i :: .ref a :: rest)) := by
  intro T hT X
  obtain ⟨t, st, q⟩ := k _ rfl T hT X
  refine ⟨t, ?_, q⟩
  have h1 := X.castoreOut hexec (by rw [hT]; exact hP q0 _ ha) ((hK.2 t0 _ ht).1 n (fun j => .int (f j))) (j := i) (by show (i < 0 ∨ (arrV _ _ _).slots.size ≤ _); rw [arrV_size]; exact Classical.byContradiction hout) (g := F0 m pc ls (.int x :: .int i :: .ref a :: rest)) rfl (rest := rest) rfl (by rw [hb]; exact hdg) t
  simp only [arrV_size] at h1
  exact h1 st
theorem vx_saldZ {D : va_G} {cl : List vw_C} {ws : va_W} {tys : List (ClassId × FieldType)} {a : Nat} (hexec : p.tables.exec = Jvm.exec) (hb : c.code = cc) (hK : va_K D cl tys s) (hP : va_P D cl ws H) (q0 t0 : Nat) {cA : ClassId} {n : Nat} {f : Nat → Int32} (ha : ws[q0]? = some (a, .inl (cA, n, .inl f))) (ht : tys[t0]? = some (cA, .short)) {i : Int32} (hout : ¬ vp_in i n) (hdg : decode cc pc = .ok (.saload, 1))
    (k : ∀ tx : String, tx = (toString "Index " ++ toString i ++ toString " out of bounds for length " ++ toString n : String) → vx_Note p l e R s m args below meth c H locs cells slots Q (F0 m pc ls rest) "java/lang/ArrayIndexOutOfBoundsException" tx) : W p l e R s m args below meth c H locs cells slots Q (F0 m pc ls (.int i :: .ref a :: rest)) := by
  intro T hT X
  obtain ⟨t, st, q⟩ := k _ rfl T hT X
  refine ⟨t, ?_, q⟩
  have h1 := X.saloadOut hexec (by rw [hT]; exact hP q0 _ ha) ((hK.2 t0 _ ht).1 n (fun j => .int (f j))) (j := i) (by show (i < 0 ∨ (arrV _ _ _).slots.size ≤ _); rw [arrV_size]; exact Classical.byContradiction hout) (g := F0 m pc ls (.int i :: .ref a :: rest)) rfl (rest := rest) rfl (by rw [hb]; exact hdg) t
  simp only [arrV_size] at h1
  exact h1 st
theorem vx_sastZ {D : va_G} {cl : List vw_C} {ws : va_W} {tys : List (ClassId × FieldType)} {a : Nat} (hexec : p.tables.exec = Jvm.exec) (hb : c.code = cc) (hK : va_K D cl tys s) (hP : va_P D cl ws H) (q0 t0 : Nat) {cA : ClassId} {n : Nat} {f : Nat → Int32} (ha : ws[q0]? = some (a, .inl (cA, n, .inl f))) (ht : tys[t0]? = some (cA, .short)) {i : Int32} {x : Int32} (hout : ¬ vp_in i n) (hdg : decode cc pc = .ok (.sastore, 1))
    (k : ∀ tx : String, tx = (toString "Index " ++ toString i ++ toString " out of bounds for length " ++ toString n : String) → vx_Note p l e R s m args below meth c H locs cells slots Q (F0 m pc ls rest) "java/lang/ArrayIndexOutOfBoundsException" tx) : W p l e R s m args below meth c H locs cells slots Q (F0 m pc ls (.int x :: .int i :: .ref a :: rest)) := by
  intro T hT X
  obtain ⟨t, st, q⟩ := k _ rfl T hT X
  refine ⟨t, ?_, q⟩
  have h1 := X.sastoreOut hexec (by rw [hT]; exact hP q0 _ ha) ((hK.2 t0 _ ht).1 n (fun j => .int (f j))) (j := i) (by show (i < 0 ∨ (arrV _ _ _).slots.size ≤ _); rw [arrV_size]; exact Classical.byContradiction hout) (g := F0 m pc ls (.int x :: .int i :: .ref a :: rest)) rfl (rest := rest) rfl (by rw [hb]; exact hdg) t
  simp only [arrV_size] at h1
  exact h1 st
theorem vx_laldZ {D : va_G} {cl : List vw_C} {ws : va_W} {tys : List (ClassId × FieldType)} {a : Nat} (hexec : p.tables.exec = Jvm.exec) (hb : c.code = cc) (hK : va_K D cl tys s) (hP : va_P D cl ws H) (q0 t0 : Nat) {cA : ClassId} {n : Nat} {f : Nat → Int64} (ha : ws[q0]? = some (a, .inl (cA, n, .inr (.inl f)))) (ht : tys[t0]? = some (cA, .long)) {i : Int32} (hout : ¬ vp_in i n) (hdg : decode cc pc = .ok (.laload, 1))
    (k : ∀ tx : String, tx = (toString "Index " ++ toString i ++ toString " out of bounds for length " ++ toString n : String) → vx_Note p l e R s m args below meth c H locs cells slots Q (F0 m pc ls rest) "java/lang/ArrayIndexOutOfBoundsException" tx) : W p l e R s m args below meth c H locs cells slots Q (F0 m pc ls (.int i :: .ref a :: rest)) := by
  intro T hT X
  obtain ⟨t, st, q⟩ := k _ rfl T hT X
  refine ⟨t, ?_, q⟩
  have h1 := X.laloadOut hexec (by rw [hT]; exact hP q0 _ ha) ((hK.2 t0 _ ht).1 n (fun j => .long (f j))) (j := i) (by show (i < 0 ∨ (arrV _ _ _).slots.size ≤ _); rw [arrV_size]; exact Classical.byContradiction hout) (g := F0 m pc ls (.int i :: .ref a :: rest)) rfl (rest := rest) rfl (by rw [hb]; exact hdg) t
  simp only [arrV_size] at h1
  exact h1 st
theorem vx_lastZ {D : va_G} {cl : List vw_C} {ws : va_W} {tys : List (ClassId × FieldType)} {a : Nat} (hexec : p.tables.exec = Jvm.exec) (hb : c.code = cc) (hK : va_K D cl tys s) (hP : va_P D cl ws H) (q0 t0 : Nat) {cA : ClassId} {n : Nat} {f : Nat → Int64} (ha : ws[q0]? = some (a, .inl (cA, n, .inr (.inl f)))) (ht : tys[t0]? = some (cA, .long)) {i : Int32} {x : Int64} (hout : ¬ vp_in i n) (hdg : decode cc pc = .ok (.lastore, 1))
    (k : ∀ tx : String, tx = (toString "Index " ++ toString i ++ toString " out of bounds for length " ++ toString n : String) → vx_Note p l e R s m args below meth c H locs cells slots Q (F0 m pc ls rest) "java/lang/ArrayIndexOutOfBoundsException" tx) : W p l e R s m args below meth c H locs cells slots Q (F0 m pc ls (.long x :: .int i :: .ref a :: rest)) := by
  intro T hT X
  obtain ⟨t, st, q⟩ := k _ rfl T hT X
  refine ⟨t, ?_, q⟩
  have h1 := X.lastoreOut hexec (by rw [hT]; exact hP q0 _ ha) ((hK.2 t0 _ ht).1 n (fun j => .long (f j))) (j := i) (by show (i < 0 ∨ (arrV _ _ _).slots.size ≤ _); rw [arrV_size]; exact Classical.byContradiction hout) (g := F0 m pc ls (.long x :: .int i :: .ref a :: rest)) rfl (rest := rest) rfl (by rw [hb]; exact hdg) t
  simp only [arrV_size] at h1
  exact h1 st
theorem vx_faldZ {D : va_G} {cl : List vw_C} {ws : va_W} {tys : List (ClassId × FieldType)} {a : Nat} (hexec : p.tables.exec = Jvm.exec) (hb : c.code = cc) (hK : va_K D cl tys s) (hP : va_P D cl ws H) (q0 t0 : Nat) {cA : ClassId} {n : Nat} {f : Nat → UInt32} (ha : ws[q0]? = some (a, .inl (cA, n, .inr (.inr (.inl f))))) (ht : tys[t0]? = some (cA, .float)) {i : Int32} (hout : ¬ vp_in i n) (hdg : decode cc pc = .ok (.faload, 1))
    (k : ∀ tx : String, tx = (toString "Index " ++ toString i ++ toString " out of bounds for length " ++ toString n : String) → vx_Note p l e R s m args below meth c H locs cells slots Q (F0 m pc ls rest) "java/lang/ArrayIndexOutOfBoundsException" tx) : W p l e R s m args below meth c H locs cells slots Q (F0 m pc ls (.int i :: .ref a :: rest)) := by
  intro T hT X
  obtain ⟨t, st, q⟩ := k _ rfl T hT X
  refine ⟨t, ?_, q⟩
  have h1 := X.faloadOut hexec (by rw [hT]; exact hP q0 _ ha) ((hK.2 t0 _ ht).1 n (fun j => .float (f j))) (j := i) (by show (i < 0 ∨ (arrV _ _ _).slots.size ≤ _); rw [arrV_size]; exact Classical.byContradiction hout) (g := F0 m pc ls (.int i :: .ref a :: rest)) rfl (rest := rest) rfl (by rw [hb]; exact hdg) t
  simp only [arrV_size] at h1
  exact h1 st
theorem vx_fastZ {D : va_G} {cl : List vw_C} {ws : va_W} {tys : List (ClassId × FieldType)} {a : Nat} (hexec : p.tables.exec = Jvm.exec) (hb : c.code = cc) (hK : va_K D cl tys s) (hP : va_P D cl ws H) (q0 t0 : Nat) {cA : ClassId} {n : Nat} {f : Nat → UInt32} (ha : ws[q0]? = some (a, .inl (cA, n, .inr (.inr (.inl f))))) (ht : tys[t0]? = some (cA, .float)) {i : Int32} {x : UInt32} (hout : ¬ vp_in i n) (hdg : decode cc pc = .ok (.fastore, 1))
    (k : ∀ tx : String, tx = (toString "Index " ++ toString i ++ toString " out of bounds for length " ++ toString n : String) → vx_Note p l e R s m args below meth c H locs cells slots Q (F0 m pc ls rest) "java/lang/ArrayIndexOutOfBoundsException" tx) : W p l e R s m args below meth c H locs cells slots Q (F0 m pc ls (.float x :: .int i :: .ref a :: rest)) := by
  intro T hT X
  obtain ⟨t, st, q⟩ := k _ rfl T hT X
  refine ⟨t, ?_, q⟩
  have h1 := X.fastoreOut hexec (by rw [hT]; exact hP q0 _ ha) ((hK.2 t0 _ ht).1 n (fun j => .float (f j))) (j := i) (by show (i < 0 ∨ (arrV _ _ _).slots.size ≤ _); rw [arrV_size]; exact Classical.byContradiction hout) (g := F0 m pc ls (.float x :: .int i :: .ref a :: rest)) rfl (rest := rest) rfl (by rw [hb]; exact hdg) t
  simp only [arrV_size] at h1
  exact h1 st
theorem vx_daldZ {D : va_G} {cl : List vw_C} {ws : va_W} {tys : List (ClassId × FieldType)} {a : Nat} (hexec : p.tables.exec = Jvm.exec) (hb : c.code = cc) (hK : va_K D cl tys s) (hP : va_P D cl ws H) (q0 t0 : Nat) {cA : ClassId} {n : Nat} {f : Nat → UInt64} (ha : ws[q0]? = some (a, .inl (cA, n, .inr (.inr (.inr (.inl f)))))) (ht : tys[t0]? = some (cA, .double)) {i : Int32} (hout : ¬ vp_in i n) (hdg : decode cc pc = .ok (.daload, 1))
    (k : ∀ tx : String, tx = (toString "Index " ++ toString i ++ toString " out of bounds for length " ++ toString n : String) → vx_Note p l e R s m args below meth c H locs cells slots Q (F0 m pc ls rest) "java/lang/ArrayIndexOutOfBoundsException" tx) : W p l e R s m args below meth c H locs cells slots Q (F0 m pc ls (.int i :: .ref a :: rest)) := by
  intro T hT X
  obtain ⟨t, st, q⟩ := k _ rfl T hT X
  refine ⟨t, ?_, q⟩
  have h1 := X.daloadOut hexec (by rw [hT]; exact hP q0 _ ha) ((hK.2 t0 _ ht).1 n (fun j => .double (f j))) (j := i) (by show (i < 0 ∨ (arrV _ _ _).slots.size ≤ _); rw [arrV_size]; exact Classical.byContradiction hout) (g := F0 m pc ls (.int i :: .ref a :: rest)) rfl (rest := rest) rfl (by rw [hb]; exact hdg) t
  simp only [arrV_size] at h1
  exact h1 st
theorem vx_dastZ {D : va_G} {cl : List vw_C} {ws : va_W} {tys : List (ClassId × FieldType)} {a : Nat} (hexec : p.tables.exec = Jvm.exec) (hb : c.code = cc) (hK : va_K D cl tys s) (hP : va_P D cl ws H) (q0 t0 : Nat) {cA : ClassId} {n : Nat} {f : Nat → UInt64} (ha : ws[q0]? = some (a, .inl (cA, n, .inr (.inr (.inr (.inl f)))))) (ht : tys[t0]? = some (cA, .double)) {i : Int32} {x : UInt64} (hout : ¬ vp_in i n) (hdg : decode cc pc = .ok (.dastore, 1))
    (k : ∀ tx : String, tx = (toString "Index " ++ toString i ++ toString " out of bounds for length " ++ toString n : String) → vx_Note p l e R s m args below meth c H locs cells slots Q (F0 m pc ls rest) "java/lang/ArrayIndexOutOfBoundsException" tx) : W p l e R s m args below meth c H locs cells slots Q (F0 m pc ls (.double x :: .int i :: .ref a :: rest)) := by
  intro T hT X
  obtain ⟨t, st, q⟩ := k _ rfl T hT X
  refine ⟨t, ?_, q⟩
  have h1 := X.dastoreOut hexec (by rw [hT]; exact hP q0 _ ha) ((hK.2 t0 _ ht).1 n (fun j => .double (f j))) (j := i) (by show (i < 0 ∨ (arrV _ _ _).slots.size ≤ _); rw [arrV_size]; exact Classical.byContradiction hout) (g := F0 m pc ls (.double x :: .int i :: .ref a :: rest)) rfl (rest := rest) rfl (by rw [hb]; exact hdg) t
  simp only [arrV_size] at h1
  exact h1 st
theorem vx_arraylengthN (hexec : p.tables.exec = Jvm.exec) (hb : c.code = cc) (hdg : decode cc pc = .ok (.arraylength, 1)) (k : vx_NoteN p l e R s m args below meth c H locs cells slots Q (F0 m pc ls rest)) : W p l e R s m args below meth c H locs cells slots Q (F0 m pc ls (.null :: rest)) := by
  intro T hT X
  obtain ⟨t, st, q⟩ := k T hT X
  exact ⟨t, X.arraylengthNull hexec (g := F0 m pc ls (.null :: rest)) rfl (rest := rest) rfl (by rw [hb]; exact hdg) t st, q⟩
theorem vx_ialoadN (hexec : p.tables.exec = Jvm.exec) (hb : c.code = cc) {i : Int32} (hdg : decode cc pc = .ok (.iaload, 1)) (k : vx_NoteN p l e R s m args below meth c H locs cells slots Q (F0 m pc ls rest)) : W p l e R s m args below meth c H locs cells slots Q (F0 m pc ls (.int i :: .null :: rest)) := by
  intro T hT X
  obtain ⟨t, st, q⟩ := k T hT X
  exact ⟨t, X.ialoadNull hexec (g := F0 m pc ls (.int i :: .null :: rest)) rfl (rest := rest) rfl (by rw [hb]; exact hdg) t st, q⟩
theorem vx_laloadN (hexec : p.tables.exec = Jvm.exec) (hb : c.code = cc) {i : Int32} (hdg : decode cc pc = .ok (.laload, 1)) (k : vx_NoteN p l e R s m args below meth c H locs cells slots Q (F0 m pc ls rest)) : W p l e R s m args below meth c H locs cells slots Q (F0 m pc ls (.int i :: .null :: rest)) := by
  intro T hT X
  obtain ⟨t, st, q⟩ := k T hT X
  exact ⟨t, X.laloadNull hexec (g := F0 m pc ls (.int i :: .null :: rest)) rfl (rest := rest) rfl (by rw [hb]; exact hdg) t st, q⟩
theorem vx_faloadN (hexec : p.tables.exec = Jvm.exec) (hb : c.code = cc) {i : Int32} (hdg : decode cc pc = .ok (.faload, 1)) (k : vx_NoteN p l e R s m args below meth c H locs cells slots Q (F0 m pc ls rest)) : W p l e R s m args below meth c H locs cells slots Q (F0 m pc ls (.int i :: .null :: rest)) := by
  intro T hT X
  obtain ⟨t, st, q⟩ := k T hT X
  exact ⟨t, X.faloadNull hexec (g := F0 m pc ls (.int i :: .null :: rest)) rfl (rest := rest) rfl (by rw [hb]; exact hdg) t st, q⟩
theorem vx_daloadN (hexec : p.tables.exec = Jvm.exec) (hb : c.code = cc) {i : Int32} (hdg : decode cc pc = .ok (.daload, 1)) (k : vx_NoteN p l e R s m args below meth c H locs cells slots Q (F0 m pc ls rest)) : W p l e R s m args below meth c H locs cells slots Q (F0 m pc ls (.int i :: .null :: rest)) := by
  intro T hT X
  obtain ⟨t, st, q⟩ := k T hT X
  exact ⟨t, X.daloadNull hexec (g := F0 m pc ls (.int i :: .null :: rest)) rfl (rest := rest) rfl (by rw [hb]; exact hdg) t st, q⟩
theorem vx_aaloadN (hexec : p.tables.exec = Jvm.exec) (hb : c.code = cc) {i : Int32} (hdg : decode cc pc = .ok (.aaload, 1)) (k : vx_NoteN p l e R s m args below meth c H locs cells slots Q (F0 m pc ls rest)) : W p l e R s m args below meth c H locs cells slots Q (F0 m pc ls (.int i :: .null :: rest)) := by
  intro T hT X
  obtain ⟨t, st, q⟩ := k T hT X
  exact ⟨t, X.aaloadNull hexec (g := F0 m pc ls (.int i :: .null :: rest)) rfl (rest := rest) rfl (by rw [hb]; exact hdg) t st, q⟩
theorem vx_baloadN (hexec : p.tables.exec = Jvm.exec) (hb : c.code = cc) {i : Int32} (hdg : decode cc pc = .ok (.baload, 1)) (k : vx_NoteN p l e R s m args below meth c H locs cells slots Q (F0 m pc ls rest)) : W p l e R s m args below meth c H locs cells slots Q (F0 m pc ls (.int i :: .null :: rest)) := by
  intro T hT X
  obtain ⟨t, st, q⟩ := k T hT X
  exact ⟨t, X.baloadNull hexec (g := F0 m pc ls (.int i :: .null :: rest)) rfl (rest := rest) rfl (by rw [hb]; exact hdg) t st, q⟩
theorem vx_caloadN (hexec : p.tables.exec = Jvm.exec) (hb : c.code = cc) {i : Int32} (hdg : decode cc pc = .ok (.caload, 1)) (k : vx_NoteN p l e R s m args below meth c H locs cells slots Q (F0 m pc ls rest)) : W p l e R s m args below meth c H locs cells slots Q (F0 m pc ls (.int i :: .null :: rest)) := by
  intro T hT X
  obtain ⟨t, st, q⟩ := k T hT X
  exact ⟨t, X.caloadNull hexec (g := F0 m pc ls (.int i :: .null :: rest)) rfl (rest := rest) rfl (by rw [hb]; exact hdg) t st, q⟩
theorem vx_saloadN (hexec : p.tables.exec = Jvm.exec) (hb : c.code = cc) {i : Int32} (hdg : decode cc pc = .ok (.saload, 1)) (k : vx_NoteN p l e R s m args below meth c H locs cells slots Q (F0 m pc ls rest)) : W p l e R s m args below meth c H locs cells slots Q (F0 m pc ls (.int i :: .null :: rest)) := by
  intro T hT X
  obtain ⟨t, st, q⟩ := k T hT X
  exact ⟨t, X.saloadNull hexec (g := F0 m pc ls (.int i :: .null :: rest)) rfl (rest := rest) rfl (by rw [hb]; exact hdg) t st, q⟩
theorem vx_iastoreN (hexec : p.tables.exec = Jvm.exec) (hb : c.code = cc) {x : Int32} {i : Int32} (hdg : decode cc pc = .ok (.iastore, 1)) (k : vx_NoteN p l e R s m args below meth c H locs cells slots Q (F0 m pc ls rest)) : W p l e R s m args below meth c H locs cells slots Q (F0 m pc ls (.int x :: .int i :: .null :: rest)) := by
  intro T hT X
  obtain ⟨t, st, q⟩ := k T hT X
  exact ⟨t, X.iastoreNull hexec (g := F0 m pc ls (.int x :: .int i :: .null :: rest)) rfl (rest := rest) rfl (by rw [hb]; exact hdg) t st, q⟩
theorem vx_lastoreN (hexec : p.tables.exec = Jvm.exec) (hb : c.code = cc) {x : Int64} {i : Int32} (hdg : decode cc pc = .ok (.lastore, 1)) (k : vx_NoteN p l e R s m args below meth c H locs cells slots Q (F0 m pc ls rest)) : W p l e R s m args below meth c H locs cells slots Q (F0 m pc ls (.long x :: .int i :: .null :: rest)) := by
  intro T hT X
  obtain ⟨t, st, q⟩ := k T hT X
  exact ⟨t, X.lastoreNull hexec (g := F0 m pc ls (.long x :: .int i :: .null :: rest)) rfl (rest := rest) rfl (by rw [hb]; exact hdg) t st, q⟩
theorem vx_fastoreN (hexec : p.tables.exec = Jvm.exec) (hb : c.code = cc) {x : UInt32} {i : Int32} (hdg : decode cc pc = .ok (.fastore, 1)) (k : vx_NoteN p l e R s m args below meth c H locs cells slots Q (F0 m pc ls rest)) : W p l e R s m args below meth c H locs cells slots Q (F0 m pc ls (.float x :: .int i :: .null :: rest)) := by
  intro T hT X
  obtain ⟨t, st, q⟩ := k T hT X
  exact ⟨t, X.fastoreNull hexec (g := F0 m pc ls (.float x :: .int i :: .null :: rest)) rfl (rest := rest) rfl (by rw [hb]; exact hdg) t st, q⟩
theorem vx_dastoreN (hexec : p.tables.exec = Jvm.exec) (hb : c.code = cc) {x : UInt64} {i : Int32} (hdg : decode cc pc = .ok (.dastore, 1)) (k : vx_NoteN p l e R s m args below meth c H locs cells slots Q (F0 m pc ls rest)) : W p l e R s m args below meth c H locs cells slots Q (F0 m pc ls (.double x :: .int i :: .null :: rest)) := by
  intro T hT X
  obtain ⟨t, st, q⟩ := k T hT X
  exact ⟨t, X.dastoreNull hexec (g := F0 m pc ls (.double x :: .int i :: .null :: rest)) rfl (rest := rest) rfl (by rw [hb]; exact hdg) t st, q⟩
theorem vx_bastoreN (hexec : p.tables.exec = Jvm.exec) (hb : c.code = cc) {x : Int32} {i : Int32} (hdg : decode cc pc = .ok (.bastore, 1)) (k : vx_NoteN p l e R s m args below meth c H locs cells slots Q (F0 m pc ls rest)) : W p l e R s m args below meth c H locs cells slots Q (F0 m pc ls (.int x :: .int i :: .null :: rest)) := by
  intro T hT X
  obtain ⟨t, st, q⟩ := k T hT X
  exact ⟨t, X.bastoreNull hexec (g := F0 m pc ls (.int x :: .int i :: .null :: rest)) rfl (rest := rest) rfl (by rw [hb]; exact hdg) t st, q⟩
theorem vx_castoreN (hexec : p.tables.exec = Jvm.exec) (hb : c.code = cc) {x : Int32} {i : Int32} (hdg : decode cc pc = .ok (.castore, 1)) (k : vx_NoteN p l e R s m args below meth c H locs cells slots Q (F0 m pc ls rest)) : W p l e R s m args below meth c H locs cells slots Q (F0 m pc ls (.int x :: .int i :: .null :: rest)) := by
  intro T hT X
  obtain ⟨t, st, q⟩ := k T hT X
  exact ⟨t, X.castoreNull hexec (g := F0 m pc ls (.int x :: .int i :: .null :: rest)) rfl (rest := rest) rfl (by rw [hb]; exact hdg) t st, q⟩
theorem vx_sastoreN (hexec : p.tables.exec = Jvm.exec) (hb : c.code = cc) {x : Int32} {i : Int32} (hdg : decode cc pc = .ok (.sastore, 1)) (k : vx_NoteN p l e R s m args below meth c H locs cells slots Q (F0 m pc ls rest)) : W p l e R s m args below meth c H locs cells slots Q (F0 m pc ls (.int x :: .int i :: .null :: rest)) := by
  intro T hT X
  obtain ⟨t, st, q⟩ := k T hT X
  exact ⟨t, X.sastoreNull hexec (g := F0 m pc ls (.int x :: .int i :: .null :: rest)) rfl (rest := rest) rfl (by rw [hb]; exact hdg) t st, q⟩
theorem vx_invokeN {own C : String} {index maxL : Nat} {y : MethodName} {bytes : ByteArray} {ret : Option FieldType} (hexec : p.tables.exec = Jvm.exec) (hb : c.code = cc) (hown : s.vm.findClass own = some m.cls) (hlink : (Cond.methodLink own index y).before args s = true) (hinst : (Cond.instanceMethod y).before args s = true) (hcode : (Cond.code y bytes maxL ret).before args s = true) (hsel : (Cond.selects C y y).before args s = true)
    (hx : y.cls ≠ "java/lang/invoke/MethodHandle" ∧ y.cls ≠ "java/lang/invoke/VarHandle") {As : List Value} (hlen : (parseMethodDescriptor y.desc).map (fun d => d.parameters.length) = some As.length) (hdg : decode cc pc = .ok (.invokevirtual index, 3))
    (k : vx_NoteN p l e R s m args below meth c H locs cells slots Q (F0 m pc ls rest)) {st0 : List Value} (hst : st0 = As.reverse ++ .null :: rest) : W p l e R s m args below meth c H locs cells slots Q (F0 m pc ls st0) := by
  intro T hT X
  obtain ⟨r0, r, hn, hrm, hstR, hsigR⟩ := va_Decl.of hinst hcode
  obtain ⟨c2, r2, m2, q1, q2, q3, q4, kP, hkP, hkPi⟩ := Cond.selects_spec hsel
  cases hn.symm.trans q3
  have hl9 : As.length = r.sig.parameters.length := by
    rw [hsigR] at hlen
    exact (Option.some.inj hlen).symm
  obtain ⟨vm', X1, st1⟩ := X.invokevirtualNull hexec hown hlink hn hrm hstR hkP hkPi hx (g := F0 m pc ls st0) rfl (argsL := As) (rest := rest) hl9 hst (by rw [hb]; exact hdg)
  obtain ⟨t, st, q⟩ := k (T.setVm vm') hT X1
  exact ⟨t, st1 t st, q⟩
theorem vx_newarrayZ {atype : ArrayType} (hexec : p.tables.exec = Jvm.exec) (hb : c.code = cc) {n : Int32} (h0 : n < 0) (hdg : decode cc pc = .ok (.newarray atype, 2)) (k : ∀ tx : String, tx = toString n → vx_Note p l e R s m args below meth c H locs cells slots Q (F0 m pc ls rest) "java/lang/NegativeArraySizeException" tx) : W p l e R s m args below meth c H locs cells slots Q (F0 m pc ls (.int n :: rest)) := by
  intro T hT X
  obtain ⟨t, st, q⟩ := k _ rfl T hT X
  exact ⟨t, X.newarrayNegative hexec (g := F0 m pc ls (.int n :: rest)) rfl h0 (rest := rest) rfl (by rw [hb]; exact hdg) t st, q⟩
end
end VXM
/-! ===== END ===== -/
/-! ===== BEGIN an exception as an object: made, kept, thrown later (no traces kept) ===== -/
section VXK
variable {p : Program} {l : Launch} {e : Env} {R : Room} {s : State} {m₀ : MethodId} {args : Array Value} {below : List Frame} {meth : Method} {c : Code} {W : State} {locs : List Loc} {cells slots : Nat}
set_option maxHeartbeats 1000000 in
theorem vx_ctorMadeS (X : Stand p l e R s m₀ args below meth c W locs cells slots) (hexec : p.tables.exec = Jvm.exec) (htr : e.platform.stackTraces = false) {own cls : String} {names : List String} {ic : Nat}
    (hown : s.vm.findClass own = some m₀.cls) (hcls : Bundle.fit cls = true) (hnames : ∀ n ∈ names, Bundle.fit n = true)
    (h : ∀ a ∈ Bundle.ownAtoms own ic cls names, a.before args s = true)
    (hlocs : ∀ x ∈ locs, ∀ cell, s.heap[x.base]? = some cell → cell.vm.isStatics = false)
    {a : Addr} {cX : ClassId} {kX : Class} (hfoundX : s.vm.findClass cls = some cX) (hkX : s.vm.classes[cX]? = some kX) (hcell : W.heap[a]? = some (freshCell cX kX)) (hnew : s.heap.size ≤ a)
    {msg : Value} (hmsg : msg.isRef = true)
    {g : JFrame} (hg : g.method = m₀) (hsize : g.locals.size = c.maxLocals) {rest : List Value} (hstack : g.stack = msg :: .ref a :: .ref a :: rest)
    (hd6 : decode c.code g.pc = .ok (.invokespecial ic, 3))
    (hRframes : names.length + 3 < R.frames) (hRlocals : 2 * g.monitorRoom + ((Value.ref a :: rest).map fun v => v.category).sum + (13 * (names.length + 1) + 42) ≤ R.locals) :
    ∃ (V : State) (ce : Cell) (L : List Loc), Stand p l e R s m₀ args below meth c (V.setCell a ce) (locs ++ L) cells slots ∧ (∀ y ∈ L, y.base = a) ∧ a < V.heap.size ∧ ce.cls = cX ∧ ce.vm = .none ∧
      ∀ target, Steps p.tables e below ((V.setCell a ce).setTop { g with stack := .ref a :: rest, pc := g.pc + 3 }) target → Steps p.tables e below (W.setTop g) target := by
  have howns : e.platform.frameOwnsMonitors = true := by rw [X.admits.platform]
  have hfin : e.platform.finalization = false := by rw [X.admits.platform]
  have hpl : e.platform.magicAccessors = ({} : Platform).magicAccessors := by rw [X.admits.platform]
  have a' : ∀ x, x ∈ Bundle.ownAtoms own ic cls names → x.holds args s none s [] = true := fun x hx => h x hx
  obtain ⟨T, Z0, L, -, Y⟩ := ThrowableC.of_atoms (args := args) howns hfin hpl (fun x hx => h x (by simp [Bundle.ownAtoms, hx]))
  obtain ⟨Z, M, LZ, LM, hnZ⟩ := Init0T.ofS_atoms (args := args) hpl L Y (fun x hx => h x (by simp [Bundle.ownAtoms, hx]))
  obtain ⟨P1, Ps, hlen, L1, hL, hP1m, hlink1, hlink⟩ := Bundle.chainS (args := args) hpl hnZ names cls hcls hnames (fun x hx => h x (by simp [Bundle.ownAtoms, hx]))
  have hfound : s.vm.findClass cls = some P1.m.cls := findClass_of_methodNamed hP1m
  cases Option.some.inj (hfoundX.symm.trans hfound)
  obtain ⟨c1, kX', hc1, hk, hord, -, -, hn6⟩ := Cond.instantiable_spec (a' (.instantiable cls 6) (by simp [Bundle.ownAtoms]))
  cases Option.some.inj (hc1.symm.trans hfound)
  cases Option.some.inj (hkX.symm.trans hk)
  have hsel0 : selectMethod e.platform s.vm P1.m.cls T.fill0 = .method T.fill0 := by
    obtain ⟨c2, r2, m2, q1, q2, q3, q4, -⟩ := Cond.selects_spec (a' (.selects cls Bundle.tFill0 Bundle.tFill0) (by simp [Bundle.ownAtoms]))
    cases Option.some.inj (q1.symm.trans hfound)
    cases Option.some.inj (q2.symm.trans (State.methodFound?_of_named Y.fill0 (by decide)))
    cases Option.some.inj (q3.symm.trans Y.fill0)
    rw [Launch.admits_selectMethod X.admits]; exact q4
  have hselF : selectMethod e.platform s.vm P1.m.cls T.fill = .method T.fill := by
    obtain ⟨c2, r2, m2, q1, q2, q3, q4, -⟩ := Cond.selects_spec (a' (.selects cls Bundle.tFill Bundle.tFill) (by simp [Bundle.ownAtoms]))
    cases Option.some.inj (q1.symm.trans hfound)
    cases Option.some.inj (q2.symm.trans (State.methodFound?_of_named Y.fill (by decide)))
    cases Option.some.inj (q3.symm.trans Y.fill)
    rw [Launch.admits_selectMethod X.admits]; exact q4
  obtain ⟨cellS0, hcS0, hiss⟩ := Y.statics
  obtain ⟨u0, hu0⟩ := Cond.staticRefV Y.unassigned L.unassignedStatic L.statics hcS0 hiss (a' (.isRef (.static Bundle.tN "UNASSIGNED_STACK" Bundle.steD)) (by simp [Bundle.ownAtoms]))
  obtain ⟨sen, hsen⟩ := Cond.staticRefV Y.sentinel L.sentinelStatic L.statics hcS0 hiss (a' (.isRef (.static Bundle.tN "SUPPRESSED_SENTINEL" Bundle.listD)) (by simp [Bundle.ownAtoms]))
  obtain ⟨ci198, i198, fB, hk198, hg198, ha198, hsB, -, hnB, htB, hffB⟩ := Cond.ownField (t := .object "java/lang/Object") Y.found L.cls (by decide +kernel) (a' (.fieldLink Bundle.tN 198 Bundle.tN "backtrace" "Ljava/lang/Object;") (by simp [Bundle.ownAtoms])) (a' (.lays Bundle.tN Bundle.tN "backtrace" "Ljava/lang/Object;") (by simp [Bundle.ownAtoms])) e.platform hpl
  obtain ⟨cellS, hcS', heS, -, hkeep⟩ := X.same.2.2.2.2.2 T.aS cellS0 hcS0
  have hcellS : W.heap[T.aS]? = some cellS := hcS'
  have hout' : ∀ i, (⟨T.aS, i⟩ : Loc) ∉ locs := fun i hmem => by
    have := hlocs _ hmem cellS0 hcS0
    rw [hiss] at this; cases this
  have hknownS : cellS.vm ≠ .unknown := by
    rw [heS]; intro hu
    rw [show cellS0.vm = .unknown from hu] at hiss
    cases hiss
  have hneS : T.aS ≠ a := Nat.ne_of_lt (Nat.lt_of_lt_of_le (Array.getElem?_eq_some_iff.mp hcS0).1 hnew)
  obtain ⟨iM, hffM⟩ := Y.msg
  obtain ⟨tyC, dC, hdC, hdnC⟩ := Cond.laysAt hfound hk Y.cause (a' (.lays cls Bundle.tN "cause" "Ljava/lang/Throwable;") (by simp [Bundle.ownAtoms]))
  obtain ⟨tyS, dS, hdS, hdnS⟩ := Cond.laysAt hfound hk Y.stack (a' (.lays cls Bundle.tN "stackTrace" Bundle.steD) (by simp [Bundle.ownAtoms]))
  obtain ⟨tyP, dP, hdP, hdnP⟩ := Cond.laysAt hfound hk Y.supp (a' (.lays cls Bundle.tN "suppressedExceptions" Bundle.listD) (by simp [Bundle.ownAtoms]))
  obtain ⟨tyM, dM, hdM, hdnM⟩ := Cond.laysAt hfound hk hffM (a' (.lays cls Bundle.tN "detailMessage" "Ljava/lang/String;") (by simp [Bundle.ownAtoms]))
  obtain ⟨tyB, dB, hdB, hdnB⟩ := Cond.laysAt hfound hk hffB (a' (.lays cls Bundle.tN "backtrace" "Ljava/lang/Object;") (by simp [Bundle.ownAtoms]))
  have bC := Cond.laysApart hdB hdC hdnB hdnC (by rw [hnB, Y.causeName]; decide)
  have bS := Cond.laysApart hdB hdS hdnB hdnS (by rw [hnB, Y.stackName]; decide)
  have bP := Cond.laysApart hdB hdP hdnB hdnP (by rw [hnB, Y.suppName]; decide)
  have hskip : SkipFacts T e.platform s (fun u => u) u0 ((preparedCellV T.toThrowableT (freshCell P1.m.cls kX) a u0 sen).withEntry W.cur) :=
    ⟨{ ci198 := ci198, i198 := i198, fBack := fB }, ⟨hk198, hg198, ha198, hsB⟩, by
      have := fresh_default (c := P1.m.cls) tyB
      rw [htB] at this
      simpa [preparedCellV, Cell.setSlot, Cell.withEntry, Array.getElem?_setIfInBounds, bC, bS, bP, bC.symm, bS.symm, bP.symm, defaultValue] using this, fun _ _ => rfl⟩
  obtain ⟨tm, methC, cdC, kC, vm₁, hnC, -, -, -, -, -, -, -, hW₁, st1⟩ := Steps.initColdS (tb := p.tables) (e := e) (below := below) (s := s) (U := W) X.here hexec X.warmed hpl hown (t := Bundle.initS cls) rfl rfl (Bundle.fit_spec hcls).2
    (a' (.methodLink own ic (Bundle.initS cls)) (by simp [Bundle.ownAtoms])) (h (.instanceMethod (Bundle.initS cls)) (by cases names <;> simp [Bundle.ownAtoms, Bundle.chainSAtoms, Bundle.passSAtoms])) (bytes := Bundle.six) (maxL := 2) (h (.code (Bundle.initS cls) Bundle.six 2 none) (by cases names <;> simp [Bundle.ownAtoms, Bundle.chainSAtoms, Bundle.passSAtoms]))
    (f := g) hg (a := a) (msg := msg) (rest := .ref a :: rest) hstack hd6
  cases Option.some.inj (hnC.symm.trans hP1m)
  have X₁ := X.noted hW₁
  obtain ⟨vm₂, X₂, st2⟩ := X₁.ctorMessageOffV hexec (g := { g with stack := .ref a :: rest }) hg hsize T L Z LZ M LM (P1 :: Ps)
    (fun P hP => by rcases List.mem_cons.mp hP with rfl | hP; exact L1; exact hL P hP) ⟨hlink1, hlink⟩ (u0 := u0) (sen := sen) (self := a) hmsg (cell := freshCell P1.m.cls kX) (cellS := cellS)
    hcell (fun _ => by simp) (by simp) rfl rfl hsel0 hselF hcellS hneS hknownS (by rw [hkeep _ (hout' _)]; exact hu0) (by rw [hkeep _ (hout' _)]; exact hsen)
    (Takes.of_laid hk hord tyC (by rw [Y.causeType]; rfl)) (Takes.of_laid hk hord tyS (by rw [Y.stackType]; exact fits_refV_array _ u0)) (Takes.of_laid hk hord tyP (by rw [Y.suppType]; exact fits_refV_object _ sen))
    (Takes.of_laid hk hord tyM (by rw [Y.msgType]; exact fits_refV_object _ ⟨msg, hmsg⟩)) Y.objLocals hskip htr [] hd6
    (by simp only [List.length_cons, hlen]; omega) (by simp only [List.length_cons, hlen]; exact hRlocals)
  have hlt : a < ((W.setVm vm₁).setVm vm₂).heap.size := (Array.getElem?_eq_some_iff.mp hcell).1
  refine ⟨(W.setVm vm₁).setVm vm₂, _, _, X₂, fun y hy => ?_, hlt, rfl, rfl, fun target hwalk => st1 _ (fun acts => ?_)⟩
  · simp only [List.mem_cons, List.not_mem_nil, or_false] at hy
    rcases hy with rfl | rfl | rfl | rfl | rfl <;> rfl
  · rw [doInvoke_state]
    exact st2 _ hwalk
set_option maxHeartbeats 1000000 in
theorem vx_ctorMade0 (X : Stand p l e R s m₀ args below meth c W locs cells slots) (hexec : p.tables.exec = Jvm.exec) (htr : e.platform.stackTraces = false) {own cls : String} {names : List String} {ic : Nat}
    (hown : s.vm.findClass own = some m₀.cls) (hcls : Bundle.fit cls = true) (hnames : ∀ n ∈ names, Bundle.fit n = true)
    (h : ∀ a ∈ Bundle.ownAtoms0 own ic cls names, a.before args s = true)
    (hlocs : ∀ x ∈ locs, ∀ cell, s.heap[x.base]? = some cell → cell.vm.isStatics = false)
    {a : Addr} {cX : ClassId} {kX : Class} (hfoundX : s.vm.findClass cls = some cX) (hkX : s.vm.classes[cX]? = some kX) (hcell : W.heap[a]? = some (freshCell cX kX)) (hnew : s.heap.size ≤ a)
    {g : JFrame} (hg : g.method = m₀) (hsize : g.locals.size = c.maxLocals) {rest : List Value} (hstack : g.stack = .ref a :: .ref a :: rest)
    (hd6 : decode c.code g.pc = .ok (.invokespecial ic, 3))
    (hRframes : names.length + 3 < R.frames) (hRlocals : 2 * g.monitorRoom + ((Value.ref a :: rest).map fun v => v.category).sum + (13 * (names.length + 1) + 41) ≤ R.locals) :
    ∃ (V : State) (ce : Cell) (L : List Loc), Stand p l e R s m₀ args below meth c (V.setCell a ce) (locs ++ L) cells slots ∧ (∀ y ∈ L, y.base = a) ∧ a < V.heap.size ∧ ce.cls = cX ∧ ce.vm = .none ∧
      ∀ target, Steps p.tables e below ((V.setCell a ce).setTop { g with stack := .ref a :: rest, pc := g.pc + 3 }) target → Steps p.tables e below (W.setTop g) target := by
  have howns : e.platform.frameOwnsMonitors = true := by rw [X.admits.platform]
  have hfin : e.platform.finalization = false := by rw [X.admits.platform]
  have hpl : e.platform.magicAccessors = ({} : Platform).magicAccessors := by rw [X.admits.platform]
  have a' : ∀ x, x ∈ Bundle.ownAtoms0 own ic cls names → x.holds args s none s [] = true := fun x hx => h x hx
  obtain ⟨T, Z, L, LZ, Y⟩ := ThrowableC.of_atoms (args := args) howns hfin hpl (fun x hx => h x (by simp [Bundle.ownAtoms0, hx]))
  obtain ⟨P1, Ps, hlen, L1, hL, hP1m, hlink1, hlink⟩ := Bundle.chain0 (args := args) hpl Y.init0 names cls hcls hnames (fun x hx => h x (by simp [Bundle.ownAtoms0, hx]))
  have hfound : s.vm.findClass cls = some P1.m.cls := findClass_of_methodNamed hP1m
  cases Option.some.inj (hfoundX.symm.trans hfound)
  obtain ⟨c1, kX', hc1, hk, hord, -, -, hn6⟩ := Cond.instantiable_spec (a' (.instantiable cls 6) (by simp [Bundle.ownAtoms0]))
  cases Option.some.inj (hc1.symm.trans hfound)
  cases Option.some.inj (hkX.symm.trans hk)
  have hsel0 : selectMethod e.platform s.vm P1.m.cls T.fill0 = .method T.fill0 := by
    obtain ⟨c2, r2, m2, q1, q2, q3, q4, -⟩ := Cond.selects_spec (a' (.selects cls Bundle.tFill0 Bundle.tFill0) (by simp [Bundle.ownAtoms0]))
    cases Option.some.inj (q1.symm.trans hfound)
    cases Option.some.inj (q2.symm.trans (State.methodFound?_of_named Y.fill0 (by decide)))
    cases Option.some.inj (q3.symm.trans Y.fill0)
    rw [Launch.admits_selectMethod X.admits]; exact q4
  have hselF : selectMethod e.platform s.vm P1.m.cls T.fill = .method T.fill := by
    obtain ⟨c2, r2, m2, q1, q2, q3, q4, -⟩ := Cond.selects_spec (a' (.selects cls Bundle.tFill Bundle.tFill) (by simp [Bundle.ownAtoms0]))
    cases Option.some.inj (q1.symm.trans hfound)
    cases Option.some.inj (q2.symm.trans (State.methodFound?_of_named Y.fill (by decide)))
    cases Option.some.inj (q3.symm.trans Y.fill)
    rw [Launch.admits_selectMethod X.admits]; exact q4
  obtain ⟨cellS0, hcS0, hiss⟩ := Y.statics
  obtain ⟨u0, hu0⟩ := Cond.staticRefV Y.unassigned L.unassignedStatic L.statics hcS0 hiss (a' (.isRef (.static Bundle.tN "UNASSIGNED_STACK" Bundle.steD)) (by simp [Bundle.ownAtoms0]))
  obtain ⟨sen, hsen⟩ := Cond.staticRefV Y.sentinel L.sentinelStatic L.statics hcS0 hiss (a' (.isRef (.static Bundle.tN "SUPPRESSED_SENTINEL" Bundle.listD)) (by simp [Bundle.ownAtoms0]))
  obtain ⟨ci198, i198, fB, hk198, hg198, ha198, hsB, -, hnB, htB, hffB⟩ := Cond.ownField (t := .object "java/lang/Object") Y.found L.cls (by decide +kernel) (a' (.fieldLink Bundle.tN 198 Bundle.tN "backtrace" "Ljava/lang/Object;") (by simp [Bundle.ownAtoms0])) (a' (.lays Bundle.tN Bundle.tN "backtrace" "Ljava/lang/Object;") (by simp [Bundle.ownAtoms0])) e.platform hpl
  obtain ⟨cellS, hcS', heS, -, hkeep⟩ := X.same.2.2.2.2.2 T.aS cellS0 hcS0
  have hcellS : W.heap[T.aS]? = some cellS := hcS'
  have hout' : ∀ i, (⟨T.aS, i⟩ : Loc) ∉ locs := fun i hmem => by
    have := hlocs _ hmem cellS0 hcS0
    rw [hiss] at this; cases this
  have hknownS : cellS.vm ≠ .unknown := by
    rw [heS]; intro hu
    rw [show cellS0.vm = .unknown from hu] at hiss
    cases hiss
  have hneS : T.aS ≠ a := Nat.ne_of_lt (Nat.lt_of_lt_of_le (Array.getElem?_eq_some_iff.mp hcS0).1 hnew)
  obtain ⟨iM, hffM⟩ := Y.msg
  obtain ⟨tyC, dC, hdC, hdnC⟩ := Cond.laysAt hfound hk Y.cause (a' (.lays cls Bundle.tN "cause" "Ljava/lang/Throwable;") (by simp [Bundle.ownAtoms0]))
  obtain ⟨tyS, dS, hdS, hdnS⟩ := Cond.laysAt hfound hk Y.stack (a' (.lays cls Bundle.tN "stackTrace" Bundle.steD) (by simp [Bundle.ownAtoms0]))
  obtain ⟨tyP, dP, hdP, hdnP⟩ := Cond.laysAt hfound hk Y.supp (a' (.lays cls Bundle.tN "suppressedExceptions" Bundle.listD) (by simp [Bundle.ownAtoms0]))
  obtain ⟨tyM, dM, hdM, hdnM⟩ := Cond.laysAt hfound hk hffM (a' (.lays cls Bundle.tN "detailMessage" "Ljava/lang/String;") (by simp [Bundle.ownAtoms0]))
  obtain ⟨tyB, dB, hdB, hdnB⟩ := Cond.laysAt hfound hk hffB (a' (.lays cls Bundle.tN "backtrace" "Ljava/lang/Object;") (by simp [Bundle.ownAtoms0]))
  have bC := Cond.laysApart hdB hdC hdnB hdnC (by rw [hnB, Y.causeName]; decide)
  have bS := Cond.laysApart hdB hdS hdnB hdnS (by rw [hnB, Y.stackName]; decide)
  have bP := Cond.laysApart hdB hdP hdnB hdnP (by rw [hnB, Y.suppName]; decide)
  have hskip : SkipFacts T e.platform s (fun u => u) u0 ((preparedCellV T.toThrowableT (freshCell P1.m.cls kX) a u0 sen).withEntry W.cur) :=
    ⟨{ ci198 := ci198, i198 := i198, fBack := fB }, ⟨hk198, hg198, ha198, hsB⟩, by
      have := fresh_default (c := P1.m.cls) tyB
      rw [htB] at this
      simpa [preparedCellV, Cell.setSlot, Cell.withEntry, Array.getElem?_setIfInBounds, bC, bS, bP, bC.symm, bS.symm, bP.symm, defaultValue] using this, fun _ _ => rfl⟩
  obtain ⟨tm, methC, cdC, kC, vm₁, hnC, -, -, -, -, -, -, -, hW₁, st1⟩ := Steps.initCold (tb := p.tables) (e := e) (below := below) (s := s) (U := W) X.here hexec X.warmed hpl hown (t := Bundle.init0 cls) rfl rfl (Bundle.fit_spec hcls).2
    (a' (.methodLink own ic (Bundle.init0 cls)) (by simp [Bundle.ownAtoms0])) (h (.instanceMethod (Bundle.init0 cls)) (by cases names <;> simp [Bundle.ownAtoms0, Bundle.chain0Atoms, Bundle.passAtoms])) (bytes := Bundle.five) (maxL := 1) (h (.code (Bundle.init0 cls) Bundle.five 1 none) (by cases names <;> simp [Bundle.ownAtoms0, Bundle.chain0Atoms, Bundle.passAtoms]))
    (f := g) hg (a := a) (rest := .ref a :: rest) hstack hd6
  cases Option.some.inj (hnC.symm.trans hP1m)
  have X₁ := X.noted hW₁
  obtain ⟨vm₂, X₂, st2⟩ := X₁.ctorPlainOffV hexec (g := { g with stack := .ref a :: rest }) hg hsize T L Z LZ (P1 :: Ps)
    (fun P hP => by rcases List.mem_cons.mp hP with rfl | hP; exact L1; exact hL P hP) ⟨hlink1, hlink⟩ (u0 := u0) (sen := sen) (self := a) (cell := freshCell P1.m.cls kX) (cellS := cellS)
    hcell (fun _ => by simp) (by simp) rfl rfl hsel0 hselF hcellS hneS hknownS (by rw [hkeep _ (hout' _)]; exact hu0) (by rw [hkeep _ (hout' _)]; exact hsen)
    (Takes.of_laid hk hord tyC (by rw [Y.causeType]; rfl)) (Takes.of_laid hk hord tyS (by rw [Y.stackType]; exact fits_refV_array _ u0)) (Takes.of_laid hk hord tyP (by rw [Y.suppType]; exact fits_refV_object _ sen)) Y.objLocals hskip htr [] hd6
    (by simp only [List.length_cons, hlen]; omega) (by simp only [List.length_cons, hlen]; exact hRlocals)
  have hlt : a < ((W.setVm vm₁).setVm vm₂).heap.size := (Array.getElem?_eq_some_iff.mp hcell).1
  refine ⟨(W.setVm vm₁).setVm vm₂, _, _, X₂, fun y hy => ?_, hlt, rfl, rfl, fun target hwalk => st1 _ (fun acts => ?_)⟩
  · simp only [List.mem_cons, List.not_mem_nil, or_false] at hy
    rcases hy with rfl | rfl | rfl | rfl <;> rfl
  · rw [doInvoke_state]
    exact st2 _ hwalk
end VXK
section VXK2
variable {p : Program} {l : Launch} {e : Env} {R : Room} {s : State} {m : MethodId} {args : Array Value} {below : List Frame} {meth : Method} {c : Code} {H : Heap} {locs : List Loc} {cells slots : Nat} {Q : State → Prop}
variable {ls : Array Slot} {rest : List Value} {D : va_G} {cl : List vw_C} {tys : List (ClassId × FieldType)} {ws : va_W}
/-- 'new E("text")' that isn't thrown at once: the object goes on the stack -/
theorem vx_makeS {cc : ByteArray} {pc : Nat} (hexec : p.tables.exec = Jvm.exec) (hb : c.code = cc) (hl : l.stackTraces = false) {own cls text : String} {names : List String} {ik is ic sa ci : Nat} {A : Nat → Prop} {T0 : u_T}
    (hown : s.vm.findClass own = some m.cls) (hcls : Bundle.fit cls = true) (hnames : ∀ n ∈ names, Bundle.fit n = true)
    (hk : (Cond.classLink own ik cls).before args s = true) (hini : (Cond.initialized cls).before args s = true) (hstr : vk_R own is text sa s) (hat : ∀ w ∈ vx_atS own ic cls names, w.before args s = true)
    (hgood : ∀ w ∈ Cond.classLink own ik cls :: Cond.initialized cls :: vx_atS own ic cls names, vx_ot w = true)
    (hU : vx_Zq Bundle.tN "UNASSIGNED_STACK" Bundle.steD A s s.heap) (hN : vx_Zq Bundle.tN "SUPPRESSED_SENTINEL" Bundle.listD A s s.heap) (hS : va_S A s.heap H locs) (hsize : ls.size = c.maxLocals)
    (d0 : decode cc pc = .ok (.new ik, 3)) (d3 : decode cc (pc + 3) = .ok (.dup, 1)) (d4 : decode cc (pc + 4) = .ok (.ldc is, 2)) (d6 : decode cc (pc + 6) = .ok (.invokespecial ic, 3))
    (hK : va_K D cl tys s) (hP : va_P D cl ws H) (hD : va_D A ws) (hA : ∀ q, s.heap.size ≤ q → A q) (hc : cl[ci]? = some (cls, T0, 0))
    (hRframes : names.length + 3 < R.frames) (hRlocals : (rest.map fun v => v.category).sum + (13 * (names.length + 1) + 43) ≤ R.locals) (hRcells : cells + 1 ≤ R.cells) (hRslots : slots + 6 ≤ R.slots)
    (kk : ∀ (q : Nat) (H1 : Heap), va_P D cl (ws ++ [(q, .inr (ci, []))]) H1 → va_D A (ws ++ [(q, .inr (ci, []))]) → va_S A s.heap H1 locs → W p l e R s m args below meth c H1 locs (cells + 1) (slots + 6) Q (F0 m (pc + 9) ls (.ref q :: rest))) :
    W p l e R s m args below meth c H locs cells slots Q (F0 m pc ls rest) := by
  intro T hT X
  subst hT
  have htr : e.platform.stackTraces = false := (show e.platform.stackTraces = l.stackTraces by rw [X.admits.platform]).trans hl
  have Y := vx_rebase X (R' := { frames := R.frames, locals := R.locals, cells := 1, slots := 6 }) (Nat.le_refl _) (Nat.le_refl _) hRcells hRslots
  obtain ⟨s', hA'⟩ : ∃ z, z = (T.setVm s.vm).setFrames (.invoking m args :: below) := ⟨_, rfl⟩
  rw [← hA'] at Y
  have hvm : s'.vm = s.vm := by rw [hA']; rfl
  have hhp : s'.heap = T.heap := by rw [hA']; rfl
  have hW0 : s.WarmedH s'.vm := by rw [hvm]; exact State.WarmedH.refl s
  have hat' : ∀ w ∈ vx_atS own ic cls names, w.before args s' = true := fun w hw => vx_ot_at hW0 hvm.symm (hgood w (List.mem_cons_of_mem _ (List.mem_cons_of_mem _ hw))) (hat w hw)
  have hk' : (Cond.classLink own ik cls).before args s' = true := vx_ot_at hW0 hvm.symm (hgood _ List.mem_cons_self) hk
  have hini' : (Cond.initialized cls).before args s' = true := vx_ot_at hW0 hvm.symm (hgood _ (List.mem_cons_of_mem _ List.mem_cons_self)) hini
  have hU' : vx_Zq Bundle.tN "UNASSIGNED_STACK" Bundle.steD A s' s'.heap := by rw [hhp]; exact vx_Zq.moved hW0.alike (hU.kept hS.2.1)
  have hN' : vx_Zq Bundle.tN "SUPPRESSED_SENTINEL" Bundle.listD A s' s'.heap := by rw [hhp]; exact vx_Zq.moved hW0.alike (hN.kept hS.2.1)
  have h : ∀ w ∈ Bundle.ownAtoms own ic cls names, w.before args s' = true := vx_own hat' (vx_isRefq hU'.1) (vx_isRefq hN'.1) hU'.2.word hN'.2.word
  have hown' : s'.vm.findClass own = some m.cls := by rw [hvm]; exact hown
  have hins : (Cond.instantiable cls 6).before args s' = true := h _ (by simp [Bundle.ownAtoms])
  obtain ⟨vm₁, cX, kX, hfX, hkX, -, -, X₁, st1⟩ := Y.newCold hexec (own := own) (C := cls) (index := ik) (n := 6) hown' hk' hins hini'
    (g := F0 m pc ls rest) rfl (by rw [hb]; exact d0) (Nat.le_refl _) (Nat.le_refl _)
  generalize hT1 : (T.setVm vm₁).pushCell { cls := cX, slots := kX.instanceTypes.map defaultValue, vm := .none } = T1 at X₁ st1
  have hcat : (Value.ref T.heap.size).category = 1 := rfl
  have hcellA : T1.heap[T.heap.size]? = some (freshCell cX kX) := by rw [← hT1]; exact State.heap_pushCell_size _ _
  have d3' : decode c.code (pc + 3) = .ok (.dup, 1) := by rw [hb]; exact d3
  have d4' : decode c.code (pc + 4) = .ok (.ldc is, 2) := by rw [hb]; exact d4
  have hstr' : vk_R own is text sa s' := vk_R.warm hW0 hstr
  obtain ⟨V, ce, L, Z, hL, hlt, hcl9, hvm9, st⟩ := vx_ctorMadeS X₁ hexec htr (own := own) (cls := cls) (names := names) (ic := ic) hown' hcls hnames h (fun x hx => nomatch hx) hfX hkX hcellA (by rw [hhp]; exact Nat.le_refl _) (msg := .ref sa) rfl
    (g := { method := m, pc := pc + 6, locals := ls, stack := .ref sa :: .ref T.heap.size :: .ref T.heap.size :: rest, locked := none }) rfl hsize (rest := rest) rfl
    (by rw [hb]; exact d6) hRframes (by simp only [List.map_cons, List.sum_cons, hcat]; omega)
  have Z0 := Stand.forget (locs := []) Z (fun y hy => by rw [hL y hy, hhp]; exact Nat.le_refl _)
  obtain ⟨f1, f2⟩ := vx_frame Z0.same
  rw [hhp] at f1 f2
  have hcid : ce.cls = D.1 ci := by
    rw [hcl9]
    have h1 := (hK.1 ci _ hc).2.1
    rw [hvm] at hfX
    exact Option.some.inj (hfX.symm.trans h1)
  have hh : (V.setCell T.heap.size ce).heap[T.heap.size]? = some ce := heapAt_setCell_self (s := V) ce hlt
  subst hA'
  have X5 := vx_back9 X Y Z0
  have X6 : Stand p l e R s m args below meth c (V.setCell T.heap.size ce) locs (cells + 1) (slots + 6) := { X5 with same := X5.same.mono (by omega) (by omega) }
  have hk9 : ∀ (k : Nat) (x : Nat × va_E), ws[k]? = some x → (V.setCell T.heap.size ce).heap[x.1]? = T.heap[x.1]? := fun k x hx => f2 x.1 ((hP k x hx).lt) (fun z hz => nomatch hz)
  obtain ⟨t, a1, b1⟩ := kk T.heap.size (V.setCell T.heap.size ce).heap ((hP.kept hk9).app (fun k x hx => by
      have hz : k < 1 := (List.getElem?_eq_some_iff.mp hx).1
      rw [show k = 0 by omega] at hx
      cases hx
      exact ⟨_, hc, ce, hh, hcid, hvm9, fun k hk => absurd hk (Nat.not_lt_zero k)⟩)) (hD.push hP rfl (hA _ hS.1)) ⟨Nat.le_trans hS.1 f1, fun q h1 h2 => (f2 q (Nat.lt_of_lt_of_le h1 hS.1) (fun z hz => nomatch hz)).trans (hS.2.1 q h1 h2), hS.2.2⟩ _ rfl X6
  refine ⟨t, st1 _ ?_, b1⟩
  show Steps p.tables e below (T1.setTop { method := m, pc := pc + 3, locals := ls, stack := .ref T.heap.size :: rest, locked := none }) _
  jvm_step X₁.here [X₁.here.top, hexec, d3', Value.category]
  exact X₁.ldcString hexec (own := own) (text := text) (index := is) (a := sa) hown' hstr'.1 hstr'.2
    (g := { method := m, pc := pc + 4, locals := ls, stack := .ref T.heap.size :: .ref T.heap.size :: rest, locked := none }) rfl d4' _ (st _ a1)
/-- 'new E()' that isn't thrown at once: the object goes on the stack -/
theorem vx_make0 {cc : ByteArray} {pc : Nat} (hexec : p.tables.exec = Jvm.exec) (hb : c.code = cc) (hl : l.stackTraces = false) {own cls : String} {names : List String} {ik ic ci : Nat} {A : Nat → Prop} {T0 : u_T}
    (hown : s.vm.findClass own = some m.cls) (hcls : Bundle.fit cls = true) (hnames : ∀ n ∈ names, Bundle.fit n = true)
    (hk : (Cond.classLink own ik cls).before args s = true) (hini : (Cond.initialized cls).before args s = true) (hat : ∀ w ∈ vx_at0 own ic cls names, w.before args s = true)
    (hgood : ∀ w ∈ Cond.classLink own ik cls :: Cond.initialized cls :: vx_at0 own ic cls names, vx_ot w = true)
    (hU : vx_Zq Bundle.tN "UNASSIGNED_STACK" Bundle.steD A s s.heap) (hN : vx_Zq Bundle.tN "SUPPRESSED_SENTINEL" Bundle.listD A s s.heap) (hS : va_S A s.heap H locs) (hsize : ls.size = c.maxLocals)
    (d0 : decode cc pc = .ok (.new ik, 3)) (d3 : decode cc (pc + 3) = .ok (.dup, 1)) (d4 : decode cc (pc + 4) = .ok (.invokespecial ic, 3))
    (hK : va_K D cl tys s) (hP : va_P D cl ws H) (hD : va_D A ws) (hA : ∀ q, s.heap.size ≤ q → A q) (hc : cl[ci]? = some (cls, T0, 0))
    (hRframes : names.length + 3 < R.frames) (hRlocals : (rest.map fun v => v.category).sum + (13 * (names.length + 1) + 42) ≤ R.locals) (hRcells : cells + 1 ≤ R.cells) (hRslots : slots + 6 ≤ R.slots)
    (kk : ∀ (q : Nat) (H1 : Heap), va_P D cl (ws ++ [(q, .inr (ci, []))]) H1 → va_D A (ws ++ [(q, .inr (ci, []))]) → va_S A s.heap H1 locs → W p l e R s m args below meth c H1 locs (cells + 1) (slots + 6) Q (F0 m (pc + 7) ls (.ref q :: rest))) :
    W p l e R s m args below meth c H locs cells slots Q (F0 m pc ls rest) := by
  intro T hT X
  subst hT
  have htr : e.platform.stackTraces = false := (show e.platform.stackTraces = l.stackTraces by rw [X.admits.platform]).trans hl
  have Y := vx_rebase X (R' := { frames := R.frames, locals := R.locals, cells := 1, slots := 6 }) (Nat.le_refl _) (Nat.le_refl _) hRcells hRslots
  obtain ⟨s', hA'⟩ : ∃ z, z = (T.setVm s.vm).setFrames (.invoking m args :: below) := ⟨_, rfl⟩
  rw [← hA'] at Y
  have hvm : s'.vm = s.vm := by rw [hA']; rfl
  have hhp : s'.heap = T.heap := by rw [hA']; rfl
  have hW0 : s.WarmedH s'.vm := by rw [hvm]; exact State.WarmedH.refl s
  have hat' : ∀ w ∈ vx_at0 own ic cls names, w.before args s' = true := fun w hw => vx_ot_at hW0 hvm.symm (hgood w (List.mem_cons_of_mem _ (List.mem_cons_of_mem _ hw))) (hat w hw)
  have hk' : (Cond.classLink own ik cls).before args s' = true := vx_ot_at hW0 hvm.symm (hgood _ List.mem_cons_self) hk
  have hini' : (Cond.initialized cls).before args s' = true := vx_ot_at hW0 hvm.symm (hgood _ (List.mem_cons_of_mem _ List.mem_cons_self)) hini
  have hU' : vx_Zq Bundle.tN "UNASSIGNED_STACK" Bundle.steD A s' s'.heap := by rw [hhp]; exact vx_Zq.moved hW0.alike (hU.kept hS.2.1)
  have hN' : vx_Zq Bundle.tN "SUPPRESSED_SENTINEL" Bundle.listD A s' s'.heap := by rw [hhp]; exact vx_Zq.moved hW0.alike (hN.kept hS.2.1)
  have h : ∀ w ∈ Bundle.ownAtoms0 own ic cls names, w.before args s' = true := vx_own hat' (vx_isRefq hU'.1) (vx_isRefq hN'.1) hU'.2.word hN'.2.word
  have hown' : s'.vm.findClass own = some m.cls := by rw [hvm]; exact hown
  have hins : (Cond.instantiable cls 6).before args s' = true := h _ (by simp [Bundle.ownAtoms0])
  obtain ⟨vm₁, cX, kX, hfX, hkX, -, -, X₁, st1⟩ := Y.newCold hexec (own := own) (C := cls) (index := ik) (n := 6) hown' hk' hins hini'
    (g := F0 m pc ls rest) rfl (by rw [hb]; exact d0) (Nat.le_refl _) (Nat.le_refl _)
  generalize hT1 : (T.setVm vm₁).pushCell { cls := cX, slots := kX.instanceTypes.map defaultValue, vm := .none } = T1 at X₁ st1
  have hcat : (Value.ref T.heap.size).category = 1 := rfl
  have hcellA : T1.heap[T.heap.size]? = some (freshCell cX kX) := by rw [← hT1]; exact State.heap_pushCell_size _ _
  have d3' : decode c.code (pc + 3) = .ok (.dup, 1) := by rw [hb]; exact d3
  obtain ⟨V, ce, L, Z, hL, hlt, hcl9, hvm9, st⟩ := vx_ctorMade0 X₁ hexec htr (own := own) (cls := cls) (names := names) (ic := ic) hown' hcls hnames h (fun x hx => nomatch hx) hfX hkX hcellA (by rw [hhp]; exact Nat.le_refl _)
    (g := { method := m, pc := pc + 4, locals := ls, stack := .ref T.heap.size :: .ref T.heap.size :: rest, locked := none }) rfl hsize (rest := rest) rfl
    (by rw [hb]; exact d4) hRframes (by simp only [List.map_cons, List.sum_cons, hcat]; omega)
  have Z0 := Stand.forget (locs := []) Z (fun y hy => by rw [hL y hy, hhp]; exact Nat.le_refl _)
  obtain ⟨f1, f2⟩ := vx_frame Z0.same
  rw [hhp] at f1 f2
  have hcid : ce.cls = D.1 ci := by
    rw [hcl9]
    have h1 := (hK.1 ci _ hc).2.1
    rw [hvm] at hfX
    exact Option.some.inj (hfX.symm.trans h1)
  have hh : (V.setCell T.heap.size ce).heap[T.heap.size]? = some ce := heapAt_setCell_self (s := V) ce hlt
  subst hA'
  have X5 := vx_back9 X Y Z0
  have X6 : Stand p l e R s m args below meth c (V.setCell T.heap.size ce) locs (cells + 1) (slots + 6) := { X5 with same := X5.same.mono (by omega) (by omega) }
  have hk9 : ∀ (k : Nat) (x : Nat × va_E), ws[k]? = some x → (V.setCell T.heap.size ce).heap[x.1]? = T.heap[x.1]? := fun k x hx => f2 x.1 ((hP k x hx).lt) (fun z hz => nomatch hz)
  obtain ⟨t, a1, b1⟩ := kk T.heap.size (V.setCell T.heap.size ce).heap ((hP.kept hk9).app (fun k x hx => by
      have hz : k < 1 := (List.getElem?_eq_some_iff.mp hx).1
      rw [show k = 0 by omega] at hx
      cases hx
      exact ⟨_, hc, ce, hh, hcid, hvm9, fun k hk => absurd hk (Nat.not_lt_zero k)⟩)) (hD.push hP rfl (hA _ hS.1)) ⟨Nat.le_trans hS.1 f1, fun q h1 h2 => (f2 q (Nat.lt_of_lt_of_le h1 hS.1) (fun z hz => nomatch hz)).trans (hS.2.1 q h1 h2), hS.2.2⟩ _ rfl X6
  refine ⟨t, st1 _ ?_, b1⟩
  show Steps p.tables e below (T1.setTop { method := m, pc := pc + 3, locals := ls, stack := .ref T.heap.size :: rest, locked := none }) _
  jvm_step X₁.here [X₁.here.top, hexec, d3', Value.category]
  exact st _ a1
/-- 'throw x' of an object that was made before -/
theorem vx_athrow {cc : ByteArray} {pc : Nat} (hexec : p.tables.exec = Jvm.exec) (hb : c.code = cc) {q : Addr} (hdg : decode cc pc = .ok (.athrow, 1)) (k : vx_W p l e R s m args below meth c H locs cells slots Q (F0 m pc ls rest) q) : W p l e R s m args below meth c H locs cells slots Q (F0 m pc ls (.ref q :: rest)) := by
  intro T hT X
  obtain ⟨t, st, hq⟩ := k T hT X
  refine ⟨t, ?_, hq⟩
  have hdg' : decode c.code pc = .ok (.athrow, 1) := by rw [hb]; exact hdg
  jvm_step X.here [X.here.top, hexec, hdg', athrow.wp_sem]
  exact st
end VXK2
/-! ===== END ===== -/
/-! ===== BEGIN a constructor that throws (launches without stack traces) ===== -/
section VXIA
variable {p : Program} {l : Launch} {e : Env} {R : Room} {s : State} {m : MethodId} {args : Array Value} {below : List Frame} {meth : Method} {c : Code} {T : State} {locs : List Loc} {cells slots : Nat}
theorem vx_callI (X : Stand p l e R s m args below meth c T locs cells slots) (hexec : p.tables.exec = Jvm.exec) {own : String} {index : Nat} {y : MethodName} {bytes : ByteArray} {maxL : Nat}
    (hown : s.vm.findClass own = some m.cls) (hy1 : y.name = "<init>") (hlink : (Cond.methodLink own index y).before args s = true) (hinst : (Cond.instanceMethod y).before args s = true)
    (hcode : (Cond.code y bytes maxL none).before args s = true) (hy : y.cls ≠ "java/lang/invoke/MethodHandle" ∧ y.cls ≠ "java/lang/invoke/VarHandle")
    {W9 : Nat} {Pre : Pt → Array Value → Prop} {Post : Pt → Array Value → Option Value → Pt → Prop} {PostX : Pt → Array Value → Addr → Pt → Prop} (hK : vx_Back l R p e below s args y 3 W9 Pre Post PostX)
    {g : JFrame} (hg : g.method = m) (hsize : g.locals.size = c.maxLocals) {a : Addr} {argsL rest : List Value} (hlen : ∀ sig, parseMethodDescriptor y.desc = some sig → argsL.length = sig.parameters.length)
    (hstack : g.stack = argsL.reverse ++ .ref a :: rest) (hW : 2 * g.monitorRoom + (rest.map fun v => v.category).sum ≤ W9) (hdg : decode c.code g.pc = .ok (.invokespecial index, 3))
    (hpre : ∀ vm₁, s.WarmedH vm₁ → Pre ⟨T.setVm vm₁, locs, cells, slots⟩ (Value.ref a :: argsL).toArray) :
    (∃ (v : Option Value) (vm₁ : Vm) (B : Pt), s.WarmedH vm₁ ∧ Stand p l e R s m args below meth c B.U B.locs B.cells B.slots ∧ Post ⟨T.setVm vm₁, locs, cells, slots⟩ (Value.ref a :: argsL).toArray v B ∧
      ∀ target, Steps p.tables e below (B.U.setTop { g with pc := g.pc + 3, stack := v.toList ++ rest }) target → Steps p.tables e below (T.setTop g) target) ∨
    (∃ (q : Addr) (vm₁ : Vm) (B : Pt), s.WarmedH vm₁ ∧ Stand p l e R s m args below meth c B.U B.locs B.cells B.slots ∧ PostX ⟨T.setVm vm₁, locs, cells, slots⟩ (Value.ref a :: argsL).toArray q B ∧
      Steps p.tables e below (T.setTop g) ((B.U.setTop { g with stack := rest }).pushFrame (.throwing q))) := by
  subst hg
  have hpl : e.platform.magicAccessors = ({} : Platform).magicAccessors := by rw [X.admits.platform]
  obtain ⟨mk, methM, cM, kP, vm₁, hnamed, hmethM, hcodeM, -, hlocalsM, -, hkP, -, hW₁, hstep₁⟩ := Steps.initColdArgs (e := e) X.here hexec X.warmed hpl hown hy1 hy hlink hinst hcode (f := g) rfl hlen hstack hdg
  have X₁ := X.noted hW₁
  rcases hK g.method meth c ⟨T.setVm vm₁, locs, cells, slots⟩ { g with stack := rest } (.invokespecial index) mk (Value.ref a :: argsL).toArray X₁ rfl hsize hdg hW (X₁.named hnamed) (hpre vm₁ X₁.warmed) with ⟨v, B, X', hpost, hsteps⟩ | ⟨q, B, X', hpost, hsteps⟩
  · exact Or.inl ⟨v, vm₁, B, X₁.warmed, X', hpost, fun target h => hstep₁ _ fun acts => by rw [doInvoke_state]; exact hsteps.trans h⟩
  · exact Or.inr ⟨q, vm₁, B, X₁.warmed, X', hpost, hstep₁ _ fun acts => by rw [doInvoke_state]; exact hsteps⟩
end VXIA
section VXIB
variable {p : Program} {l : Launch} {e : Env} {R : Room} {s : State} {m : MethodId} {args : Array Value} {below : List Frame} {meth : Method} {c : Code} {H : Heap} {locs : List Loc} {cells slots : Nat}
variable {y : MethodName} {bytes cc : ByteArray} {maxL nL mc ms n index : Nat} {ret : Option FieldType} {ws : List Cond} {rm : Room} {Pc : Array Value → State → Prop} {Qc : Array Value → State → Outcome → State → Prop} {XC : String → State → State → Prop} {free : Addr → Prop} {Ts : List Cond} {own C : String} {b : Addr} {As rest : List Value} {g : JFrame}
theorem vx_runI (S : CallFix p m c cc nL s args Ts own) (hM : vx_Met l y ws rm Pc Qc XC mc ms free) (cw : CallB R s args own index y bytes maxL none ws rm mc ms n ∧ y.name = "<init>" ∧ (Cond.instanceMethod y).before args s = true) (hp : PreS s H Pc (.ref b :: As))
    (hg : g.method = m) (hn : As.length = n) (hsize : g.locals.size = nL) (hstack : g.stack = As.reverse ++ .ref b :: rest) (hW : 2 * g.monitorRoom + (rest.map fun v => v.category).sum ≤ 8) (hdg : decode cc g.pc = .ok (.invokespecial index, 3)) (hf : cells + mc ≤ R.cells ∧ slots + ms ≤ R.slots) :
    vx_Run p l e R s m args below meth c H locs cells slots mc ms g rest (Qc (Value.ref b :: As).toArray) XC free := by
  have hK : vx_Back l R p e below s args y 3 8 (PreOf R mc ms Pc) (PostOf Qc mc ms free) (vx_Post XC mc ms free) := vx_callBack cw.1 hM hp.1
  obtain ⟨⟨-, -, -, -, -, -, hcode, -, hy, hlen, hl⟩, hy1, hin⟩ := cw
  obtain ⟨hx, hb, hml, ho, -⟩ := S
  have hPc := hp.2
  intro T hT X
  rcases vx_callI X hx (bytes := bytes) (maxL := maxL) ho hy1 hl hin hcode hy hK hg (hsize.trans hml.symm) (a := b) (argsL := As) (rest := rest) (fun sig h => hn.trans (hlen sig h)) hstack hW (by rw [hb]; exact hdg)
    (fun vm₁ hW₁ => ⟨hf.1, hf.2, hPc (T.setVm vm₁) hT hW₁⟩) with ⟨v, vm₁, ⟨U', l2, c2, s2⟩, hW₁, X', ⟨g', mk, t, L, e1, e2, hq, h1, hL, h2, h3⟩, st⟩ | ⟨q, vm₁, ⟨U', l2, c2, s2⟩, hW₁, X', ⟨g', mk, t, L, E, ce, e1, e2, hq, hce, hcv, hcl, h1, hL, h2, h3⟩, st⟩
  · dsimp only [Pt.U, Pt.locs, Pt.cells, Pt.slots] at X' e1 e2 h1 h2 h3 st
    subst h1; subst h2; subst h3
    exact Or.inl ⟨v, (T.setVm vm₁).calling g' mk (Value.ref b :: As).toArray, t, U', L, hT, X', hL, e1, e2, hq, st⟩
  · dsimp only [Pt.U, Pt.locs, Pt.cells, Pt.slots] at X' e1 e2 h1 h2 h3 st hcl
    subst h1; subst h2; subst h3
    exact Or.inr ⟨q, (T.setVm vm₁).calling g' mk (Value.ref b :: As).toArray, t, U', L, E, ce, hT, X', hL, e1, e2, hq, hce, hcv, vx_cls hW₁ hcl, st⟩
end VXIB
/-! ===== END ===== -/
/-! ===== BEGIN a private constructor of a nest mate that throws ===== -/
section VXIC
variable {p : Program} {l : Launch} {e : Env} {R : Room} {s : State} {m : MethodId} {args : Array Value} {below : List Frame} {meth : Method} {c : Code} {T : State} {locs : List Loc} {cells slots : Nat}
theorem vx_callIN (X : Stand p l e R s m args below meth c T locs cells slots) (hexec : p.tables.exec = Jvm.exec) {own : String} {index : Nat} {host : String} {y : MethodName} {bytes : ByteArray} {maxL : Nat}
    (hown : s.vm.findClass own = some m.cls) (hy1 : y.name = "<init>") (hlink : (Cond.methodLinkNest own index y host).before args s = true) (hinst : (Cond.instanceMethod y).before args s = true)
    (hcode : (Cond.code y bytes maxL none).before args s = true) (hy : y.cls ≠ "java/lang/invoke/MethodHandle" ∧ y.cls ≠ "java/lang/invoke/VarHandle")
    {W9 : Nat} {Pre : Pt → Array Value → Prop} {Post : Pt → Array Value → Option Value → Pt → Prop} {PostX : Pt → Array Value → Addr → Pt → Prop} (hK : vx_Back l R p e below s args y 3 W9 Pre Post PostX)
    {g : JFrame} (hg : g.method = m) (hsize : g.locals.size = c.maxLocals) {a : Addr} {argsL rest : List Value} (hlen : ∀ sig, parseMethodDescriptor y.desc = some sig → argsL.length = sig.parameters.length)
    (hstack : g.stack = argsL.reverse ++ .ref a :: rest) (hW : 2 * g.monitorRoom + (rest.map fun v => v.category).sum ≤ W9) (hdg : decode c.code g.pc = .ok (.invokespecial index, 3))
    (hpre : ∀ vm₁, s.WarmedH vm₁ → Pre ⟨T.setVm vm₁, locs, cells, slots⟩ (Value.ref a :: argsL).toArray) :
    (∃ (v : Option Value) (vm₁ : Vm) (B : Pt), s.WarmedH vm₁ ∧ Stand p l e R s m args below meth c B.U B.locs B.cells B.slots ∧ Post ⟨T.setVm vm₁, locs, cells, slots⟩ (Value.ref a :: argsL).toArray v B ∧
      ∀ target, Steps p.tables e below (B.U.setTop { g with pc := g.pc + 3, stack := v.toList ++ rest }) target → Steps p.tables e below (T.setTop g) target) ∨
    (∃ (q : Addr) (vm₁ : Vm) (B : Pt), s.WarmedH vm₁ ∧ Stand p l e R s m args below meth c B.U B.locs B.cells B.slots ∧ PostX ⟨T.setVm vm₁, locs, cells, slots⟩ (Value.ref a :: argsL).toArray q B ∧
      Steps p.tables e below (T.setTop g) ((B.U.setTop { g with stack := rest }).pushFrame (.throwing q))) := by
  subst hg
  have hpl : e.platform.magicAccessors = ({} : Platform).magicAccessors := by rw [X.admits.platform]
  obtain ⟨mk, methM, cM, kP, vm₁, hnamed, hmethM, hcodeM, -, hlocalsM, -, hkP, -, hW₁, hstep₁⟩ := Steps.initColdArgsNest (e := e) X.here hexec X.warmed hpl hown hy1 hy hlink hinst hcode (f := g) rfl hlen hstack hdg
  have X₁ := X.noted hW₁
  rcases hK g.method meth c ⟨T.setVm vm₁, locs, cells, slots⟩ { g with stack := rest } (.invokespecial index) mk (Value.ref a :: argsL).toArray X₁ rfl hsize hdg hW (X₁.named hnamed) (hpre vm₁ X₁.warmed) with ⟨v, B, X', hpost, hsteps⟩ | ⟨q, B, X', hpost, hsteps⟩
  · exact Or.inl ⟨v, vm₁, B, X₁.warmed, X', hpost, fun target h => hstep₁ _ fun acts => by rw [doInvoke_state]; exact hsteps.trans h⟩
  · exact Or.inr ⟨q, vm₁, B, X₁.warmed, X', hpost, hstep₁ _ fun acts => by rw [doInvoke_state]; exact hsteps⟩
end VXIC
section VXID
variable {p : Program} {l : Launch} {e : Env} {R : Room} {s : State} {m : MethodId} {args : Array Value} {below : List Frame} {meth : Method} {c : Code} {H : Heap} {locs : List Loc} {cells slots : Nat}
theorem vx_runIN {y : MethodName} {bytes cc : ByteArray} {maxL nL mc ms n index : Nat} {ws : List Cond} {rm : Room} {Pc : Array Value → State → Prop} {Qc : Array Value → State → Outcome → State → Prop} {XC : String → State → State → Prop} {free : Addr → Prop} {Ts : List Cond} {own host : String} {b : Addr} {As rest : List Value} {g : JFrame}
    (S : CallFix p m c cc nL s args Ts own) (hM : vx_Met l y ws rm Pc Qc XC mc ms free) (cw : va_CN R s args own index y host bytes maxL none ws rm mc ms n ∧ y.name = "<init>" ∧ (Cond.instanceMethod y).before args s = true) (hp : PreS s H Pc (.ref b :: As))
    (hg : g.method = m) (hn : As.length = n) (hsize : g.locals.size = nL) (hstack : g.stack = As.reverse ++ .ref b :: rest) (hW : 2 * g.monitorRoom + (rest.map fun v => v.category).sum ≤ 8) (hdg : decode cc g.pc = .ok (.invokespecial index, 3)) (hf : cells + mc ≤ R.cells ∧ slots + ms ≤ R.slots) :
    vx_Run p l e R s m args below meth c H locs cells slots mc ms g rest (Qc (Value.ref b :: As).toArray) XC free := by
  obtain ⟨⟨⟨hrc, hrs, hfr, hlo, hws, hcw⟩, hcode, hini, hy, hlen, hl⟩, hx1, hx2⟩ := cw
  have hK : vx_Back l R p e below s args y 3 8 (PreOf R mc ms Pc) (PostOf Qc mc ms free) (vx_Post XC mc ms free) := vx_back (bytes := bytes) (maxL := maxL) (ret := none) hM hp.1 hrc hrs hfr hlo hws hcw (fun a' U hW => word_at hW (Or.inl (by first | rfl | simp [Cond.onTables, Cond.keeps, Cond.steady])) hini)
  obtain ⟨hx, hb, hml, ho, -⟩ := S
  have hPc := hp.2
  intro T hT X
  rcases vx_callIN X hx (bytes := bytes) (maxL := maxL) ho hx1 hl hx2 hcode hy hK hg (hsize.trans hml.symm) (a := b) (argsL := As) (rest := rest) (fun sig h => hn.trans (hlen sig h)) hstack hW (by rw [hb]; exact hdg)
    (fun vm₁ hW₁ => ⟨hf.1, hf.2, hPc (T.setVm vm₁) hT hW₁⟩) with ⟨v, vm₁, ⟨U', l2, c2, s2⟩, hW₁, X', ⟨g', mk, t, L, e1, e2, hq, h1, hL, h2, h3⟩, st⟩ | ⟨q, vm₁, ⟨U', l2, c2, s2⟩, hW₁, X', ⟨g', mk, t, L, E, ce, e1, e2, hq, hce, hcv, hcl, h1, hL, h2, h3⟩, st⟩
  · dsimp only [Pt.U, Pt.locs, Pt.cells, Pt.slots] at X' e1 e2 h1 h2 h3 st
    subst h1; subst h2; subst h3
    exact Or.inl ⟨v, (T.setVm vm₁).calling g' mk (Value.ref b :: As).toArray, t, U', L, hT, X', hL, e1, e2, hq, st⟩
  · dsimp only [Pt.U, Pt.locs, Pt.cells, Pt.slots] at X' e1 e2 h1 h2 h3 st hcl
    subst h1; subst h2; subst h3
    exact Or.inr ⟨q, (T.setVm vm₁).calling g' mk (Value.ref b :: As).toArray, t, U', L, E, ce, hT, X', hL, e1, e2, hq, hce, hcv, vx_cls hW₁ hcl, st⟩
end VXID
/-! ===== END ===== -/
/-! ===== BEGIN a method of a class above, found by the receiver, that may throw (follows va_callVU, va_runU of this kit) ===== -/
section
variable {p : Program} {l : Launch} {e : Env} {R : Room} {s : State} {m : MethodId} {args : Array Value} {below : List Frame} {meth : Method} {c : Code} {H : Heap} {locs : List Loc} {cells slots : Nat}
theorem vx_callVU {T : State} {locs : List Loc} {cells slots : Nat} (X : Stand p l e R s m args below meth c T locs cells slots) (hexec : p.tables.exec = Jvm.exec) {own C owner : String} {index : Nat} {x y : MethodName} {bytes : ByteArray} {maxL : Nat} {ret : Option FieldType}
    (hown : s.vm.findClass own = some m.cls) (hlink : (Cond.methodLink own index x).before args s = true) (hsame : (Cond.sameMethod x.cls owner x.name x.desc).before args s = true)
    (hd0 : va_Decl s ⟨owner, x.name, x.desc⟩) (howner : owner ≠ "java/lang/invoke/MethodHandle" ∧ owner ≠ "java/lang/invoke/VarHandle")
    (hsel : (Cond.selects C x y).before args s = true) (hinst : (Cond.instanceMethod y).before args s = true) (hcode : (Cond.code y bytes maxL ret).before args s = true)
    {W : Nat} {Pre : Pt → Array Value → Prop} {Post : Pt → Array Value → Option Value → Pt → Prop} {PostX : Pt → Array Value → Addr → Pt → Prop} (hK : vx_Back l R p e below s args y 3 W Pre Post PostX)
    {b : Addr} {cellB : Cell} (hcell : T.heap[b]? = some cellB) (hobj : cellB.vm.isStatics = false) (hcls : s.vm.findClass C = some cellB.cls)
    {g : JFrame} (hg : g.method = m) (hsize : g.locals.size = c.maxLocals) {argsL rest : List Value} (hlen : ∀ sig, parseMethodDescriptor x.desc = some sig → argsL.length = sig.parameters.length)
    (hstack : g.stack = argsL.reverse ++ .ref b :: rest) (hW : 2 * g.monitorRoom + (rest.map fun v => v.category).sum ≤ W) (hdg : decode c.code g.pc = .ok (.invokevirtual index, 3))
    (hpre : ∀ vm₁, s.WarmedH vm₁ → Pre ⟨T.setVm vm₁, locs, cells, slots⟩ (Value.ref b :: argsL).toArray) :
    (∃ (v : Option Value) (vm₁ : Vm) (B : Pt), s.WarmedH vm₁ ∧ Stand p l e R s m args below meth c B.U B.locs B.cells B.slots ∧ Post ⟨T.setVm vm₁, locs, cells, slots⟩ (Value.ref b :: argsL).toArray v B ∧
      ∀ target, Steps p.tables e below (B.U.setTop { g with pc := g.pc + 3, stack := v.toList ++ rest }) target → Steps p.tables e below (T.setTop g) target) ∨
    (∃ (q : Addr) (vm₁ : Vm) (B : Pt), s.WarmedH vm₁ ∧ Stand p l e R s m args below meth c B.U B.locs B.cells B.slots ∧ PostX ⟨T.setVm vm₁, locs, cells, slots⟩ (Value.ref b :: argsL).toArray q B ∧
      Steps p.tables e below (T.setTop g) ((B.U.setTop { g with stack := rest }).pushFrame (.throwing q))) := by
  obtain ⟨r0, r, hn, hrm, hstR, hsigR⟩ := hd0
  obtain ⟨cn, ck, r1, hcn, hck, hni, hf, hn1⟩ := Cond.sameMethod_found hsame
  cases hn.symm.trans hn1
  obtain ⟨mk, methM, hnamed, hmethM, -, habM⟩ := Cond.instanceMethod_spec hinst
  obtain ⟨c2, r2, m2, q1, q2, q3, q4, kP, hkP, hkPi⟩ := Cond.selects_spec hsel
  cases hcls.symm.trans q1
  cases hf.symm.trans q2
  cases hnamed.symm.trans q3
  have hselP : selectMethod e.platform s.vm cellB.cls r0 = .method mk := by rw [Launch.admits_selectMethod X.admits]; exact q4
  obtain ⟨vm₁, X₁, hstep₁⟩ := X.invokevirtualUp hexec hown hlink hsame howner hn hrm hstR (a := b) (cell := cellB) hcell
    (fun z h => by rw [h] at hobj; cases hobj) hselP hmethM habM hkP hkPi (g := g) hg (argsL := argsL) (rest := rest) (hlen _ hsigR) hstack hdg
  rcases hK m meth c ⟨T.setVm vm₁, locs, cells, slots⟩ { g with stack := rest } (.invokevirtual index) mk (Value.ref b :: argsL).toArray X₁ hg hsize hdg hW (X₁.named hnamed) (hpre vm₁ X₁.warmed) with ⟨v, B, X', hpost, hsteps⟩ | ⟨q, B, X', hpost, hsteps⟩
  · exact Or.inl ⟨v, vm₁, B, X₁.warmed, X', hpost, fun target h => hstep₁ _ fun acts => by rw [doInvoke_state]; exact hsteps.trans h⟩
  · exact Or.inr ⟨q, vm₁, B, X₁.warmed, X', hpost, hstep₁ _ fun acts => by rw [doInvoke_state]; exact hsteps⟩
theorem vx_runU {x y : MethodName} {bytes cc : ByteArray} {maxL nL mc ms n index : Nat} {ret : Option FieldType} {ws : List Cond} {rm : Room} {Pc : Array Value → State → Prop} {Qc : Array Value → State → Outcome → State → Prop} {XC : String → State → State → Prop} {free : Addr → Prop} {Ts : List Cond} {own C owner : String} {b : Addr} {As rest : List Value} {g : JFrame}
    (S : CallFix p m c cc nL s args Ts own) (hM : vx_Met l y ws rm Pc Qc XC mc ms free) (cw : va_CU R s args own C owner index x y bytes maxL ret ws rm mc ms n) (hp : PreV s H C b Pc As)
    (hg : g.method = m) (hn : As.length = n) (hsize : g.locals.size = nL) (hstack : g.stack = As.reverse ++ .ref b :: rest) (hW : 2 * g.monitorRoom + (rest.map fun v => v.category).sum ≤ 8) (hdg : decode cc g.pc = .ok (.invokevirtual index, 3)) (hf : cells + mc ≤ R.cells ∧ slots + ms ≤ R.slots) :
    vx_Run p l e R s m args below meth c H locs cells slots mc ms g rest (Qc (Value.ref b :: As).toArray) XC free := by
  obtain ⟨hrc, hrs, hfr, hlo, hws, hcw⟩ := cw.back
  have hini := cw.init
  have hK : vx_Back l R p e below s args y 3 8 (PreOf R mc ms Pc) (PostOf Qc mc ms free) (vx_Post XC mc ms free) := vx_back (bytes := bytes) (maxL := maxL) (ret := ret) hM hp.1 hrc hrs hfr hlo hws hcw (fun a' U hW => word_at hW (Or.inl (by first | rfl | simp [Cond.onTables, Cond.keeps, Cond.steady])) hini)
  obtain ⟨hx, hb, hml, ho, -⟩ := S
  obtain ⟨-, ⟨cellB, hcB, hoB, hclB⟩, hPc⟩ := hp
  intro T hT X
  rcases vx_callVU X hx (C := C) (owner := owner) (bytes := bytes) (maxL := maxL) (ret := ret) ho cw.link cw.same cw.decl cw.notMH cw.sel cw.inst cw.code hK (by rw [hT]; exact hcB) hoB hclB hg (hsize.trans hml.symm) (argsL := As) (rest := rest) (fun sig h => hn.trans (cw.len sig h)) hstack hW (by rw [hb]; exact hdg)
    (fun vm₁ hW₁ => ⟨hf.1, hf.2, hPc (T.setVm vm₁) hT hW₁⟩) with ⟨v, vm₁, ⟨U', l2, c2, s2⟩, hW₁, X', ⟨g', mk, t, L, e1, e2, hq, h1, hL, h2, h3⟩, st⟩ | ⟨q, vm₁, ⟨U', l2, c2, s2⟩, hW₁, X', ⟨g', mk, t, L, E, ce, e1, e2, hq, hce, hcv, hcl, h1, hL, h2, h3⟩, st⟩
  · dsimp only [Pt.U, Pt.locs, Pt.cells, Pt.slots] at X' e1 e2 h1 h2 h3 st
    subst h1; subst h2; subst h3
    exact Or.inl ⟨v, (T.setVm vm₁).calling g' mk (Value.ref b :: As).toArray, t, U', L, hT, X', hL, e1, e2, hq, st⟩
  · dsimp only [Pt.U, Pt.locs, Pt.cells, Pt.slots] at X' e1 e2 h1 h2 h3 st hcl
    subst h1; subst h2; subst h3
    exact Or.inr ⟨q, (T.setVm vm₁).calling g' mk (Value.ref b :: As).toArray, t, U', L, E, ce, hT, X', hL, e1, e2, hq, hce, hcv, vx_cls hW₁ hcl, st⟩
end
/-! ===== END ===== -/
/-! ===== BEGIN super.m(..) that may throw (follows va_callSU, va_runSU) ===== -/
section
variable {p : Program} {l : Launch} {e : Env} {R : Room} {s : State} {m : MethodId} {args : Array Value} {below : List Frame} {meth : Method} {c : Code} {H : Heap} {locs : List Loc} {cells slots : Nat}
theorem vx_callSU {T : State} {locs : List Loc} {cells slots : Nat} (X : Stand p l e R s m args below meth c T locs cells slots) (hexec : p.tables.exec = Jvm.exec) {own : String} {index : Nat} {y : MethodName} {bytes : ByteArray} {maxL : Nat} {ret : Option FieldType}
    (hown : s.vm.findClass own = some m.cls) (hlink : (Cond.methodLink own index y).before args s = true) (hsame : (Cond.sameMethod y.cls y.cls y.name y.desc).before args s = true) (hsup : (Cond.superclass own y.cls).before args s = true)
    (hinst : (Cond.instanceMethod y).before args s = true) (hcode : (Cond.code y bytes maxL ret).before args s = true) (hno : y.name ≠ "<init>")
    {W : Nat} {Pre : Pt → Array Value → Prop} {Post : Pt → Array Value → Option Value → Pt → Prop} {PostX : Pt → Array Value → Addr → Pt → Prop} (hK : vx_Back l R p e below s args y 3 W Pre Post PostX)
    {b : Addr} {cellB : Cell} {kB : Class} (hcell : T.heap[b]? = some cellB) (hobj : cellB.vm.isStatics = false) (hkB : s.vm.classes[cellB.cls]? = some kB)
    {g : JFrame} (hg : g.method = m) (hsize : g.locals.size = c.maxLocals) {argsL rest : List Value} (hlen : ∀ sig, parseMethodDescriptor y.desc = some sig → argsL.length = sig.parameters.length)
    (hstack : g.stack = argsL.reverse ++ .ref b :: rest) (hW : 2 * g.monitorRoom + (rest.map fun v => v.category).sum ≤ W) (hdg : decode c.code g.pc = .ok (.invokespecial index, 3))
    (hpre : ∀ vm₁, s.WarmedH vm₁ → Pre ⟨T.setVm vm₁, locs, cells, slots⟩ (Value.ref b :: argsL).toArray) :
    (∃ (v : Option Value) (vm₁ : Vm) (B : Pt), s.WarmedH vm₁ ∧ Stand p l e R s m args below meth c B.U B.locs B.cells B.slots ∧ Post ⟨T.setVm vm₁, locs, cells, slots⟩ (Value.ref b :: argsL).toArray v B ∧
      ∀ target, Steps p.tables e below (B.U.setTop { g with pc := g.pc + 3, stack := v.toList ++ rest }) target → Steps p.tables e below (T.setTop g) target) ∨
    (∃ (q : Addr) (vm₁ : Vm) (B : Pt), s.WarmedH vm₁ ∧ Stand p l e R s m args below meth c B.U B.locs B.cells B.slots ∧ PostX ⟨T.setVm vm₁, locs, cells, slots⟩ (Value.ref b :: argsL).toArray q B ∧
      Steps p.tables e below (T.setTop g) ((B.U.setTop { g with stack := rest }).pushFrame (.throwing q))) := by
  obtain ⟨mk, methM, hnamed, hmethM, hstM, habM⟩ := Cond.instanceMethod_spec hinst
  obtain ⟨methM', cM, hmethM', -, -, -, -, -, -, hsigM⟩ := Cond.code_spec hnamed hcode
  cases hmethM.symm.trans hmethM'
  obtain ⟨ps, dk, kp, hps, hdk, hkp, hsuper, -, -, hnid⟩ := Cond.superclass_spec hown hsup
  have hn : s.methodNamed? ⟨y.cls, y.name, y.desc⟩ = some mk := hnamed
  have hpm : ps = mk.cls := Option.some.inj (hps.symm.trans (findClass_of_methodNamed hnamed))
  have hsub : s.vm.isSubclass ps mk.cls = true := by rw [hpm]; simp [Vm.isSubclass, Vm.isSubclassAux]
  obtain ⟨vm₁, X₁, hstep₁⟩ := X.invokespecialUp hexec hown hlink hsame hn hmethM hstM habM hno hdk hnid hps hsuper hsub (a := b) (cell := cellB) hcell
    (fun z h => by rw [h] at hobj; cases hobj) hkB (g := g) hg (argsL := argsL) (rest := rest) (hlen _ hsigM) hstack hdg
  rcases hK m meth c ⟨T.setVm vm₁, locs, cells, slots⟩ { g with stack := rest } (.invokespecial index) mk (Value.ref b :: argsL).toArray X₁ hg hsize hdg hW (X₁.named hnamed) (hpre vm₁ X₁.warmed) with ⟨v, B, X', hpost, hsteps⟩ | ⟨q, B, X', hpost, hsteps⟩
  · exact Or.inl ⟨v, vm₁, B, X₁.warmed, X', hpost, fun target h => hstep₁ _ (by rw [doInvoke_state]; exact hsteps.trans h)⟩
  · exact Or.inr ⟨q, vm₁, B, X₁.warmed, X', hpost, hstep₁ _ (by rw [doInvoke_state]; exact hsteps)⟩
theorem vx_runSU {y : MethodName} {bytes cc : ByteArray} {maxL nL mc ms n index : Nat} {ret : Option FieldType} {ws : List Cond} {rm : Room} {Pc : Array Value → State → Prop} {Qc : Array Value → State → Outcome → State → Prop} {XC : String → State → State → Prop} {free : Addr → Prop} {Ts : List Cond} {own C : String} {cC : ClassId} {b : Addr} {As rest : List Value} {g : JFrame}
    (hat : ClassAt s C cC) (S : CallFix p m c cc nL s args Ts own) (hM : vx_Met l y ws rm Pc Qc XC mc ms free) (cw : va_CS R s args own index y bytes maxL ret ws rm mc ms n) (hp : PreV s H C b Pc As)
    (hg : g.method = m) (hn : As.length = n) (hsize : g.locals.size = nL) (hstack : g.stack = As.reverse ++ .ref b :: rest) (hW : 2 * g.monitorRoom + (rest.map fun v => v.category).sum ≤ 8) (hdg : decode cc g.pc = .ok (.invokespecial index, 3)) (hf : cells + mc ≤ R.cells ∧ slots + ms ≤ R.slots) :
    vx_Run p l e R s m args below meth c H locs cells slots mc ms g rest (Qc (Value.ref b :: As).toArray) XC free := by
  obtain ⟨⟨hrc, hrs, hfr, hlo, hws, hcw⟩, hl1, hl2, hl3, hl4, hini, hcode, hno, hlen⟩ := cw
  have hK : vx_Back l R p e below s args y 3 8 (PreOf R mc ms Pc) (PostOf Qc mc ms free) (vx_Post XC mc ms free) := vx_back (bytes := bytes) (maxL := maxL) (ret := ret) hM hp.1 hrc hrs hfr hlo hws hcw (fun a' U hW => word_at hW (Or.inl (by first | rfl | simp [Cond.onTables, Cond.keeps, Cond.steady])) hini)
  obtain ⟨hx, hb, hml, ho, -⟩ := S
  obtain ⟨-, ⟨cellB, hcB, hoB, hclB⟩, hPc⟩ := hp
  obtain ⟨hfc, kB, hkB, -⟩ := hat
  cases hfc.symm.trans hclB
  intro T hT X
  rcases vx_callSU X hx (bytes := bytes) (maxL := maxL) (ret := ret) ho hl1 hl2 hl3 hl4 hcode hno hK (by rw [hT]; exact hcB) hoB hkB hg (hsize.trans hml.symm) (argsL := As) (rest := rest) (fun sig h => hn.trans (hlen sig h)) hstack hW (by rw [hb]; exact hdg)
    (fun vm₁ hW₁ => ⟨hf.1, hf.2, hPc (T.setVm vm₁) hT hW₁⟩) with ⟨v, vm₁, ⟨U', l2, c2, s2⟩, hW₁, X', ⟨g', mk, t, L, e1, e2, hq, h1, hL, h2, h3⟩, st⟩ | ⟨q, vm₁, ⟨U', l2, c2, s2⟩, hW₁, X', ⟨g', mk, t, L, E, ce, e1, e2, hq, hce, hcv, hcl, h1, hL, h2, h3⟩, st⟩
  · dsimp only [Pt.U, Pt.locs, Pt.cells, Pt.slots] at X' e1 e2 h1 h2 h3 st
    subst h1; subst h2; subst h3
    exact Or.inl ⟨v, (T.setVm vm₁).calling g' mk (Value.ref b :: As).toArray, t, U', L, hT, X', hL, e1, e2, hq, st⟩
  · dsimp only [Pt.U, Pt.locs, Pt.cells, Pt.slots] at X' e1 e2 h1 h2 h3 st hcl
    subst h1; subst h2; subst h3
    exact Or.inr ⟨q, (T.setVm vm₁).calling g' mk (Value.ref b :: As).toArray, t, U', L, E, ce, hT, X', hL, e1, e2, hq, hce, hcv, vx_cls hW₁ hcl, st⟩
end
/-! ===== END ===== -/
/-! ===== BEGIN a private method of a nest mate that may throw (follows va_callVN, va_callSN, va_runVN, va_runSN) ===== -/
section
variable {p : Program} {l : Launch} {e : Env} {R : Room} {s : State} {m : MethodId} {args : Array Value} {below : List Frame} {meth : Method} {c : Code} {H : Heap} {locs : List Loc} {cells slots : Nat}
variable {T : State}
theorem vx_callVN (X : Stand p l e R s m args below meth c T locs cells slots) (hexec : p.tables.exec = Jvm.exec) {own C : String} {index : Nat} {host : String} {y : MethodName} {bytes : ByteArray} {maxL : Nat} {ret : Option FieldType}
    (hown : s.vm.findClass own = some m.cls) (hlink : (Cond.methodLinkNest own index y host).before args s = true) (hinst : (Cond.instanceMethod y).before args s = true) (hsel : (Cond.selects C y y).before args s = true)
    (hcode : (Cond.code y bytes maxL ret).before args s = true) (hy : y.cls ≠ "java/lang/invoke/MethodHandle" ∧ y.cls ≠ "java/lang/invoke/VarHandle")
    {W : Nat} {Pre : Pt → Array Value → Prop} {Post : Pt → Array Value → Option Value → Pt → Prop} {PostX : Pt → Array Value → Addr → Pt → Prop} (hK : vx_Back l R p e below s args y 3 W Pre Post PostX)
    {b : Addr} {cellB : Cell} (hcell : T.heap[b]? = some cellB) (hobj : cellB.vm.isStatics = false) (hcls : s.vm.findClass C = some cellB.cls)
    {g : JFrame} (hg : g.method = m) (hsize : g.locals.size = c.maxLocals) {argsL rest : List Value} (hlen : ∀ sig, parseMethodDescriptor y.desc = some sig → argsL.length = sig.parameters.length)
    (hstack : g.stack = argsL.reverse ++ .ref b :: rest) (hW : 2 * g.monitorRoom + (rest.map fun v => v.category).sum ≤ W) (hdg : decode c.code g.pc = .ok (.invokevirtual index, 3))
    (hpre : ∀ vm₁, s.WarmedH vm₁ → Pre ⟨T.setVm vm₁, locs, cells, slots⟩ (Value.ref b :: argsL).toArray) :
    (∃ (v : Option Value) (vm₁ : Vm) (B : Pt), s.WarmedH vm₁ ∧ Stand p l e R s m args below meth c B.U B.locs B.cells B.slots ∧ Post ⟨T.setVm vm₁, locs, cells, slots⟩ (Value.ref b :: argsL).toArray v B ∧
      ∀ target, Steps p.tables e below (B.U.setTop { g with pc := g.pc + 3, stack := v.toList ++ rest }) target → Steps p.tables e below (T.setTop g) target) ∨
    (∃ (q : Addr) (vm₁ : Vm) (B : Pt), s.WarmedH vm₁ ∧ Stand p l e R s m args below meth c B.U B.locs B.cells B.slots ∧ PostX ⟨T.setVm vm₁, locs, cells, slots⟩ (Value.ref b :: argsL).toArray q B ∧
      Steps p.tables e below (T.setTop g) ((B.U.setTop { g with stack := rest }).pushFrame (.throwing q))) := by
  obtain ⟨mk, methM, hnamed, hmethM, hstM, habM⟩ := Cond.instanceMethod_spec hinst
  obtain ⟨methM', cM, hmethM', -, -, -, -, -, -, hsigM⟩ := Cond.code_spec hnamed hcode
  cases hmethM.symm.trans hmethM'
  obtain ⟨c2, r2, m2, q1, q2, q3, q4, kP, hkP, hkPi⟩ := Cond.selects_spec hsel
  cases hcls.symm.trans q1
  cases (State.methodFound?_of_named hnamed hy).symm.trans q2
  cases hnamed.symm.trans q3
  have hselP : selectMethod e.platform s.vm cellB.cls mk = .method mk := by rw [Launch.admits_selectMethod X.admits]; exact q4
  obtain ⟨vm₁, X₁, hstep₁⟩ := X.invokevirtualNest hexec hown hlink hnamed hmethM hstM hkP hkPi hy (a := b) (cell := cellB) hcell
    (fun z h => by rw [h] at hobj; cases hobj) hselP hmethM habM hkP hkPi (g := g) hg (argsL := argsL) (rest := rest) (hlen _ hsigM) hstack hdg
  rcases hK m meth c ⟨T.setVm vm₁, locs, cells, slots⟩ { g with stack := rest } (.invokevirtual index) mk (Value.ref b :: argsL).toArray X₁ hg hsize hdg hW (X₁.named hnamed) (hpre vm₁ X₁.warmed) with ⟨v, B, X', hpost, hsteps⟩ | ⟨q, B, X', hpost, hsteps⟩
  · exact Or.inl ⟨v, vm₁, B, X₁.warmed, X', hpost, fun target h => hstep₁ _ fun acts => by rw [doInvoke_state]; exact hsteps.trans h⟩
  · exact Or.inr ⟨q, vm₁, B, X₁.warmed, X', hpost, hstep₁ _ fun acts => by rw [doInvoke_state]; exact hsteps⟩
theorem vx_callSN (X : Stand p l e R s m args below meth c T locs cells slots) (hexec : p.tables.exec = Jvm.exec) {own : String} {index : Nat} {host : String} {y : MethodName} {bytes : ByteArray} {maxL : Nat} {ret : Option FieldType}
    (hown : s.vm.findClass own = some m.cls) (hlink : (Cond.methodLinkNest own index y host).before args s = true) (hstat : (Cond.static y).before args s = true) (hinit : (Cond.initialized y.cls).before args s = true)
    (hcode : (Cond.code y bytes maxL ret).before args s = true) (hy : y.cls ≠ "java/lang/invoke/MethodHandle" ∧ y.cls ≠ "java/lang/invoke/VarHandle")
    {W : Nat} {Pre : Pt → Array Value → Prop} {Post : Pt → Array Value → Option Value → Pt → Prop} {PostX : Pt → Array Value → Addr → Pt → Prop} (hK : vx_Back l R p e below s args y 3 W Pre Post PostX)
    {g : JFrame} (hg : g.method = m) (hsize : g.locals.size = c.maxLocals) {argsL rest : List Value} (hlen : ∀ sig, parseMethodDescriptor y.desc = some sig → argsL.length = sig.parameters.length)
    (hstack : g.stack = argsL.reverse ++ rest) (hW : 2 * g.monitorRoom + (rest.map fun v => v.category).sum ≤ W) (hdg : decode c.code g.pc = .ok (.invokestatic index, 3))
    (hpre : ∀ vm₁, s.WarmedH vm₁ → Pre ⟨T.setVm vm₁, locs, cells, slots⟩ argsL.toArray) :
    (∃ (v : Option Value) (vm₁ : Vm) (B : Pt), s.WarmedH vm₁ ∧ Stand p l e R s m args below meth c B.U B.locs B.cells B.slots ∧ Post ⟨T.setVm vm₁, locs, cells, slots⟩ argsL.toArray v B ∧
      ∀ target, Steps p.tables e below (B.U.setTop { g with pc := g.pc + 3, stack := v.toList ++ rest }) target → Steps p.tables e below (T.setTop g) target) ∨
    (∃ (q : Addr) (vm₁ : Vm) (B : Pt), s.WarmedH vm₁ ∧ Stand p l e R s m args below meth c B.U B.locs B.cells B.slots ∧ PostX ⟨T.setVm vm₁, locs, cells, slots⟩ argsL.toArray q B ∧
      Steps p.tables e below (T.setTop g) ((B.U.setTop { g with stack := rest }).pushFrame (.throwing q))) := by
  obtain ⟨mk, hnamed⟩ := Cond.code_named hcode
  obtain ⟨methM, cM, hmethM, -, -, -, -, -, -, hsigM⟩ := Cond.code_spec hnamed hcode
  have hstatic : methM.isStatic = true := Cond.static_spec hnamed hmethM hstat
  obtain ⟨kP, hkP, -⟩ := className_of_methodNamed hnamed
  have hinitP : kP.init = .initialized := Cond.initialized_spec (findClass_of_methodNamed hnamed) hkP hinit
  obtain ⟨vm₁, X₁, hstep₁⟩ := X.invokestaticNest hexec hown hlink hnamed hmethM hstatic hkP hinitP hy (g := g) hg (argsL := argsL) (rest := rest) (hlen _ hsigM) hstack hdg
  rcases hK m meth c ⟨T.setVm vm₁, locs, cells, slots⟩ { g with stack := rest } (.invokestatic index) mk argsL.toArray X₁ hg hsize hdg hW (X₁.named hnamed) (hpre vm₁ X₁.warmed) with ⟨v, B, X', hpost, hsteps⟩ | ⟨q, B, X', hpost, hsteps⟩
  · exact Or.inl ⟨v, vm₁, B, X₁.warmed, X', hpost, fun target h => hstep₁ _ fun acts => by rw [doInvoke_state]; exact hsteps.trans h⟩
  · exact Or.inr ⟨q, vm₁, B, X₁.warmed, X', hpost, hstep₁ _ fun acts => by rw [doInvoke_state]; exact hsteps⟩
theorem vx_runVN {y : MethodName} {bytes cc : ByteArray} {maxL nL mc ms n index : Nat} {ret : Option FieldType} {ws : List Cond} {rm : Room} {Pc : Array Value → State → Prop} {Qc : Array Value → State → Outcome → State → Prop} {XC : String → State → State → Prop} {free : Addr → Prop} {Ts : List Cond} {own C host : String} {b : Addr} {As rest : List Value} {g : JFrame}
    (S : CallFix p m c cc nL s args Ts own) (hM : vx_Met l y ws rm Pc Qc XC mc ms free) (cw : va_CN R s args own index y host bytes maxL ret ws rm mc ms n ∧ (Cond.instanceMethod y).before args s = true ∧ (Cond.selects C y y).before args s = true) (hp : PreV s H C b Pc As)
    (hg : g.method = m) (hn : As.length = n) (hsize : g.locals.size = nL) (hstack : g.stack = As.reverse ++ .ref b :: rest) (hW : 2 * g.monitorRoom + (rest.map fun v => v.category).sum ≤ 8) (hdg : decode cc g.pc = .ok (.invokevirtual index, 3)) (hf : cells + mc ≤ R.cells ∧ slots + ms ≤ R.slots) :
    vx_Run p l e R s m args below meth c H locs cells slots mc ms g rest (Qc (Value.ref b :: As).toArray) XC free := by
  obtain ⟨⟨⟨hrc, hrs, hfr, hlo, hws, hcw⟩, hcode, hini, hy, hlen, hl⟩, hx1, hx2⟩ := cw
  have hK : vx_Back l R p e below s args y 3 8 (PreOf R mc ms Pc) (PostOf Qc mc ms free) (vx_Post XC mc ms free) := vx_back (bytes := bytes) (maxL := maxL) (ret := ret) hM hp.1 hrc hrs hfr hlo hws hcw (fun a' U hW => word_at hW (Or.inl (by first | rfl | simp [Cond.onTables, Cond.keeps, Cond.steady])) hini)
  obtain ⟨hx, hb, hml, ho, -⟩ := S
  obtain ⟨-, ⟨cellB, hcB, hoB, hclB⟩, hPc⟩ := hp
  intro T hT X
  rcases vx_callVN X hx (C := C) (bytes := bytes) (maxL := maxL) (ret := ret) ho hl hx1 hx2 hcode hy hK (by rw [hT]; exact hcB) hoB hclB hg (hsize.trans hml.symm) (argsL := As) (rest := rest) (fun sig h => hn.trans (hlen sig h)) hstack hW (by rw [hb]; exact hdg)
    (fun vm₁ hW₁ => ⟨hf.1, hf.2, hPc (T.setVm vm₁) hT hW₁⟩) with ⟨v, vm₁, ⟨U', l2, c2, s2⟩, hW₁, X', ⟨g', mk, t, L, e1, e2, hq, h1, hL, h2, h3⟩, st⟩ | ⟨q, vm₁, ⟨U', l2, c2, s2⟩, hW₁, X', ⟨g', mk, t, L, E, ce, e1, e2, hq, hce, hcv, hcl, h1, hL, h2, h3⟩, st⟩
  · dsimp only [Pt.U, Pt.locs, Pt.cells, Pt.slots] at X' e1 e2 h1 h2 h3 st
    subst h1; subst h2; subst h3
    exact Or.inl ⟨v, (T.setVm vm₁).calling g' mk (Value.ref b :: As).toArray, t, U', L, hT, X', hL, e1, e2, hq, st⟩
  · dsimp only [Pt.U, Pt.locs, Pt.cells, Pt.slots] at X' e1 e2 h1 h2 h3 st hcl
    subst h1; subst h2; subst h3
    exact Or.inr ⟨q, (T.setVm vm₁).calling g' mk (Value.ref b :: As).toArray, t, U', L, E, ce, hT, X', hL, e1, e2, hq, hce, hcv, vx_cls hW₁ hcl, st⟩
theorem vx_runSN {y : MethodName} {bytes cc : ByteArray} {maxL nL mc ms n index : Nat} {ret : Option FieldType} {ws : List Cond} {rm : Room} {Pc : Array Value → State → Prop} {Qc : Array Value → State → Outcome → State → Prop} {XC : String → State → State → Prop} {free : Addr → Prop} {Ts : List Cond} {own host : String} {As rest : List Value} {g : JFrame}
    (S : CallFix p m c cc nL s args Ts own) (hM : vx_Met l y ws rm Pc Qc XC mc ms free) (cw : va_CN R s args own index y host bytes maxL ret ws rm mc ms n ∧ (Cond.static y).before args s = true ∧ True) (hp : PreS s H Pc As)
    (hg : g.method = m) (hn : As.length = n) (hsize : g.locals.size = nL) (hstack : g.stack = As.reverse ++ rest) (hW : 2 * g.monitorRoom + (rest.map fun v => v.category).sum ≤ 8) (hdg : decode cc g.pc = .ok (.invokestatic index, 3)) (hf : cells + mc ≤ R.cells ∧ slots + ms ≤ R.slots) :
    vx_Run p l e R s m args below meth c H locs cells slots mc ms g rest (Qc As.toArray) XC free := by
  obtain ⟨⟨⟨hrc, hrs, hfr, hlo, hws, hcw⟩, hcode, hini, hy, hlen, hl⟩, hx1, hx2⟩ := cw
  have hK : vx_Back l R p e below s args y 3 8 (PreOf R mc ms Pc) (PostOf Qc mc ms free) (vx_Post XC mc ms free) := vx_back (bytes := bytes) (maxL := maxL) (ret := ret) hM hp.1 hrc hrs hfr hlo hws hcw (fun a' U hW => word_at hW (Or.inl (by first | rfl | simp [Cond.onTables, Cond.keeps, Cond.steady])) hini)
  obtain ⟨hx, hb, hml, ho, -⟩ := S
  have hPc := hp.2
  intro T hT X
  rcases vx_callSN X hx (bytes := bytes) (maxL := maxL) (ret := ret) ho hl hx1 hini hcode hy hK hg (hsize.trans hml.symm) (argsL := As) (rest := rest) (fun sig h => hn.trans (hlen sig h)) hstack hW (by rw [hb]; exact hdg)
    (fun vm₁ hW₁ => ⟨hf.1, hf.2, hPc (T.setVm vm₁) hT hW₁⟩) with ⟨v, vm₁, ⟨U', l2, c2, s2⟩, hW₁, X', ⟨g', mk, t, L, e1, e2, hq, h1, hL, h2, h3⟩, st⟩ | ⟨q, vm₁, ⟨U', l2, c2, s2⟩, hW₁, X', ⟨g', mk, t, L, E, ce, e1, e2, hq, hce, hcv, hcl, h1, hL, h2, h3⟩, st⟩
  · dsimp only [Pt.U, Pt.locs, Pt.cells, Pt.slots] at X' e1 e2 h1 h2 h3 st
    subst h1; subst h2; subst h3
    exact Or.inl ⟨v, (T.setVm vm₁).calling g' mk As.toArray, t, U', L, hT, X', hL, e1, e2, hq, st⟩
  · dsimp only [Pt.U, Pt.locs, Pt.cells, Pt.slots] at X' e1 e2 h1 h2 h3 st hcl
    subst h1; subst h2; subst h3
    exact Or.inr ⟨q, (T.setVm vm₁).calling g' mk As.toArray, t, U', L, E, ce, hT, X', hL, e1, e2, hq, hce, hcv, vx_cls hW₁ hcl, st⟩
end
/-! ===== END ===== -/
/-! ===== BEGIN calls by an interface of methods that may throw (vx_callIF, vx_runF follow va_callIF, va_runF of this kit) ===== -/
section
variable {p : Program} {l : Launch} {e : Env} {R : Room} {s : State} {m : MethodId} {args : Array Value} {below : List Frame} {meth : Method} {c : Code} {H : Heap} {locs : List Loc} {cells slots : Nat} {Q : State → Prop}
variable {mc ms : Nat} {free : Addr → Prop} {A0 A1 : Nat → Prop} {H0 : Heap} {a : Array Value} {pc : Nat} {ls : Array Slot} {st0 rest : List Value}
def vx_Run5 (p : Program) (l : Launch) (e : Env) (R : Room) (s : State) (m : MethodId) (args : Array Value) (below : List Frame) (meth : Method) (c : Code) (H : Heap) (locs : List Loc) (cells slots mc ms : Nat) (g : JFrame) (rest : List Value) (Qa : State → Outcome → State → Prop) (XC : String → State → State → Prop) (free : Addr → Prop) : Prop :=
  ∀ T : State, T.heap = H → Stand p l e R s m args below meth c T locs cells slots →
    (∃ (v : Option Value) (st₀ t T' : State) (L : List Loc), st₀.heap = H ∧ Stand p l e R s m args below meth c T' (locs ++ L) (cells + mc) (slots + ms) ∧ (∀ q ∈ L, free q.base) ∧ T'.heap = t.heap ∧ T'.vm = t.vm ∧ Qa st₀ (.returned v) t ∧
      Goes p e below T g T' { g with pc := g.pc + 5, stack := v.toList ++ rest }) ∨
    (∃ (q : Addr) (st₀ t T' : State) (L : List Loc) (E : String) (ce : Cell), st₀.heap = H ∧ Stand p l e R s m args below meth c T' (locs ++ L) (cells + mc) (slots + ms) ∧ (∀ z ∈ L, free z.base) ∧ T'.heap = t.heap ∧ T'.vm = t.vm ∧ XC E st₀ t ∧ t.heap[q]? = some ce ∧ ce.vm = .none ∧ s.vm.findClass E = some ce.cls ∧
      Steps p.tables e below (T.setTop g) ((T'.setTop { g with stack := rest }).pushFrame (.throwing q)))
theorem vx_callIF {T : State} (X : Stand p l e R s m args below meth c T locs cells slots) (hexec : p.tables.exec = Jvm.exec) {own C : String} {index count : Nat} {x y : MethodName} {bytes : ByteArray} {maxL : Nat} {ret : Option FieldType}
    (hown : s.vm.findClass own = some m.cls) (hlink : (Cond.methodLink own index x).before args s = true) (hdecl : (Cond.declares x).before args s = true) (hface : (Cond.interfaceMethod x.cls x.cls x.name x.desc).before args s = true)
    (hsel : (Cond.selects C x y).before args s = true) (hinst : (Cond.instanceMethod y).before args s = true) (hpub : (Cond.publicMethod y).before args s = true) (hunh : (Cond.unhidden C x.name x.desc).before args s = true)
    (hcast : (Cond.castable C x.cls).before args s = true) (hcode : (Cond.code y bytes maxL ret).before args s = true) (hx : x.cls ≠ "java/lang/invoke/MethodHandle" ∧ x.cls ≠ "java/lang/invoke/VarHandle")
    {W9 : Nat} {Pre : Pt → Array Value → Prop} {Post : Pt → Array Value → Option Value → Pt → Prop} {PostX : Pt → Array Value → Addr → Pt → Prop} (hK : vx_Back l R p e below s args y 5 W9 Pre Post PostX)
    {b : Addr} {cellB : Cell} {kB : Class} (hcell : T.heap[b]? = some cellB) (hobj : cellB.vm.isStatics = false) (hcls : s.vm.findClass C = some cellB.cls) (hkB : s.vm.classes[cellB.cls]? = some kB)
    {g : JFrame} (hg : g.method = m) (hsize : g.locals.size = c.maxLocals) {argsL rest : List Value} (hlen : ∀ sig, parseMethodDescriptor x.desc = some sig → argsL.length = sig.parameters.length)
    (hstack : g.stack = argsL.reverse ++ .ref b :: rest) (hW : 2 * g.monitorRoom + (rest.map fun v => v.category).sum ≤ W9) (hdg : decode c.code g.pc = .ok (.invokeinterface index count, 5))
    (hpre : ∀ vm₁, s.WarmedH vm₁ → Pre ⟨T.setVm vm₁, locs, cells, slots⟩ (Value.ref b :: argsL).toArray) :
    (∃ (v : Option Value) (vm₁ : Vm) (B : Pt), s.WarmedH vm₁ ∧ Stand p l e R s m args below meth c B.U B.locs B.cells B.slots ∧ Post ⟨T.setVm vm₁, locs, cells, slots⟩ (Value.ref b :: argsL).toArray v B ∧
      ∀ target, Steps p.tables e below (B.U.setTop { g with pc := g.pc + 5, stack := v.toList ++ rest }) target → Steps p.tables e below (T.setTop g) target) ∨
    (∃ (q : Addr) (vm₁ : Vm) (B : Pt), s.WarmedH vm₁ ∧ Stand p l e R s m args below meth c B.U B.locs B.cells B.slots ∧ PostX ⟨T.setVm vm₁, locs, cells, slots⟩ (Value.ref b :: argsL).toArray q B ∧
      Steps p.tables e below (T.setTop g) ((B.U.setTop { g with stack := rest }).pushFrame (.throwing q))) := by
  obtain ⟨r0, r, hn, hrm, hstR, hsigR⟩ := Cond.declares_spec hdecl
  obtain ⟨cL, kL, r1, hcL, hkL, hiL, hfoundL, hn1⟩ := Cond.interfaceMethod_spec hface
  cases hn.symm.trans hn1
  have hr0cls : r0.cls = cL := Option.some.inj ((findClass_of_methodNamed hn).symm.trans hcL)
  obtain ⟨hnameR, hdescR⟩ := name_of_methodNamed hn hrm
  obtain ⟨mk, methM, hnamed, hmethM, -, habM⟩ := Cond.instanceMethod_spec hinst
  obtain ⟨c2, r2, m2, q1, q2, q3, q4, -⟩ := Cond.selects_spec hsel
  cases hcls.symm.trans q1
  cases hfoundL.symm.trans q2
  cases hnamed.symm.trans q3
  have hselP : selectMethod e.platform s.vm cellB.cls r0 = .method mk := by rw [Launch.admits_selectMethod X.admits]; exact q4
  have hpubM : hasFlag methM.accessFlags Acc.public_ = true := Cond.publicMethod_spec hnamed hmethM hpub
  have hway : ((cellB.cls :: s.vm.superclasses cellB.cls).any fun k => (declaredIn s.vm r.name r.desc k).any fun (_, z) => z.isPrivate || z.isStatic) = false := by
    rw [hnameR, hdescR]; exact Cond.unhidden_spec hcls hunh
  obtain ⟨c3, t3, w1, w2, w3⟩ := Cond.castable_spec hcast
  cases hcls.symm.trans w1
  cases hcL.symm.trans w2
  obtain ⟨vm₁, X₁, hstep₁⟩ := X.invokeinterface hexec hown hlink hn hrm hstR (by rw [hr0cls]; exact hkL) hiL hx (a := b) (cell := cellB) (kcell := kB) hcell
    (fun z h => by rw [h] at hobj; cases hobj) hkB (by rw [hr0cls]; exact w3) hselP hmethM hway hpubM habM (g := g) hg (argsL := argsL) (rest := rest) (hlen _ hsigR) hstack hdg
  rcases hK m meth c ⟨T.setVm vm₁, locs, cells, slots⟩ { g with stack := rest } (.invokeinterface index count) mk (Value.ref b :: argsL).toArray X₁ hg hsize hdg hW (X₁.named hnamed) (hpre vm₁ X₁.warmed) with ⟨v, B, X', hpost, hsteps⟩ | ⟨q, B, X', hpost, hsteps⟩
  · exact Or.inl ⟨v, vm₁, B, X₁.warmed, X', hpost, fun target h => hstep₁ _ fun acts => by rw [doInvoke_state]; exact hsteps.trans h⟩
  · exact Or.inr ⟨q, vm₁, B, X₁.warmed, X', hpost, hstep₁ _ fun acts => by rw [doInvoke_state]; exact hsteps⟩
theorem vx_runF {x y : MethodName} {bytes cc : ByteArray} {maxL nL mc ms n index count : Nat} {ret : Option FieldType} {ws : List Cond} {rm : Room} {Pc : Array Value → State → Prop} {Qc : Array Value → State → Outcome → State → Prop} {XC : String → State → State → Prop} {free : Addr → Prop} {Ts : List Cond} {own C : String} {cC : ClassId} {b : Addr} {As rest : List Value} {g : JFrame}
    (hat : ClassAt s C cC) (S : CallFix p m c cc nL s args Ts own) (hM : vx_Met l y ws rm Pc Qc XC mc ms free) (cw : va_CI R s args own C index x y bytes maxL ret ws rm mc ms n) (hp : PreV s H C b Pc As)
    (hg : g.method = m) (hn : As.length = n) (hsize : g.locals.size = nL) (hstack : g.stack = As.reverse ++ .ref b :: rest) (hW : 2 * g.monitorRoom + (rest.map fun v => v.category).sum ≤ 8) (hdg : decode cc g.pc = .ok (.invokeinterface index count, 5)) (hf : cells + mc ≤ R.cells ∧ slots + ms ≤ R.slots) :
    vx_Run5 p l e R s m args below meth c H locs cells slots mc ms g rest (Qc (Value.ref b :: As).toArray) XC free := by
  obtain ⟨hrc, hrs, hfr, hlo, hws, hcw⟩ := cw.back
  have hini := cw.init
  have hK : vx_Back l R p e below s args y 5 8 (PreOf R mc ms Pc) (PostOf Qc mc ms free) (vx_Post XC mc ms free) := vx_back (bytes := bytes) (maxL := maxL) (ret := ret) hM hp.1 hrc hrs hfr hlo hws hcw (fun a' U hW => word_at hW (Or.inl (by first | rfl | simp [Cond.onTables, Cond.keeps, Cond.steady])) hini)
  obtain ⟨hx, hb, hml, ho, -⟩ := S
  obtain ⟨-, ⟨cellB, hcB, hoB, hclB⟩, hPc⟩ := hp
  obtain ⟨hfc, kB, hkB, -⟩ := hat
  cases hfc.symm.trans hclB
  intro T hT X
  rcases vx_callIF X hx (C := C) (bytes := bytes) (maxL := maxL) (ret := ret) ho cw.link cw.decl cw.face cw.sel cw.inst cw.pub cw.unh cw.cast cw.code cw.notMH hK (by rw [hT]; exact hcB) hoB hclB hkB hg (hsize.trans hml.symm) (argsL := As) (rest := rest) (fun sig h => hn.trans (cw.len sig h)) hstack hW (by rw [hb]; exact hdg)
    (fun vm₁ hW₁ => ⟨hf.1, hf.2, hPc (T.setVm vm₁) hT hW₁⟩) with ⟨v, vm₁, ⟨U', l2, c2, s2⟩, hW₁, X', ⟨g', mk, t, L, e1, e2, hq, h1, hL, h2, h3⟩, st⟩ | ⟨q, vm₁, ⟨U', l2, c2, s2⟩, hW₁, X', ⟨g', mk, t, L, E, ce, e1, e2, hq, hce, hcv, hcl, h1, hL, h2, h3⟩, st⟩
  · dsimp only [Pt.U, Pt.locs, Pt.cells, Pt.slots] at X' e1 e2 h1 h2 h3 st
    subst h1; subst h2; subst h3
    exact Or.inl ⟨v, (T.setVm vm₁).calling g' mk (Value.ref b :: As).toArray, t, U', L, hT, X', hL, e1, e2, hq, st⟩
  · dsimp only [Pt.U, Pt.locs, Pt.cells, Pt.slots] at X' e1 e2 h1 h2 h3 st hcl
    subst h1; subst h2; subst h3
    exact Or.inr ⟨q, (T.setVm vm₁).calling g' mk (Value.ref b :: As).toArray, t, U', L, E, ce, hT, X', hL, e1, e2, hq, hce, hcv, vx_cls hW₁ hcl, st⟩
theorem vx_callFv {S SX : Type} {post : S → Prop} {px : SX → Prop} {B : S → State → Prop} {BX : String → SX → State → Prop} {AX : Nat → Prop} (hr : vx_Run5 p l e R s m args below meth c H locs cells slots mc ms (F0 m pc ls st0) rest (va_Qv post B A1 a) (vx_X px BX AX) free) (hS : va_S A0 H0 H locs) (hA : ∀ q, q < H.size → A1 q → A0 q) (hf : ∀ q, free q → A0 q) (hAX : ∀ q, q < H.size → AX q → A0 q)
    (kx : ∀ (E : String) (ce : Cell) (q9 : Addr) (u : SX) (t : State) (H1 : Heap) (locs1 : List Loc), t.heap = H1 → s.vm.Alike t.vm → px u → BX E u t → H.size ≤ H1.size → (∀ q : Nat, q < H.size → ¬ AX q → H1[q]? = H[q]?) → va_S A0 H0 H1 locs1 → H1[q9]? = some ce → ce.vm = .none → s.vm.findClass E = some ce.cls → vx_W p l e R s m args below meth c H1 locs1 (cells + mc) (slots + ms) Q (F0 m pc ls rest) q9)
    (kk : ∀ (u : S) (t : State) (H1 : Heap) (locs1 : List Loc), t.heap = H1 → s.vm.Alike t.vm → post u → B u t → H.size ≤ H1.size → (∀ q : Nat, q < H.size → ¬ A1 q → H1[q]? = H[q]?) → va_S A0 H0 H1 locs1 → W p l e R s m args below meth c H1 locs1 (cells + mc) (slots + ms) Q (F0 m (pc + 5) ls (rest))) : W p l e R s m args below meth c H locs cells slots Q (F0 m pc ls st0) := by
  intro T hT X
  rcases hr T hT X with ⟨v, st₀, t, T', L, h0, X', hL, e1, e2, ⟨⟨u, hv, hp, hb⟩, hF⟩, st⟩ | ⟨q, st₀, t, T', L, E, ce, h0, X', hL, e1, e2, ⟨u, hp, hb, hF⟩, hce, hcv, hcl, st⟩
  · cases hv
    obtain ⟨k1, k2, k3⟩ := vx_keep h0 e1 hS hA hf hL hF
    obtain ⟨t2, a1, b1⟩ := kk u t T'.heap (locs ++ L) e1.symm (by rw [← e2]; exact X'.warmed.alike) hp hb k1 k2 k3 T' rfl X'
    exact ⟨t2, st t2 a1, b1⟩
  · obtain ⟨k1, k2, k3⟩ := vx_keep h0 e1 hS hAX hf hL hF
    obtain ⟨t2, a1, b1⟩ := kx E ce q u t T'.heap (locs ++ L) e1.symm (by rw [← e2]; exact X'.warmed.alike) hp hb k1 k2 k3 (by rw [e1]; exact hce) hcv hcl T' rfl X'
    exact ⟨t2, st.trans a1, b1⟩
theorem vx_callFi {S SX : Type} {post : Int32 → S → Prop} {px : SX → Prop} {B : S → State → Prop} {BX : String → SX → State → Prop} {AX : Nat → Prop} (hr : vx_Run5 p l e R s m args below meth c H locs cells slots mc ms (F0 m pc ls st0) rest (va_Qi post B A1 a) (vx_X px BX AX) free) (hS : va_S A0 H0 H locs) (hA : ∀ q, q < H.size → A1 q → A0 q) (hf : ∀ q, free q → A0 q) (hAX : ∀ q, q < H.size → AX q → A0 q)
    (kx : ∀ (E : String) (ce : Cell) (q9 : Addr) (u : SX) (t : State) (H1 : Heap) (locs1 : List Loc), t.heap = H1 → s.vm.Alike t.vm → px u → BX E u t → H.size ≤ H1.size → (∀ q : Nat, q < H.size → ¬ AX q → H1[q]? = H[q]?) → va_S A0 H0 H1 locs1 → H1[q9]? = some ce → ce.vm = .none → s.vm.findClass E = some ce.cls → vx_W p l e R s m args below meth c H1 locs1 (cells + mc) (slots + ms) Q (F0 m pc ls rest) q9)
    (kk : ∀ (r : Int32) (u : S) (t : State) (H1 : Heap) (locs1 : List Loc), t.heap = H1 → s.vm.Alike t.vm → post r u → B u t → H.size ≤ H1.size → (∀ q : Nat, q < H.size → ¬ A1 q → H1[q]? = H[q]?) → va_S A0 H0 H1 locs1 → W p l e R s m args below meth c H1 locs1 (cells + mc) (slots + ms) Q (F0 m (pc + 5) ls (.int r :: rest))) : W p l e R s m args below meth c H locs cells slots Q (F0 m pc ls st0) := by
  intro T hT X
  rcases hr T hT X with ⟨v, st₀, t, T', L, h0, X', hL, e1, e2, ⟨⟨r, u, hv, hp, hb⟩, hF⟩, st⟩ | ⟨q, st₀, t, T', L, E, ce, h0, X', hL, e1, e2, ⟨u, hp, hb, hF⟩, hce, hcv, hcl, st⟩
  · cases hv
    obtain ⟨k1, k2, k3⟩ := vx_keep h0 e1 hS hA hf hL hF
    obtain ⟨t2, a1, b1⟩ := kk r u t T'.heap (locs ++ L) e1.symm (by rw [← e2]; exact X'.warmed.alike) hp hb k1 k2 k3 T' rfl X'
    exact ⟨t2, st t2 a1, b1⟩
  · obtain ⟨k1, k2, k3⟩ := vx_keep h0 e1 hS hAX hf hL hF
    obtain ⟨t2, a1, b1⟩ := kx E ce q u t T'.heap (locs ++ L) e1.symm (by rw [← e2]; exact X'.warmed.alike) hp hb k1 k2 k3 (by rw [e1]; exact hce) hcv hcl T' rfl X'
    exact ⟨t2, st.trans a1, b1⟩
theorem vx_callFl {S SX : Type} {post : Int64 → S → Prop} {px : SX → Prop} {B : S → State → Prop} {BX : String → SX → State → Prop} {AX : Nat → Prop} (hr : vx_Run5 p l e R s m args below meth c H locs cells slots mc ms (F0 m pc ls st0) rest (va_Ql post B A1 a) (vx_X px BX AX) free) (hS : va_S A0 H0 H locs) (hA : ∀ q, q < H.size → A1 q → A0 q) (hf : ∀ q, free q → A0 q) (hAX : ∀ q, q < H.size → AX q → A0 q)
    (kx : ∀ (E : String) (ce : Cell) (q9 : Addr) (u : SX) (t : State) (H1 : Heap) (locs1 : List Loc), t.heap = H1 → s.vm.Alike t.vm → px u → BX E u t → H.size ≤ H1.size → (∀ q : Nat, q < H.size → ¬ AX q → H1[q]? = H[q]?) → va_S A0 H0 H1 locs1 → H1[q9]? = some ce → ce.vm = .none → s.vm.findClass E = some ce.cls → vx_W p l e R s m args below meth c H1 locs1 (cells + mc) (slots + ms) Q (F0 m pc ls rest) q9)
    (kk : ∀ (r : Int64) (u : S) (t : State) (H1 : Heap) (locs1 : List Loc), t.heap = H1 → s.vm.Alike t.vm → post r u → B u t → H.size ≤ H1.size → (∀ q : Nat, q < H.size → ¬ A1 q → H1[q]? = H[q]?) → va_S A0 H0 H1 locs1 → W p l e R s m args below meth c H1 locs1 (cells + mc) (slots + ms) Q (F0 m (pc + 5) ls (.long r :: rest))) : W p l e R s m args below meth c H locs cells slots Q (F0 m pc ls st0) := by
  intro T hT X
  rcases hr T hT X with ⟨v, st₀, t, T', L, h0, X', hL, e1, e2, ⟨⟨r, u, hv, hp, hb⟩, hF⟩, st⟩ | ⟨q, st₀, t, T', L, E, ce, h0, X', hL, e1, e2, ⟨u, hp, hb, hF⟩, hce, hcv, hcl, st⟩
  · cases hv
    obtain ⟨k1, k2, k3⟩ := vx_keep h0 e1 hS hA hf hL hF
    obtain ⟨t2, a1, b1⟩ := kk r u t T'.heap (locs ++ L) e1.symm (by rw [← e2]; exact X'.warmed.alike) hp hb k1 k2 k3 T' rfl X'
    exact ⟨t2, st t2 a1, b1⟩
  · obtain ⟨k1, k2, k3⟩ := vx_keep h0 e1 hS hAX hf hL hF
    obtain ⟨t2, a1, b1⟩ := kx E ce q u t T'.heap (locs ++ L) e1.symm (by rw [← e2]; exact X'.warmed.alike) hp hb k1 k2 k3 (by rw [e1]; exact hce) hcv hcl T' rfl X'
    exact ⟨t2, st.trans a1, b1⟩
theorem vx_callFf {S SX : Type} {post : UInt32 → S → Prop} {px : SX → Prop} {B : S → State → Prop} {BX : String → SX → State → Prop} {AX : Nat → Prop} (hr : vx_Run5 p l e R s m args below meth c H locs cells slots mc ms (F0 m pc ls st0) rest (va_Qf post B A1 a) (vx_X px BX AX) free) (hS : va_S A0 H0 H locs) (hA : ∀ q, q < H.size → A1 q → A0 q) (hf : ∀ q, free q → A0 q) (hAX : ∀ q, q < H.size → AX q → A0 q)
    (kx : ∀ (E : String) (ce : Cell) (q9 : Addr) (u : SX) (t : State) (H1 : Heap) (locs1 : List Loc), t.heap = H1 → s.vm.Alike t.vm → px u → BX E u t → H.size ≤ H1.size → (∀ q : Nat, q < H.size → ¬ AX q → H1[q]? = H[q]?) → va_S A0 H0 H1 locs1 → H1[q9]? = some ce → ce.vm = .none → s.vm.findClass E = some ce.cls → vx_W p l e R s m args below meth c H1 locs1 (cells + mc) (slots + ms) Q (F0 m pc ls rest) q9)
    (kk : ∀ (r : UInt32) (u : S) (t : State) (H1 : Heap) (locs1 : List Loc), t.heap = H1 → s.vm.Alike t.vm → post r u → B u t → H.size ≤ H1.size → (∀ q : Nat, q < H.size → ¬ A1 q → H1[q]? = H[q]?) → va_S A0 H0 H1 locs1 → W p l e R s m args below meth c H1 locs1 (cells + mc) (slots + ms) Q (F0 m (pc + 5) ls (.float r :: rest))) : W p l e R s m args below meth c H locs cells slots Q (F0 m pc ls st0) := by
  intro T hT X
  rcases hr T hT X with ⟨v, st₀, t, T', L, h0, X', hL, e1, e2, ⟨⟨r, u, hv, hp, hb⟩, hF⟩, st⟩ | ⟨q, st₀, t, T', L, E, ce, h0, X', hL, e1, e2, ⟨u, hp, hb, hF⟩, hce, hcv, hcl, st⟩
  · cases hv
    obtain ⟨k1, k2, k3⟩ := vx_keep h0 e1 hS hA hf hL hF
    obtain ⟨t2, a1, b1⟩ := kk r u t T'.heap (locs ++ L) e1.symm (by rw [← e2]; exact X'.warmed.alike) hp hb k1 k2 k3 T' rfl X'
    exact ⟨t2, st t2 a1, b1⟩
  · obtain ⟨k1, k2, k3⟩ := vx_keep h0 e1 hS hAX hf hL hF
    obtain ⟨t2, a1, b1⟩ := kx E ce q u t T'.heap (locs ++ L) e1.symm (by rw [← e2]; exact X'.warmed.alike) hp hb k1 k2 k3 (by rw [e1]; exact hce) hcv hcl T' rfl X'
    exact ⟨t2, st.trans a1, b1⟩
theorem vx_callFd {S SX : Type} {post : UInt64 → S → Prop} {px : SX → Prop} {B : S → State → Prop} {BX : String → SX → State → Prop} {AX : Nat → Prop} (hr : vx_Run5 p l e R s m args below meth c H locs cells slots mc ms (F0 m pc ls st0) rest (va_Qd post B A1 a) (vx_X px BX AX) free) (hS : va_S A0 H0 H locs) (hA : ∀ q, q < H.size → A1 q → A0 q) (hf : ∀ q, free q → A0 q) (hAX : ∀ q, q < H.size → AX q → A0 q)
    (kx : ∀ (E : String) (ce : Cell) (q9 : Addr) (u : SX) (t : State) (H1 : Heap) (locs1 : List Loc), t.heap = H1 → s.vm.Alike t.vm → px u → BX E u t → H.size ≤ H1.size → (∀ q : Nat, q < H.size → ¬ AX q → H1[q]? = H[q]?) → va_S A0 H0 H1 locs1 → H1[q9]? = some ce → ce.vm = .none → s.vm.findClass E = some ce.cls → vx_W p l e R s m args below meth c H1 locs1 (cells + mc) (slots + ms) Q (F0 m pc ls rest) q9)
    (kk : ∀ (r : UInt64) (u : S) (t : State) (H1 : Heap) (locs1 : List Loc), t.heap = H1 → s.vm.Alike t.vm → post r u → B u t → H.size ≤ H1.size → (∀ q : Nat, q < H.size → ¬ A1 q → H1[q]? = H[q]?) → va_S A0 H0 H1 locs1 → W p l e R s m args below meth c H1 locs1 (cells + mc) (slots + ms) Q (F0 m (pc + 5) ls (.double r :: rest))) : W p l e R s m args below meth c H locs cells slots Q (F0 m pc ls st0) := by
  intro T hT X
  rcases hr T hT X with ⟨v, st₀, t, T', L, h0, X', hL, e1, e2, ⟨⟨r, u, hv, hp, hb⟩, hF⟩, st⟩ | ⟨q, st₀, t, T', L, E, ce, h0, X', hL, e1, e2, ⟨u, hp, hb, hF⟩, hce, hcv, hcl, st⟩
  · cases hv
    obtain ⟨k1, k2, k3⟩ := vx_keep h0 e1 hS hA hf hL hF
    obtain ⟨t2, a1, b1⟩ := kk r u t T'.heap (locs ++ L) e1.symm (by rw [← e2]; exact X'.warmed.alike) hp hb k1 k2 k3 T' rfl X'
    exact ⟨t2, st t2 a1, b1⟩
  · obtain ⟨k1, k2, k3⟩ := vx_keep h0 e1 hS hAX hf hL hF
    obtain ⟨t2, a1, b1⟩ := kx E ce q u t T'.heap (locs ++ L) e1.symm (by rw [← e2]; exact X'.warmed.alike) hp hb k1 k2 k3 (by rw [e1]; exact hce) hcv hcl T' rfl X'
    exact ⟨t2, st.trans a1, b1⟩
end
/-! ===== END ===== -/
/-! ===== BEGIN by an interface, a method with a table of its own that may throw (follows va_callIFW, va_runFW) ===== -/
section
variable {p : Program} {l : Launch} {e : Env} {R : Room} {s : State} {m : MethodId} {args : Array Value} {below : List Frame} {meth : Method} {c : Code} {H : Heap} {locs : List Loc} {cells slots : Nat}
theorem vx_callIFW {T : State} (X : Stand p l e R s m args below meth c T locs cells slots) (hexec : p.tables.exec = Jvm.exec) {own C : String} {index count : Nat} {x y : MethodName} {bytes : ByteArray} {maxL : Nat} {ret : Option FieldType} {hh : List (Nat × Nat × Nat × Nat)}
    (hown : s.vm.findClass own = some m.cls) (hlink : (Cond.methodLink own index x).before args s = true) (hdecl : (Cond.declares x).before args s = true) (hface : (Cond.interfaceMethod x.cls x.cls x.name x.desc).before args s = true)
    (hsel : (Cond.selects C x y).before args s = true) (hinst : (Cond.instanceMethod y).before args s = true) (hpub : (Cond.publicMethod y).before args s = true) (hunh : (Cond.unhidden C x.name x.desc).before args s = true)
    (hcast : (Cond.castable C x.cls).before args s = true) (hcode : (Cond.codeWith y bytes maxL ret hh).before args s = true) (hx : x.cls ≠ "java/lang/invoke/MethodHandle" ∧ x.cls ≠ "java/lang/invoke/VarHandle")
    {W : Nat} {Pre : Pt → Array Value → Prop} {Post : Pt → Array Value → Option Value → Pt → Prop} {PostX : Pt → Array Value → Addr → Pt → Prop} (hK : vx_Back l R p e below s args y 5 W Pre Post PostX)
    {b : Addr} {cellB : Cell} {kB : Class} (hcell : T.heap[b]? = some cellB) (hobj : cellB.vm.isStatics = false) (hcls : s.vm.findClass C = some cellB.cls) (hkB : s.vm.classes[cellB.cls]? = some kB)
    {g : JFrame} (hg : g.method = m) (hsize : g.locals.size = c.maxLocals) {argsL rest : List Value} (hlen : ∀ sig, parseMethodDescriptor x.desc = some sig → argsL.length = sig.parameters.length)
    (hstack : g.stack = argsL.reverse ++ .ref b :: rest) (hW : 2 * g.monitorRoom + (rest.map fun v => v.category).sum ≤ W) (hdg : decode c.code g.pc = .ok (.invokeinterface index count, 5))
    (hpre : ∀ vm₁, s.WarmedH vm₁ → Pre ⟨T.setVm vm₁, locs, cells, slots⟩ (Value.ref b :: argsL).toArray) :
    (∃ (v : Option Value) (vm₁ : Vm) (B : Pt), s.WarmedH vm₁ ∧ Stand p l e R s m args below meth c B.U B.locs B.cells B.slots ∧ Post ⟨T.setVm vm₁, locs, cells, slots⟩ (Value.ref b :: argsL).toArray v B ∧
      ∀ target, Steps p.tables e below (B.U.setTop { g with pc := g.pc + 5, stack := v.toList ++ rest }) target → Steps p.tables e below (T.setTop g) target) ∨
    (∃ (q : Addr) (vm₁ : Vm) (B : Pt), s.WarmedH vm₁ ∧ Stand p l e R s m args below meth c B.U B.locs B.cells B.slots ∧ PostX ⟨T.setVm vm₁, locs, cells, slots⟩ (Value.ref b :: argsL).toArray q B ∧
      Steps p.tables e below (T.setTop g) ((B.U.setTop { g with stack := rest }).pushFrame (.throwing q))) := by
  obtain ⟨r0, r, hn, hrm, hstR, hsigR⟩ := Cond.declares_spec hdecl
  obtain ⟨cL, kL, r1, hcL, hkL, hiL, hfoundL, hn1⟩ := Cond.interfaceMethod_spec hface
  cases hn.symm.trans hn1
  have hr0cls : r0.cls = cL := Option.some.inj ((findClass_of_methodNamed hn).symm.trans hcL)
  obtain ⟨hnameR, hdescR⟩ := name_of_methodNamed hn hrm
  obtain ⟨mk, methM, hnamed, hmethM, -, habM⟩ := Cond.instanceMethod_spec hinst
  obtain ⟨c2, r2, m2, q1, q2, q3, q4, -⟩ := Cond.selects_spec hsel
  cases hcls.symm.trans q1
  cases hfoundL.symm.trans q2
  cases hnamed.symm.trans q3
  have hselP : selectMethod e.platform s.vm cellB.cls r0 = .method mk := by rw [Launch.admits_selectMethod X.admits]; exact q4
  have hpubM : hasFlag methM.accessFlags Acc.public_ = true := Cond.publicMethod_spec hnamed hmethM hpub
  have hway : ((cellB.cls :: s.vm.superclasses cellB.cls).any fun k => (declaredIn s.vm r.name r.desc k).any fun (_, z) => z.isPrivate || z.isStatic) = false := by
    rw [hnameR, hdescR]; exact Cond.unhidden_spec hcls hunh
  obtain ⟨c3, t3, w1, w2, w3⟩ := Cond.castable_spec hcast
  cases hcls.symm.trans w1
  cases hcL.symm.trans w2
  obtain ⟨vm₁, X₁, hstep₁⟩ := X.invokeinterface hexec hown hlink hn hrm hstR (by rw [hr0cls]; exact hkL) hiL hx (a := b) (cell := cellB) (kcell := kB) hcell
    (fun z h => by rw [h] at hobj; cases hobj) hkB (by rw [hr0cls]; exact w3) hselP hmethM hway hpubM habM (g := g) hg (argsL := argsL) (rest := rest) (hlen _ hsigR) hstack hdg
  rcases hK m meth c ⟨T.setVm vm₁, locs, cells, slots⟩ { g with stack := rest } (.invokeinterface index count) mk (Value.ref b :: argsL).toArray X₁ hg hsize hdg hW (X₁.named hnamed) (hpre vm₁ X₁.warmed) with ⟨v, B, X', hpost, hsteps⟩ | ⟨q, B, X', hpost, hsteps⟩
  · exact Or.inl ⟨v, vm₁, B, X₁.warmed, X', hpost, fun target h => hstep₁ _ fun acts => by rw [doInvoke_state]; exact hsteps.trans h⟩
  · exact Or.inr ⟨q, vm₁, B, X₁.warmed, X', hpost, hstep₁ _ fun acts => by rw [doInvoke_state]; exact hsteps⟩
theorem vx_runFW {x y : MethodName} {bytes cc : ByteArray} {maxL nL mc ms n index count : Nat} {ret : Option FieldType} {hh : List (Nat × Nat × Nat × Nat)} {ws : List Cond} {rm : Room} {Pc : Array Value → State → Prop} {Qc : Array Value → State → Outcome → State → Prop} {XC : String → State → State → Prop} {free : Addr → Prop} {Ts : List Cond} {own C : String} {cC : ClassId} {b : Addr} {As rest : List Value} {g : JFrame}
    (hat : ClassAt s C cC) (S : CallFix p m c cc nL s args Ts own) (hM : vx_Met l y ws rm Pc Qc XC mc ms free) (cw : va_CIW R s args own C index x y bytes maxL ret hh ws rm mc ms n) (hp : PreV s H C b Pc As)
    (hg : g.method = m) (hn : As.length = n) (hsize : g.locals.size = nL) (hstack : g.stack = As.reverse ++ .ref b :: rest) (hW : 2 * g.monitorRoom + (rest.map fun v => v.category).sum ≤ 8) (hdg : decode cc g.pc = .ok (.invokeinterface index count, 5)) (hf : cells + mc ≤ R.cells ∧ slots + ms ≤ R.slots) :
    vx_Run5 p l e R s m args below meth c H locs cells slots mc ms g rest (Qc (Value.ref b :: As).toArray) XC free := by
  obtain ⟨hrc, hrs, hfr, hlo, hws, hcw⟩ := cw.back
  have hini := cw.init
  have hK : vx_Back l R p e below s args y 5 8 (PreOf R mc ms Pc) (PostOf Qc mc ms free) (vx_Post XC mc ms free) := vx_backW (hh := hh) (bytes := bytes) (maxL := maxL) (ret := ret) hM hp.1 hrc hrs hfr hlo hws hcw (fun a' U hW => word_at hW (Or.inl (by first | rfl | simp [Cond.onTables, Cond.keeps, Cond.steady])) hini)
  obtain ⟨hx, hb, hml, ho, -⟩ := S
  obtain ⟨-, ⟨cellB, hcB, hoB, hclB⟩, hPc⟩ := hp
  obtain ⟨hfc, kB, hkB, -⟩ := hat
  cases hfc.symm.trans hclB
  intro T hT X
  rcases vx_callIFW X hx (C := C) (hh := hh) (bytes := bytes) (maxL := maxL) (ret := ret) ho cw.link cw.decl cw.face cw.sel cw.inst cw.pub cw.unh cw.cast cw.code cw.notMH hK (by rw [hT]; exact hcB) hoB hclB hkB hg (hsize.trans hml.symm) (argsL := As) (rest := rest) (fun sig h => hn.trans (cw.len sig h)) hstack hW (by rw [hb]; exact hdg)
    (fun vm₁ hW₁ => ⟨hf.1, hf.2, hPc (T.setVm vm₁) hT hW₁⟩) with ⟨v, vm₁, ⟨U', l2, c2, s2⟩, hW₁, X', ⟨g', mk, t, L, e1, e2, hq, h1, hL, h2, h3⟩, st⟩ | ⟨q, vm₁, ⟨U', l2, c2, s2⟩, hW₁, X', ⟨g', mk, t, L, E, ce, e1, e2, hq, hce, hcv, hcl, h1, hL, h2, h3⟩, st⟩
  · dsimp only [Pt.U, Pt.locs, Pt.cells, Pt.slots] at X' e1 e2 h1 h2 h3 st
    subst h1; subst h2; subst h3
    exact Or.inl ⟨v, (T.setVm vm₁).calling g' mk (Value.ref b :: As).toArray, t, U', L, hT, X', hL, e1, e2, hq, st⟩
  · dsimp only [Pt.U, Pt.locs, Pt.cells, Pt.slots] at X' e1 e2 h1 h2 h3 st hcl
    subst h1; subst h2; subst h3
    exact Or.inr ⟨q, (T.setVm vm₁).calling g' mk (Value.ref b :: As).toArray, t, U', L, E, ce, hT, X', hL, e1, e2, hq, hce, hcv, vx_cls hW₁ hcl, st⟩
end
/-! ===== END ===== -/
/-! ===== BEGIN .. of methods that hand back an object of the pool ===== -/
section
variable {p : Program} {l : Launch} {e : Env} {R : Room} {s : State} {m : MethodId} {args : Array Value} {below : List Frame} {meth : Method} {c : Code} {H : Heap} {locs : List Loc} {cells slots : Nat} {Q : State → Prop}
variable {mc ms : Nat} {free : Addr → Prop} {A0 A1 : Nat → Prop} {H0 : Heap} {a : Array Value} {pc : Nat} {ls : Array Slot} {st0 rest : List Value}
theorem vx_callq {S SX : Type} {post : Option Nat → S → Prop} {px : SX → Prop} {B : S → State → Prop} {BX : String → SX → State → Prop} {AX : Nat → Prop} (hr : vx_Run p l e R s m args below meth c H locs cells slots mc ms (F0 m pc ls st0) rest (va_Qq post B A1 a) (vx_X px BX AX) free) (hS : va_S A0 H0 H locs) (hA : ∀ q, q < H.size → A1 q → A0 q) (hf : ∀ q, free q → A0 q) (hAX : ∀ q, q < H.size → AX q → A0 q)
    (kx : ∀ (E : String) (ce : Cell) (q9 : Addr) (u : SX) (t : State) (H1 : Heap) (locs1 : List Loc), t.heap = H1 → s.vm.Alike t.vm → px u → BX E u t → H.size ≤ H1.size → (∀ q : Nat, q < H.size → ¬ AX q → H1[q]? = H[q]?) → va_S A0 H0 H1 locs1 → H1[q9]? = some ce → ce.vm = .none → s.vm.findClass E = some ce.cls → vx_W p l e R s m args below meth c H1 locs1 (cells + mc) (slots + ms) Q (F0 m pc ls rest) q9)
    (kk : ∀ (r : Option Nat) (u : S) (t : State) (H1 : Heap) (locs1 : List Loc), t.heap = H1 → s.vm.Alike t.vm → post r u → B u t → H.size ≤ H1.size → (∀ q : Nat, q < H.size → ¬ A1 q → H1[q]? = H[q]?) → va_S A0 H0 H1 locs1 → W p l e R s m args below meth c H1 locs1 (cells + mc) (slots + ms) Q (F0 m (pc + 3) ls (va_rf r :: rest))) : W p l e R s m args below meth c H locs cells slots Q (F0 m pc ls st0) := by
  intro T hT X
  rcases hr T hT X with ⟨v, st₀, t, T', L, h0, X', hL, e1, e2, ⟨⟨r, u, hv, hp, hb⟩, hF⟩, st⟩ | ⟨q, st₀, t, T', L, E, ce, h0, X', hL, e1, e2, ⟨u, hp, hb, hF⟩, hce, hcv, hcl, st⟩
  · cases hv
    obtain ⟨k1, k2, k3⟩ := vx_keep h0 e1 hS hA hf hL hF
    obtain ⟨t2, a1, b1⟩ := kk r u t T'.heap (locs ++ L) e1.symm (by rw [← e2]; exact X'.warmed.alike) hp hb k1 k2 k3 T' rfl X'
    exact ⟨t2, st t2 a1, b1⟩
  · obtain ⟨k1, k2, k3⟩ := vx_keep h0 e1 hS hAX hf hL hF
    obtain ⟨t2, a1, b1⟩ := kx E ce q u t T'.heap (locs ++ L) e1.symm (by rw [← e2]; exact X'.warmed.alike) hp hb k1 k2 k3 (by rw [e1]; exact hce) hcv hcl T' rfl X'
    exact ⟨t2, st.trans a1, b1⟩
end
/-! ===== END ===== -/
/-! ===== BEGIN .. a constant ===== -/
section
variable {p : Program} {l : Launch} {e : Env} {R : Room} {s : State} {m : MethodId} {args : Array Value} {below : List Frame} {meth : Method} {c : Code} {H : Heap} {locs : List Loc} {cells slots : Nat} {Q : State → Prop}
variable {mc ms : Nat} {free : Addr → Prop} {A0 A1 : Nat → Prop} {H0 : Heap} {a : Array Value} {pc : Nat} {ls : Array Slot} {st0 rest : List Value}
theorem vx_calle {ad : Nat → Nat} {S SX : Type} {post : Option Nat → S → Prop} {px : SX → Prop} {B : S → State → Prop} {BX : String → SX → State → Prop} {AX : Nat → Prop} (hr : vx_Run p l e R s m args below meth c H locs cells slots mc ms (F0 m pc ls st0) rest (va_Qe ad post B A1 a) (vx_X px BX AX) free) (hS : va_S A0 H0 H locs) (hA : ∀ q, q < H.size → A1 q → A0 q) (hf : ∀ q, free q → A0 q) (hAX : ∀ q, q < H.size → AX q → A0 q)
    (kx : ∀ (E : String) (ce : Cell) (q9 : Addr) (u : SX) (t : State) (H1 : Heap) (locs1 : List Loc), t.heap = H1 → s.vm.Alike t.vm → px u → BX E u t → H.size ≤ H1.size → (∀ q : Nat, q < H.size → ¬ AX q → H1[q]? = H[q]?) → va_S A0 H0 H1 locs1 → H1[q9]? = some ce → ce.vm = .none → s.vm.findClass E = some ce.cls → vx_W p l e R s m args below meth c H1 locs1 (cells + mc) (slots + ms) Q (F0 m pc ls rest) q9)
    (kk : ∀ (r : Option Nat) (u : S) (t : State) (H1 : Heap) (locs1 : List Loc), t.heap = H1 → s.vm.Alike t.vm → post r u → B u t → H.size ≤ H1.size → (∀ q : Nat, q < H.size → ¬ A1 q → H1[q]? = H[q]?) → va_S A0 H0 H1 locs1 → W p l e R s m args below meth c H1 locs1 (cells + mc) (slots + ms) Q (F0 m (pc + 3) ls (va_re ad r :: rest))) : W p l e R s m args below meth c H locs cells slots Q (F0 m pc ls st0) := by
  intro T hT X
  rcases hr T hT X with ⟨v, st₀, t, T', L, h0, X', hL, e1, e2, ⟨⟨r, u, hv, hp, hb⟩, hF⟩, st⟩ | ⟨q, st₀, t, T', L, E, ce, h0, X', hL, e1, e2, ⟨u, hp, hb, hF⟩, hce, hcv, hcl, st⟩
  · cases hv
    obtain ⟨k1, k2, k3⟩ := vx_keep h0 e1 hS hA hf hL hF
    obtain ⟨t2, a1, b1⟩ := kk r u t T'.heap (locs ++ L) e1.symm (by rw [← e2]; exact X'.warmed.alike) hp hb k1 k2 k3 T' rfl X'
    exact ⟨t2, st t2 a1, b1⟩
  · obtain ⟨k1, k2, k3⟩ := vx_keep h0 e1 hS hAX hf hL hF
    obtain ⟨t2, a1, b1⟩ := kx E ce q u t T'.heap (locs ++ L) e1.symm (by rw [← e2]; exact X'.warmed.alike) hp hb k1 k2 k3 (by rw [e1]; exact hce) hcv hcl T' rfl X'
    exact ⟨t2, st.trans a1, b1⟩
end
/-! ===== END ===== -/
/-! ===== BEGIN .. by an interface, an object ===== -/
section
variable {p : Program} {l : Launch} {e : Env} {R : Room} {s : State} {m : MethodId} {args : Array Value} {below : List Frame} {meth : Method} {c : Code} {H : Heap} {locs : List Loc} {cells slots : Nat} {Q : State → Prop}
variable {mc ms : Nat} {free : Addr → Prop} {A0 A1 : Nat → Prop} {H0 : Heap} {a : Array Value} {pc : Nat} {ls : Array Slot} {st0 rest : List Value}
theorem vx_callFq {S SX : Type} {post : Option Nat → S → Prop} {px : SX → Prop} {B : S → State → Prop} {BX : String → SX → State → Prop} {AX : Nat → Prop} (hr : vx_Run5 p l e R s m args below meth c H locs cells slots mc ms (F0 m pc ls st0) rest (va_Qq post B A1 a) (vx_X px BX AX) free) (hS : va_S A0 H0 H locs) (hA : ∀ q, q < H.size → A1 q → A0 q) (hf : ∀ q, free q → A0 q) (hAX : ∀ q, q < H.size → AX q → A0 q)
    (kx : ∀ (E : String) (ce : Cell) (q9 : Addr) (u : SX) (t : State) (H1 : Heap) (locs1 : List Loc), t.heap = H1 → s.vm.Alike t.vm → px u → BX E u t → H.size ≤ H1.size → (∀ q : Nat, q < H.size → ¬ AX q → H1[q]? = H[q]?) → va_S A0 H0 H1 locs1 → H1[q9]? = some ce → ce.vm = .none → s.vm.findClass E = some ce.cls → vx_W p l e R s m args below meth c H1 locs1 (cells + mc) (slots + ms) Q (F0 m pc ls rest) q9)
    (kk : ∀ (r : Option Nat) (u : S) (t : State) (H1 : Heap) (locs1 : List Loc), t.heap = H1 → s.vm.Alike t.vm → post r u → B u t → H.size ≤ H1.size → (∀ q : Nat, q < H.size → ¬ A1 q → H1[q]? = H[q]?) → va_S A0 H0 H1 locs1 → W p l e R s m args below meth c H1 locs1 (cells + mc) (slots + ms) Q (F0 m (pc + 5) ls (va_rf r :: rest))) : W p l e R s m args below meth c H locs cells slots Q (F0 m pc ls st0) := by
  intro T hT X
  rcases hr T hT X with ⟨v, st₀, t, T', L, h0, X', hL, e1, e2, ⟨⟨r, u, hv, hp, hb⟩, hF⟩, st⟩ | ⟨q, st₀, t, T', L, E, ce, h0, X', hL, e1, e2, ⟨u, hp, hb, hF⟩, hce, hcv, hcl, st⟩
  · cases hv
    obtain ⟨k1, k2, k3⟩ := vx_keep h0 e1 hS hA hf hL hF
    obtain ⟨t2, a1, b1⟩ := kk r u t T'.heap (locs ++ L) e1.symm (by rw [← e2]; exact X'.warmed.alike) hp hb k1 k2 k3 T' rfl X'
    exact ⟨t2, st t2 a1, b1⟩
  · obtain ⟨k1, k2, k3⟩ := vx_keep h0 e1 hS hAX hf hL hF
    obtain ⟨t2, a1, b1⟩ := kx E ce q u t T'.heap (locs ++ L) e1.symm (by rw [← e2]; exact X'.warmed.alike) hp hb k1 k2 k3 (by rw [e1]; exact hce) hcv hcl T' rfl X'
    exact ⟨t2, st.trans a1, b1⟩
end
/-! ===== END ===== -/
/-! ===== BEGIN .. by an interface, a constant ===== -/
section
variable {p : Program} {l : Launch} {e : Env} {R : Room} {s : State} {m : MethodId} {args : Array Value} {below : List Frame} {meth : Method} {c : Code} {H : Heap} {locs : List Loc} {cells slots : Nat} {Q : State → Prop}
variable {mc ms : Nat} {free : Addr → Prop} {A0 A1 : Nat → Prop} {H0 : Heap} {a : Array Value} {pc : Nat} {ls : Array Slot} {st0 rest : List Value}
theorem vx_callFe {ad : Nat → Nat} {S SX : Type} {post : Option Nat → S → Prop} {px : SX → Prop} {B : S → State → Prop} {BX : String → SX → State → Prop} {AX : Nat → Prop} (hr : vx_Run5 p l e R s m args below meth c H locs cells slots mc ms (F0 m pc ls st0) rest (va_Qe ad post B A1 a) (vx_X px BX AX) free) (hS : va_S A0 H0 H locs) (hA : ∀ q, q < H.size → A1 q → A0 q) (hf : ∀ q, free q → A0 q) (hAX : ∀ q, q < H.size → AX q → A0 q)
    (kx : ∀ (E : String) (ce : Cell) (q9 : Addr) (u : SX) (t : State) (H1 : Heap) (locs1 : List Loc), t.heap = H1 → s.vm.Alike t.vm → px u → BX E u t → H.size ≤ H1.size → (∀ q : Nat, q < H.size → ¬ AX q → H1[q]? = H[q]?) → va_S A0 H0 H1 locs1 → H1[q9]? = some ce → ce.vm = .none → s.vm.findClass E = some ce.cls → vx_W p l e R s m args below meth c H1 locs1 (cells + mc) (slots + ms) Q (F0 m pc ls rest) q9)
    (kk : ∀ (r : Option Nat) (u : S) (t : State) (H1 : Heap) (locs1 : List Loc), t.heap = H1 → s.vm.Alike t.vm → post r u → B u t → H.size ≤ H1.size → (∀ q : Nat, q < H.size → ¬ A1 q → H1[q]? = H[q]?) → va_S A0 H0 H1 locs1 → W p l e R s m args below meth c H1 locs1 (cells + mc) (slots + ms) Q (F0 m (pc + 5) ls (va_re ad r :: rest))) : W p l e R s m args below meth c H locs cells slots Q (F0 m pc ls st0) := by
  intro T hT X
  rcases hr T hT X with ⟨v, st₀, t, T', L, h0, X', hL, e1, e2, ⟨⟨r, u, hv, hp, hb⟩, hF⟩, st⟩ | ⟨q, st₀, t, T', L, E, ce, h0, X', hL, e1, e2, ⟨u, hp, hb, hF⟩, hce, hcv, hcl, st⟩
  · cases hv
    obtain ⟨k1, k2, k3⟩ := vx_keep h0 e1 hS hA hf hL hF
    obtain ⟨t2, a1, b1⟩ := kk r u t T'.heap (locs ++ L) e1.symm (by rw [← e2]; exact X'.warmed.alike) hp hb k1 k2 k3 T' rfl X'
    exact ⟨t2, st t2 a1, b1⟩
  · obtain ⟨k1, k2, k3⟩ := vx_keep h0 e1 hS hAX hf hL hF
    obtain ⟨t2, a1, b1⟩ := kx E ce q u t T'.heap (locs ++ L) e1.symm (by rw [← e2]; exact X'.warmed.alike) hp hb k1 k2 k3 (by rw [e1]; exact hce) hcv hcl T' rfl X'
    exact ⟨t2, st.trans a1, b1⟩
end
/-! ===== END ===== -/
/-! ===== BEGIN what the machine throws by itself: null at a field, at athrow ===== -/
section VXM2
variable {p : Program} {l : Launch} {e : Env} {R : Room} {s : State} {m : MethodId} {args : Array Value} {below : List Frame} {meth : Method} {c : Code} {H : Heap} {locs : List Loc} {cells slots : Nat}
variable {Q : State → Prop} {cc : ByteArray} {pc : Nat} {ls : Array Slot} {rest : List Value}
theorem vx_getfN {D cl tys} {own ref C : String} {T : u_T} {N ci index : Nat} {Ts : List Cond} (hexec : p.tables.exec = Jvm.exec) (hb : c.code = cc) (hts : ∀ w ∈ Ts, w.before args s = true) (hin : ∀ w ∈ u_ws C T N, w ∈ Ts) (hown : s.vm.findClass own = some m.cls) (hK : va_K D cl tys s) (hc : cl[ci]? = some (C, T, N)) (k : Nat) (hk : k < N) (hlink : (Cond.fieldLink own index ref (T k).2.1 (T k).2.2.1).before args s = true) (hsame : ∀ x, s.fieldFound? (T k).1 (T k).2.1 (T k).2.2.1 = some x → s.fieldFound? ref (T k).2.1 (T k).2.2.1 = some x) (hdg : decode cc pc = .ok (.getfield index, 3)) (kk : vx_NoteN p l e R s m args below meth c H locs cells slots Q (F0 m pc ls rest)) : W p l e R s m args below meth c H locs cells slots Q (F0 m pc ls (.null :: rest)) := by
  obtain ⟨hS, hfc, kC, hkC, -⟩ := hK.1 ci _ hc
  obtain ⟨cf, kf, fi, f, hi, -⟩ := hS k hk
  intro U hU X
  obtain ⟨vm', X1, st1⟩ := X.getfieldNull hexec hown hlink (hsame _ hi) (u_facts hfc hkC (u_lays hts hin hk) hi).1 (g := F0 m pc ls (.null :: rest)) rfl (rest := rest) rfl (by rw [hb]; exact hdg)
  obtain ⟨t, st, q⟩ := kk (U.setVm vm') hU X1
  exact ⟨t, st1 t st, q⟩
theorem vx_getfNN {D cl tys} {own ref C host : String} {T : u_T} {N ci index : Nat} {Ts : List Cond} (hexec : p.tables.exec = Jvm.exec) (hb : c.code = cc) (hts : ∀ w ∈ Ts, w.before args s = true) (hin : ∀ w ∈ u_ws C T N, w ∈ Ts) (hown : s.vm.findClass own = some m.cls) (hK : va_K D cl tys s) (hc : cl[ci]? = some (C, T, N)) (k : Nat) (hk : k < N) (hlink : (Cond.fieldLinkNest own index ref (T k).2.1 (T k).2.2.1 host).before args s = true) (hsame : ∀ x, s.fieldFound? (T k).1 (T k).2.1 (T k).2.2.1 = some x → s.fieldFound? ref (T k).2.1 (T k).2.2.1 = some x) (hdg : decode cc pc = .ok (.getfield index, 3)) (kk : vx_NoteN p l e R s m args below meth c H locs cells slots Q (F0 m pc ls rest)) : W p l e R s m args below meth c H locs cells slots Q (F0 m pc ls (.null :: rest)) := by
  obtain ⟨hS, hfc, kC, hkC, -⟩ := hK.1 ci _ hc
  obtain ⟨cf, kf, fi, f, hi, -⟩ := hS k hk
  intro U hU X
  obtain ⟨vm', X1, st1⟩ := X.getfieldNullNest hexec hown hlink (hsame _ hi) (u_facts hfc hkC (u_lays hts hin hk) hi).1 (g := F0 m pc ls (.null :: rest)) rfl (rest := rest) rfl (by rw [hb]; exact hdg)
  obtain ⟨t, st, q⟩ := kk (U.setVm vm') hU X1
  exact ⟨t, st1 t st, q⟩
theorem vx_putfN {D cl tys} {own ref C : String} {T : u_T} {N ci index : Nat} {Ts : List Cond} (hexec : p.tables.exec = Jvm.exec) (hb : c.code = cc) (hts : ∀ w ∈ Ts, w.before args s = true) (hin : ∀ w ∈ u_ws C T N, w ∈ Ts) (hown : s.vm.findClass own = some m.cls) (hK : va_K D cl tys s) (hc : cl[ci]? = some (C, T, N)) (k : Nat) (hk : k < N) (hlink : (Cond.fieldLink own index ref (T k).2.1 (T k).2.2.1).before args s = true) (hsame : ∀ x, s.fieldFound? (T k).1 (T k).2.1 (T k).2.2.1 = some x → s.fieldFound? ref (T k).2.1 (T k).2.2.1 = some x) (hfin : (T k).2.2.2 = false) {v : Value} (hdg : decode cc pc = .ok (.putfield index, 3)) (kk : vx_NoteN p l e R s m args below meth c H locs cells slots Q (F0 m pc ls rest)) : W p l e R s m args below meth c H locs cells slots Q (F0 m pc ls (v :: .null :: rest)) := by
  obtain ⟨hS, hfc, kC, hkC, -⟩ := hK.1 ci _ hc
  obtain ⟨cf, kf, fi, f, hi, -⟩ := hS k hk
  have hlay := hts _ (hin _ (u_in_lay hk))
  unfold u_lay at hlay
  rw [if_neg (by rw [hfin]; decide)] at hlay
  obtain ⟨c9, k9, cf9, kf9, fi9, f9, -, -, hi9, hst9, hnf9, -⟩ := Cond.lays_spec hlay
  cases hi.symm.trans hi9
  intro U hU X
  obtain ⟨vm', X1, st1⟩ := X.putfieldNull hexec hown hlink (hsame _ hi) hst9 hnf9 (g := F0 m pc ls (v :: .null :: rest)) rfl (v := v) (rest := rest) rfl (by rw [hb]; exact hdg)
  obtain ⟨t, st, q⟩ := kk (U.setVm vm') hU X1
  exact ⟨t, st1 t st, q⟩
theorem vx_putfNN {D cl tys} {own ref C host : String} {T : u_T} {N ci index : Nat} {Ts : List Cond} (hexec : p.tables.exec = Jvm.exec) (hb : c.code = cc) (hts : ∀ w ∈ Ts, w.before args s = true) (hin : ∀ w ∈ u_ws C T N, w ∈ Ts) (hown : s.vm.findClass own = some m.cls) (hK : va_K D cl tys s) (hc : cl[ci]? = some (C, T, N)) (k : Nat) (hk : k < N) (hlink : (Cond.fieldLinkNest own index ref (T k).2.1 (T k).2.2.1 host).before args s = true) (hsame : ∀ x, s.fieldFound? (T k).1 (T k).2.1 (T k).2.2.1 = some x → s.fieldFound? ref (T k).2.1 (T k).2.2.1 = some x) (hfin : (T k).2.2.2 = false) {v : Value} (hdg : decode cc pc = .ok (.putfield index, 3)) (kk : vx_NoteN p l e R s m args below meth c H locs cells slots Q (F0 m pc ls rest)) : W p l e R s m args below meth c H locs cells slots Q (F0 m pc ls (v :: .null :: rest)) := by
  obtain ⟨hS, hfc, kC, hkC, -⟩ := hK.1 ci _ hc
  obtain ⟨cf, kf, fi, f, hi, -⟩ := hS k hk
  have hlay := hts _ (hin _ (u_in_lay hk))
  unfold u_lay at hlay
  rw [if_neg (by rw [hfin]; decide)] at hlay
  obtain ⟨c9, k9, cf9, kf9, fi9, f9, -, -, hi9, hst9, hnf9, -⟩ := Cond.lays_spec hlay
  cases hi.symm.trans hi9
  intro U hU X
  obtain ⟨vm', X1, st1⟩ := X.putfieldNullNest hexec hown hlink (hsame _ hi) hst9 hnf9 (g := F0 m pc ls (v :: .null :: rest)) rfl (v := v) (rest := rest) rfl (by rw [hb]; exact hdg)
  obtain ⟨t, st, q⟩ := kk (U.setVm vm') hU X1
  exact ⟨t, st1 t st, q⟩
theorem vx_athrowN (hexec : p.tables.exec = Jvm.exec) (hb : c.code = cc) (hdg : decode cc pc = .ok (.athrow, 1)) (k : vx_NoteN p l e R s m args below meth c H locs cells slots Q (F0 m pc ls rest)) : W p l e R s m args below meth c H locs cells slots Q (F0 m pc ls (.null :: rest)) := by
  intro T hT X
  obtain ⟨t, st, q⟩ := k T hT X
  exact ⟨t, X.athrowNull hexec (g := F0 m pc ls (.null :: rest)) rfl (rest := rest) rfl (by rw [hb]; exact hdg) t st, q⟩
end VXM2
/-! ===== END ===== -/
end
section
/-! names, by program (wip/whole/gen_names.py) -/
def TB : List Cond := lw_tbl.filter goodWord
def tbl (k : Nat) : List Cond := match k with | 1 => k2_sels lw_privs_1 | 2 => k2_sels lw_privs_2 | 3 => k2_sels lw_privs_3 | 4 => k2_sels lw_privs_4 | 5 => k2_sels lw_privs_5 | 6 => k2_sels lw_privs_6 | 7 => k2_sels lw_privs_7 | 8 => k2_sels lw_privs_8 | 9 => k2_sels lw_privs_9 | 11 => tables_1_1 | 12 => tables_1_2 | 13 => tables_1_3 | 14 => tables_1_4 | 15 => tables_1_5 | 16 => tables_1_6 | 17 => tables_1_7 | 18 => tables_1_8 | 19 => tables_1_9 | 20 => tables_1_10 | _ => []
theorem tbl_in {k : Nat} {w : Cond} (h : w ∈ tbl k) : w ∈ lw_tbl := by
  unfold tbl at h
  unfold lw_tbl tables_1 lw_privs k2_sels
  split at h <;> (first | exact absurd h List.not_mem_nil | (unfold k2_sels at h; simp only [List.map_append, List.mem_append]; simp only [h, true_or, or_true]) | (simp only [List.map_append, List.mem_append]; simp only [h, true_or, or_true]))
def tbAt (q : Nat × Cond) : Bool := decide ((tbl (q.1 / 1000))[q.1 % 1000]? = some q.2) && goodWord q.2
theorem tb_of {i : Nat} {w : Cond} (h : tbAt (i, w) = true) : w ∈ TB := by
  simp only [tbAt, Bool.and_eq_true, decide_eq_true_eq] at h
  exact List.mem_filter.mpr ⟨tbl_in (List.mem_of_getElem? h.1), h.2⟩
def isNw : Cond → Bool
  | .fieldLinkNest _ _ _ _ _ _ => true
  | .methodLinkNest _ _ _ _ => true
  | .declares _ => true
  | .castable _ _ => true
  | _ => false
def NW : List Cond := lw_tbl.filter isNw
def nwAt (q : Nat × Cond) : Bool := decide ((tbl (q.1 / 1000))[q.1 % 1000]? = some q.2) && isNw q.2
theorem nw_of {i : Nat} {w : Cond} (h : nwAt (i, w) = true) : w ∈ NW := by
  simp only [nwAt, Bool.and_eq_true, decide_eq_true_eq] at h
  exact List.mem_filter.mpr ⟨tbl_in (List.mem_of_getElem? h.1), h.2⟩
def cT0 : u_T := fun k => match k with
  | 0 => ("SaidOnce$Law", "lines", "I", false)
  | 1 => ("SaidOnce$Law", "kinds", "[I", true)
  | 2 => ("SaidOnce$Law", "amounts", "[I", true)
  | 3 => ("SaidOnce$Law", "ends", "[I", true)
  | 4 => ("SaidOnce$Law", "code", "[I", true)
  | 5 => ("SaidOnce$Law", "codeLength", "I", false)
  | 6 => ("SaidOnce$Law", "given", "[I", true)
  | 7 => ("SaidOnce$Law", "stack", "[I", true)
  | 8 => ("SaidOnce$Law", "farther", "I", false)
  | _ => ("SaidOnce$Law", "shift", "I", false)
theorem cI0 : ∀ k, k < 10 → tbAt (([11223, 11225, 11227, 11229, 11231, 11233, 11235, 11237, 11239, 12001] : List Nat).getD k 0, u_lay "SaidOnce$Law" cT0 k) = true := by decide +kernel
def cT1 : u_T := fun k => match k with
  | 0 => ("SaidOnce$LineReader", "tape", "LSaidOnce$Tape;", true)
  | 1 => ("SaidOnce$LawReader", "law", "LSaidOnce$Law;", true)
  | 2 => ("SaidOnce$LawReader", "waiting", "[I", true)
  | 3 => ("SaidOnce$LawReader", "waitingCount", "I", false)
  | 4 => ("SaidOnce$LawReader", "depth", "I", false)
  | _ => ("SaidOnce$LawReader", "brackets", "I", false)
theorem cI1 : ∀ k, k < 6 → tbAt (([12159, 12149, 12151, 12153, 12155, 12157] : List Nat).getD k 0, u_lay "SaidOnce$LawReader" cT1 k) = true := by decide +kernel
def cT2 : u_T := fun k => match k with
  | 0 => ("SaidOnce$Log", "days", "[I", true)
  | 1 => ("SaidOnce$Log", "speakers", "[I", true)
  | 2 => ("SaidOnce$Log", "sayings", "[I", true)
  | 3 => ("SaidOnce$Log", "learners", "[I", true)
  | 4 => ("SaidOnce$Log", "learnt", "[J", true)
  | _ => ("SaidOnce$Log", "stammered", "[Z", true)
theorem cI2 : ∀ k, k < 6 → tbAt (([12027, 12029, 12031, 12033, 12035, 12037] : List Nat).getD k 0, u_lay "SaidOnce$Log" cT2 k) = true := by decide +kernel
def cT3 : u_T := fun k => match k with
  | 0 => ("SaidOnce$Planner", "school", "LSaidOnce$School;", true)
  | 1 => ("SaidOnce$Planner", "right", "[I", true)
  | 2 => ("SaidOnce$Planner", "reached", "[J", true)
  | 3 => ("SaidOnce$Planner", "left", "I", false)
  | 4 => ("SaidOnce$Planner", "all", "I", false)
  | _ => ("SaidOnce$Planner", "first", "I", false)
theorem cI3 : ∀ k, k < 6 → tbAt (([12082, 12084, 12086, 12088, 12090, 12092] : List Nat).getD k 0, u_lay "SaidOnce$Planner" cT3 k) = true := by decide +kernel
def cT4 : u_T := fun k => match k with
  | 0 => ("SaidOnce$School", "setup", "LSaidOnce$Setup;", true)
  | 1 => ("SaidOnce$School", "state", "LSaidOnce$State;", true)
  | 2 => ("SaidOnce$School", "law", "LSaidOnce$Law;", true)
  | 3 => ("SaidOnce$School", "log", "LSaidOnce$Log;", true)
  | 4 => ("SaidOnce$School", "held", "LSaidOnce$State;", true)
  | _ => ("SaidOnce$School", "minds", "[I", true)
theorem cI4 : ∀ k, k < 6 → tbAt (([12057, 12059, 12061, 12063, 12065, 12067] : List Nat).getD k 0, u_lay "SaidOnce$School" cT4 k) = true := by decide +kernel
def cT5 : u_T := fun k => match k with
  | 0 => ("SaidOnce$LineReader", "tape", "LSaidOnce$Tape;", true)
  | 1 => ("SaidOnce$SchoolReader", "setup", "LSaidOnce$Setup;", true)
  | _ => ("SaidOnce$SchoolReader", "state", "LSaidOnce$State;", true)
theorem cI5 : ∀ k, k < 3 → tbAt (([12132, 12128, 12130] : List Nat).getD k 0, u_lay "SaidOnce$SchoolReader" cT5 k) = true := by decide +kernel
def cT6 : u_T := fun k => match k with
  | 0 => ("SaidOnce$Search", "school", "LSaidOnce$School;", true)
  | _ => ("SaidOnce$Search", "heardFrom", "[I", true)
theorem cI6 : ∀ k, k < 2 → tbAt (([12103, 12105] : List Nat).getD k 0, u_lay "SaidOnce$Search" cT6 k) = true := by decide +kernel
def cT7 : u_T := fun k => match k with
  | 0 => ("SaidOnce$Setup", "things", "I", false)
  | 1 => ("SaidOnce$Setup", "wordings", "[I", true)
  | 2 => ("SaidOnce$Setup", "people", "I", false)
  | 3 => ("SaidOnce$Setup", "ears", "[I", true)
  | 4 => ("SaidOnce$Setup", "stammers", "[I", true)
  | 5 => ("SaidOnce$Setup", "rules", "I", false)
  | 6 => ("SaidOnce$Setup", "firsts", "[I", true)
  | 7 => ("SaidOnce$Setup", "seconds", "[I", true)
  | 8 => ("SaidOnce$Setup", "thirds", "[I", true)
  | 9 => ("SaidOnce$Setup", "loud", "I", false)
  | _ => ("SaidOnce$Setup", "texts", "I", false)
theorem cI7 : ∀ k, k < 11 → tbAt (([11130, 11132, 11134, 11136, 11138, 11140, 11142, 11144, 11146, 11148, 11150] : List Nat).getD k 0, u_lay "SaidOnce$Setup" cT7 k) = true := by decide +kernel
def cT8 : u_T := fun k => match k with
  | 0 => ("SaidOnce$State", "store", "J", false)
  | 1 => ("SaidOnce$State", "knows", "[I", true)
  | 2 => ("SaidOnce$State", "xs", "[I", true)
  | 3 => ("SaidOnce$State", "ys", "[I", true)
  | 4 => ("SaidOnce$State", "absent", "I", false)
  | 5 => ("SaidOnce$State", "day", "I", false)
  | 6 => ("SaidOnce$State", "seed", "I", false)
  | _ => ("SaidOnce$State", "rows", "I", false)
theorem cI8 : ∀ k, k < 8 → tbAt (([11187, 11189, 11191, 11193, 11195, 11197, 11199, 11201] : List Nat).getD k 0, u_lay "SaidOnce$State" cT8 k) = true := by decide +kernel
def cT9 : u_T := fun k => match k with
  | 0 => ("SaidOnce$Tape", "bytes", "[B", true)
  | 1 => ("SaidOnce$Tape", "length", "I", false)
  | 2 => ("SaidOnce$Tape", "fault", "I", false)
  | 3 => ("SaidOnce$Tape", "kind", "I", false)
  | 4 => ("SaidOnce$Tape", "start", "I", false)
  | 5 => ("SaidOnce$Tape", "stop", "I", false)
  | _ => ("SaidOnce$Tape", "number", "I", false)
theorem cI9 : ∀ k, k < 7 → tbAt (([11059, 11061, 11063, 11065, 11067, 11069, 11071] : List Nat).getD k 0, u_lay "SaidOnce$Tape" cT9 k) = true := by decide +kernel
def cT10 : u_T := fun k => match k with
  | 0 => ("SaidOnce", "tape", "LSaidOnce$Tape;", true)
  | 1 => ("SaidOnce", "now", "LSaidOnce$School;", true)
  | 2 => ("SaidOnce", "pictured", "LSaidOnce$School;", true)
  | 3 => ("SaidOnce", "planner", "LSaidOnce$Planner;", true)
  | 4 => ("SaidOnce", "search", "LSaidOnce$Search;", true)
  | 5 => ("SaidOnce", "schoolReader", "LSaidOnce$SchoolReader;", true)
  | 6 => ("SaidOnce", "lawReader", "LSaidOnce$LawReader;", true)
  | 7 => ("SaidOnce", "past", "[LSaidOnce$State;", true)
  | 8 => ("SaidOnce", "remembered", "I", false)
  | _ => ("SaidOnce", "imaged", "Z", false)
theorem cI10 : ∀ k, k < 10 → tbAt (([12174, 12176, 12178, 12180, 12182, 12184, 12186, 12188, 12190, 12192] : List Nat).getD k 0, u_lay "SaidOnce" cT10 k) = true := by decide +kernel
def cT11 : u_T := fun k => match k with
  | 0 => ("SaidOnceModel", "thrown", "I", false)
  | 1 => ("SaidOnceModel", "world", "[I", true)
  | 2 => ("SaidOnceModel", "image", "[I", true)
  | 3 => ("SaidOnceModel", "before", "[I", true)
  | 4 => ("SaidOnceModel", "trial", "[I", true)
  | 5 => ("SaidOnceModel", "acts", "[I", true)
  | 6 => ("SaidOnceModel", "store", "J", false)
  | 7 => ("SaidOnceModel", "imageStore", "J", false)
  | 8 => ("SaidOnceModel", "beforeStore", "J", false)
  | 9 => ("SaidOnceModel", "trialStore", "J", false)
  | 10 => ("SaidOnceModel", "actsStore", "[J", true)
  | 11 => ("SaidOnceModel", "hasImage", "Z", false)
  | 12 => ("SaidOnceModel", "remembered", "I", false)
  | 13 => ("SaidOnceModel", "tape", "[B", true)
  | 14 => ("SaidOnceModel", "taped", "I", false)
  | 15 => ("SaidOnceModel", "point", "I", false)
  | 16 => ("SaidOnceModel", "end", "I", false)
  | 17 => ("SaidOnceModel", "begin", "I", false)
  | 18 => ("SaidOnceModel", "deep", "I", false)
  | 19 => ("SaidOnceModel", "faultAt", "I", false)
  | 20 => ("SaidOnceModel", "five", "[I", true)
  | 21 => ("SaidOnceModel", "steps", "I", false)
  | 22 => ("SaidOnceModel", "value", "[I", true)
  | 23 => ("SaidOnceModel", "taken", "[I", true)
  | 24 => ("SaidOnceModel", "right", "[I", true)
  | 25 => ("SaidOnceModel", "fewest", "[B", true)
  | _ => ("SaidOnceModel", "teaches", "[I", true)
theorem cI11 : ∀ k, k < 27 → tbAt (([17096, 17098, 17100, 17102, 17104, 17106, 17108, 17110, 17112, 17114, 17116, 17118, 17120, 17122, 17124, 17126, 17128, 17130, 17132, 17134, 17136, 17138, 17140, 17142, 17144, 17146, 17148] : List Nat).getD k 0, u_lay "SaidOnceModel" cT11 k) = true := by decide +kernel
abbrev cls : List vw_C := [("SaidOnce$Law", cT0, 10), ("SaidOnce$LawReader", cT1, 6), ("SaidOnce$Log", cT2, 6), ("SaidOnce$Planner", cT3, 6), ("SaidOnce$School", cT4, 6), ("SaidOnce$SchoolReader", cT5, 3), ("SaidOnce$Search", cT6, 2), ("SaidOnce$Setup", cT7, 11), ("SaidOnce$State", cT8, 8), ("SaidOnce$Tape", cT9, 7), ("SaidOnce", cT10, 10), ("SaidOnceModel", cT11, 27)]
def cTy (T : u_T) (k : Nat) : FieldType := (parseFieldDescriptor (T k).2.2.1).getD .int
theorem cN0 : (∀ k, k < 10 → parseFieldDescriptor (cT0 k).2.2.1 = some (cTy cT0 k)) ∧ ∀ a, a < 10 → ∀ b, b < 10 → a ≠ b → (cT0 a).2.1 ≠ (cT0 b).2.1 := by decide +kernel
theorem cN1 : (∀ k, k < 6 → parseFieldDescriptor (cT1 k).2.2.1 = some (cTy cT1 k)) ∧ ∀ a, a < 6 → ∀ b, b < 6 → a ≠ b → (cT1 a).2.1 ≠ (cT1 b).2.1 := by decide +kernel
theorem cN2 : (∀ k, k < 6 → parseFieldDescriptor (cT2 k).2.2.1 = some (cTy cT2 k)) ∧ ∀ a, a < 6 → ∀ b, b < 6 → a ≠ b → (cT2 a).2.1 ≠ (cT2 b).2.1 := by decide +kernel
theorem cN3 : (∀ k, k < 6 → parseFieldDescriptor (cT3 k).2.2.1 = some (cTy cT3 k)) ∧ ∀ a, a < 6 → ∀ b, b < 6 → a ≠ b → (cT3 a).2.1 ≠ (cT3 b).2.1 := by decide +kernel
theorem cN4 : (∀ k, k < 6 → parseFieldDescriptor (cT4 k).2.2.1 = some (cTy cT4 k)) ∧ ∀ a, a < 6 → ∀ b, b < 6 → a ≠ b → (cT4 a).2.1 ≠ (cT4 b).2.1 := by decide +kernel
theorem cN5 : (∀ k, k < 3 → parseFieldDescriptor (cT5 k).2.2.1 = some (cTy cT5 k)) ∧ ∀ a, a < 3 → ∀ b, b < 3 → a ≠ b → (cT5 a).2.1 ≠ (cT5 b).2.1 := by decide +kernel
theorem cN6 : (∀ k, k < 2 → parseFieldDescriptor (cT6 k).2.2.1 = some (cTy cT6 k)) ∧ ∀ a, a < 2 → ∀ b, b < 2 → a ≠ b → (cT6 a).2.1 ≠ (cT6 b).2.1 := by decide +kernel
theorem cN7 : (∀ k, k < 11 → parseFieldDescriptor (cT7 k).2.2.1 = some (cTy cT7 k)) ∧ ∀ a, a < 11 → ∀ b, b < 11 → a ≠ b → (cT7 a).2.1 ≠ (cT7 b).2.1 := by decide +kernel
theorem cN8 : (∀ k, k < 8 → parseFieldDescriptor (cT8 k).2.2.1 = some (cTy cT8 k)) ∧ ∀ a, a < 8 → ∀ b, b < 8 → a ≠ b → (cT8 a).2.1 ≠ (cT8 b).2.1 := by decide +kernel
theorem cN9 : (∀ k, k < 7 → parseFieldDescriptor (cT9 k).2.2.1 = some (cTy cT9 k)) ∧ ∀ a, a < 7 → ∀ b, b < 7 → a ≠ b → (cT9 a).2.1 ≠ (cT9 b).2.1 := by decide +kernel
theorem cN10 : (∀ k, k < 10 → parseFieldDescriptor (cT10 k).2.2.1 = some (cTy cT10 k)) ∧ ∀ a, a < 10 → ∀ b, b < 10 → a ≠ b → (cT10 a).2.1 ≠ (cT10 b).2.1 := by decide +kernel
theorem cN11 : (∀ k, k < 27 → parseFieldDescriptor (cT11 k).2.2.1 = some (cTy cT11 k)) ∧ ∀ a, a < 27 → ∀ b, b < 27 → a ≠ b → (cT11 a).2.1 ≠ (cT11 b).2.1 := by decide +kernel
/-- what is said of a class of the list -/
def clsOK (q : vw_C) : Prop := (∀ w ∈ u_ws q.1 q.2.1 q.2.2, w ∈ TB) ∧ (∀ k, k < q.2.2 → parseFieldDescriptor (q.2.1 k).2.2.1 = some (cTy q.2.1 k)) ∧ ∀ a, a < q.2.2 → ∀ b, b < q.2.2 → a ≠ b → (q.2.1 a).2.1 ≠ (q.2.1 b).2.1
theorem cls_w {C : String} {T : u_T} {N : Nat} {l : List Nat} (h : ∀ k, k < N → tbAt (l.getD k 0, u_lay C T k) = true) : ∀ w ∈ u_ws C T N, w ∈ TB := by
  intro w hw
  obtain ⟨k, hk, rfl⟩ := List.mem_map.mp hw
  exact tb_of (h k (List.mem_range.mp hk))
theorem cls_ok {k : Nat} {q : vw_C} (h : cls[k]? = some q) : clsOK q := by
  match k, h with
  | 0, h => cases h; exact ⟨cls_w cI0, cN0⟩
  | 1, h => cases h; exact ⟨cls_w cI1, cN1⟩
  | 2, h => cases h; exact ⟨cls_w cI2, cN2⟩
  | 3, h => cases h; exact ⟨cls_w cI3, cN3⟩
  | 4, h => cases h; exact ⟨cls_w cI4, cN4⟩
  | 5, h => cases h; exact ⟨cls_w cI5, cN5⟩
  | 6, h => cases h; exact ⟨cls_w cI6, cN6⟩
  | 7, h => cases h; exact ⟨cls_w cI7, cN7⟩
  | 8, h => cases h; exact ⟨cls_w cI8, cN8⟩
  | 9, h => cases h; exact ⟨cls_w cI9, cN9⟩
  | 10, h => cases h; exact ⟨cls_w cI10, cN10⟩
  | 11, h => cases h; exact ⟨cls_w cI11, cN11⟩
  | k + 12, h => simp [cls] at h
/-- field kinds: 0 int, 1 long, 3 boolean, 4 reference -/
def FT : List (List Nat) := [[0, 4, 4, 4, 4, 0, 4, 4, 0, 0], [4, 4, 4, 0, 0, 0], [4, 4, 4, 4, 4, 4], [4, 4, 4, 0, 0, 0], [4, 4, 4, 4, 4, 4], [4, 4, 4], [4, 4], [0, 4, 0, 4, 4, 0, 4, 4, 4, 0, 0], [1, 4, 4, 4, 0, 0, 0, 0], [4, 0, 0, 0, 0, 0, 0], [4, 4, 4, 4, 4, 4, 4, 4, 0, 3], [0, 4, 4, 4, 4, 4, 1, 1, 1, 1, 4, 3, 0, 4, 0, 0, 0, 0, 0, 0, 4, 0, 4, 4, 4, 4, 4]]
def ftc (ci j : Nat) : Nat := (FT.getD ci []).getD j 0
/-- shapes: an object (its class, its number of fields), an array (100 and its kind, its length) -/
def SH : List (List (Nat × Nat)) := [[(10, 10), (9, 7), (102, 400), (4, 6), (7, 11), (100, 10), (100, 10), (100, 10), (100, 12), (100, 12), (100, 12), (8, 8), (100, 10), (100, 10), (100, 10), (0, 10)], [(100, 12), (100, 12), (100, 12), (100, 400), (100, 8), (100, 32), (2, 6), (100, 60), (100, 60), (100, 60), (100, 60), (101, 60), (103, 60), (8, 8), (100, 10), (100, 10)], [(100, 10), (100, 10), (4, 6), (7, 11), (100, 10), (100, 10), (100, 10), (100, 12), (100, 12), (100, 12), (8, 8), (100, 10), (100, 10), (100, 10), (0, 10), (100, 12)], [(100, 12), (100, 12), (100, 400), (100, 8), (100, 32), (2, 6), (100, 60), (100, 60), (100, 60), (100, 60), (101, 60), (103, 60), (8, 8), (100, 10), (100, 10), (100, 10)], [(100, 10), (3, 6), (100, 60), (101, 1024), (6, 2), (100, 10), (5, 3), (7, 11), (100, 10), (100, 10), (100, 10), (100, 12), (100, 12), (100, 12), (8, 8), (100, 10)], [(100, 10), (100, 10), (1, 6), (0, 10), (100, 12), (100, 12), (100, 12), (100, 400), (100, 8), (100, 32), (100, 32), (104, 12), (8, 8), (100, 10), (100, 10), (100, 10)], [(8, 8), (100, 10), (100, 10), (100, 10), (8, 8), (100, 10), (100, 10), (100, 10), (8, 8), (100, 10), (100, 10), (100, 10), (8, 8), (100, 10), (100, 10), (100, 10)], [(8, 8), (100, 10), (100, 10), (100, 10), (8, 8), (100, 10), (100, 10), (100, 10), (8, 8), (100, 10), (100, 10), (100, 10), (8, 8), (100, 10), (100, 10), (100, 10)], [(8, 8), (100, 10), (100, 10), (100, 10), (8, 8), (100, 10), (100, 10), (100, 10), (8, 8), (100, 10), (100, 10), (100, 10), (11, 27), (100, 2713), (100, 1864), (100, 1864)], [(100, 1015), (100, 12180), (101, 12), (102, 400), (100, 5), (100, 400), (100, 10), (100, 60), (102, 65536), (100, 10), (101, 1)]]
def sh (k : Nat) : Nat × Nat := (SH.getD (k / 16) []).getD (k % 16) (999, 0)
/-- references of objects: they never change -/
def RT : List (List (List (Option Nat))) := [[[some 1, some 3, some 34, some 65, some 68, some 70, some 82, some 91, none, none], [some 2, none, none, none, none, none, none], [], [some 4, some 11, some 15, some 22, some 29, some 33], [none, some 5, none, some 6, some 7, none, some 8, some 9, some 10, none, none], [], [], [], [], [], [], [none, some 12, some 13, some 14, none, none, none, none], [], [], [], [none, some 16, some 17, some 18, some 19, none, some 20, some 21, none, none]], [[], [], [], [], [], [], [some 23, some 24, some 25, some 26, some 27, some 28], [], [], [], [], [], [], [none, some 30, some 31, some 32, none, none, none, none], [], []], [[], [], [some 35, some 42, some 46, some 53, some 60, some 64], [none, some 36, none, some 37, some 38, none, some 39, some 40, some 41, none, none], [], [], [], [], [], [], [none, some 43, some 44, some 45, none, none, none, none], [], [], [], [none, some 47, some 48, some 49, some 50, none, some 51, some 52, none, none], []], [[], [], [], [], [], [some 54, some 55, some 56, some 57, some 58, some 59], [], [], [], [], [], [], [none, some 61, some 62, some 63, none, none, none, none], [], [], []], [[], [some 3, some 66, some 67, none, none, none], [], [], [some 3, some 69], [], [some 1, some 71, some 78], [none, some 72, none, some 73, some 74, none, some 75, some 76, some 77, none, none], [], [], [], [], [], [], [none, some 79, some 80, some 81, none, none, none, none], []], [[], [], [some 1, some 83, some 90, none, none, none], [none, some 84, some 85, some 86, some 87, none, some 88, some 89, none, none], [], [], [], [], [], [], [], [], [none, some 93, some 94, some 95, none, none, none, none], [], [], []], [[none, some 97, some 98, some 99, none, none, none, none], [], [], [], [none, some 101, some 102, some 103, none, none, none, none], [], [], [], [none, some 105, some 106, some 107, none, none, none, none], [], [], [], [none, some 109, some 110, some 111, none, none, none, none], [], [], []], [[none, some 113, some 114, some 115, none, none, none, none], [], [], [], [none, some 117, some 118, some 119, none, none, none, none], [], [], [], [none, some 121, some 122, some 123, none, none, none, none], [], [], [], [none, some 125, some 126, some 127, none, none, none, none], [], [], []], [[none, some 129, some 130, some 131, none, none, none, none], [], [], [], [none, some 133, some 134, some 135, none, none, none, none], [], [], [], [none, some 137, some 138, some 139, none, none, none, none], [], [], [], [none, some 141, some 142, some 143, some 144, some 145, none, none, none, none, some 146, none, none, some 147, none, none, none, none, none, none, some 148, none, some 149, some 150, some 151, some 152, some 153], [], [], []], [[], [], [], [], [], [], [], [], [], [], []]]
def rt (k j : Nat) : Option Nat := ((RT.getD (k / 16) []).getD (k % 16) []).getD j none
abbrev NC : Nat := 155
/-- the texts that code loads: whose, where, what -/
def STR : List (String × Nat × String) := [("SaidOnce$LawReader", 31, "far"), ("SaidOnce$LawReader", 39, "near"), ("SaidOnce$LawReader", 41, "as"), ("SaidOnce$LawReader", 50, "if"), ("SaidOnce$LawReader", 97, "not"), ("SaidOnce$LawReader", 102, "known"), ("SaidOnce$LawReader", 118, "thing"), ("SaidOnce$LawReader", 120, "wording"), ("SaidOnce$LawReader", 122, "who"), ("SaidOnce$LawReader", 124, "whom"), ("SaidOnce$LawReader", 126, "apart"), ("SaidOnce$LawReader", 128, "ear"), ("SaidOnce$LawReader", 130, "day"), ("SaidOnce$LawReader", 82, "and"), ("SaidOnce$LawReader", 84, "or"), ("SaidOnce$SchoolReader", 42, "thing"), ("SaidOnce$SchoolReader", 58, "person"), ("SaidOnce$SchoolReader", 114, "ear"), ("SaidOnce$SchoolReader", 116, "stammer"), ("SaidOnce$SchoolReader", 118, "knows"), ("SaidOnce$SchoolReader", 66, "follow"), ("SaidOnce$SchoolReader", 74, "said"), ("SaidOnce$SchoolReader", 82, "absent"), ("SaidOnce$SchoolReader", 87, "loud"), ("SaidOnce", 86, "the text of the school is wrong"), ("SaidOnce", 102, "the school has all its texts"), ("SaidOnce", 114, "the text of the law is wrong"), ("SaidOnce", 419, "there is no such thing"), ("SaidOnce", 148, "of a thing there is no such number"), ("SaidOnce", 424, "there is no such person"), ("SaidOnce", 186, "of a person there is no such number"), ("SaidOnce", 188, "of a rule there is no such number"), ("SaidOnce", 426, "both are one"), ("SaidOnce", 422, "there is no such wording"), ("SaidOnce", 237, "this cannot be said"), ("SaidOnce", 428, "a term has not so many sayings"), ("SaidOnce", 291, "the tape has not a byte for each person"), ("SaidOnce", 299, "a byte of the tape is no thing"), ("SaidOnce", 376, "of a row of the log there is no such number"), ("SaidOnceModel", 167, "thing"), ("SaidOnceModel", 172, "person"), ("SaidOnceModel", 144, "ear"), ("SaidOnceModel", 150, "stammer"), ("SaidOnceModel", 152, "knows"), ("SaidOnceModel", 177, "follow"), ("SaidOnceModel", 182, "said"), ("SaidOnceModel", 187, "absent"), ("SaidOnceModel", 189, "loud"), ("SaidOnceModel", 237, "as"), ("SaidOnceModel", 239, "far"), ("SaidOnceModel", 241, "near"), ("SaidOnceModel", 243, "if"), ("SaidOnceModel", 220, "not"), ("SaidOnceModel", 225, "known"), ("SaidOnceModel", 198, "wording"), ("SaidOnceModel", 200, "who"), ("SaidOnceModel", 202, "whom"), ("SaidOnceModel", 204, "apart"), ("SaidOnceModel", 206, "day"), ("SaidOnceModel", 230, "and"), ("SaidOnceModel", 235, "or")]
def SBY : List (List Int32) := [[102, 97, 114], [110, 101, 97, 114], [97, 115], [105, 102], [110, 111, 116], [107, 110, 111, 119, 110], [116, 104, 105, 110, 103], [119, 111, 114, 100, 105, 110, 103], [119, 104, 111], [119, 104, 111, 109], [97, 112, 97, 114, 116], [101, 97, 114], [100, 97, 121], [97, 110, 100], [111, 114], [116, 104, 105, 110, 103], [112, 101, 114, 115, 111, 110], [101, 97, 114], [115, 116, 97, 109, 109, 101, 114], [107, 110, 111, 119, 115], [102, 111, 108, 108, 111, 119], [115, 97, 105, 100], [97, 98, 115, 101, 110, 116], [108, 111, 117, 100], [116, 104, 101, 32, 116, 101, 120, 116, 32, 111, 102, 32, 116, 104, 101, 32, 115, 99, 104, 111, 111, 108, 32, 105, 115, 32, 119, 114, 111, 110, 103], [116, 104, 101, 32, 115, 99, 104, 111, 111, 108, 32, 104, 97, 115, 32, 97, 108, 108, 32, 105, 116, 115, 32, 116, 101, 120, 116, 115], [116, 104, 101, 32, 116, 101, 120, 116, 32, 111, 102, 32, 116, 104, 101, 32, 108, 97, 119, 32, 105, 115, 32, 119, 114, 111, 110, 103], [116, 104, 101, 114, 101, 32, 105, 115, 32, 110, 111, 32, 115, 117, 99, 104, 32, 116, 104, 105, 110, 103], [111, 102, 32, 97, 32, 116, 104, 105, 110, 103, 32, 116, 104, 101, 114, 101, 32, 105, 115, 32, 110, 111, 32, 115, 117, 99, 104, 32, 110, 117, 109, 98, 101, 114], [116, 104, 101, 114, 101, 32, 105, 115, 32, 110, 111, 32, 115, 117, 99, 104, 32, 112, 101, 114, 115, 111, 110], [111, 102, 32, 97, 32, 112, 101, 114, 115, 111, 110, 32, 116, 104, 101, 114, 101, 32, 105, 115, 32, 110, 111, 32, 115, 117, 99, 104, 32, 110, 117, 109, 98, 101, 114], [111, 102, 32, 97, 32, 114, 117, 108, 101, 32, 116, 104, 101, 114, 101, 32, 105, 115, 32, 110, 111, 32, 115, 117, 99, 104, 32, 110, 117, 109, 98, 101, 114], [98, 111, 116, 104, 32, 97, 114, 101, 32, 111, 110, 101], [116, 104, 101, 114, 101, 32, 105, 115, 32, 110, 111, 32, 115, 117, 99, 104, 32, 119, 111, 114, 100, 105, 110, 103], [116, 104, 105, 115, 32, 99, 97, 110, 110, 111, 116, 32, 98, 101, 32, 115, 97, 105, 100], [97, 32, 116, 101, 114, 109, 32, 104, 97, 115, 32, 110, 111, 116, 32, 115, 111, 32, 109, 97, 110, 121, 32, 115, 97, 121, 105, 110, 103, 115], [116, 104, 101, 32, 116, 97, 112, 101, 32, 104, 97, 115, 32, 110, 111, 116, 32, 97, 32, 98, 121, 116, 101, 32, 102, 111, 114, 32, 101, 97, 99, 104, 32, 112, 101, 114, 115, 111, 110], [97, 32, 98, 121, 116, 101, 32, 111, 102, 32, 116, 104, 101, 32, 116, 97, 112, 101, 32, 105, 115, 32, 110, 111, 32, 116, 104, 105, 110, 103], [111, 102, 32, 97, 32, 114, 111, 119, 32, 111, 102, 32, 116, 104, 101, 32, 108, 111, 103, 32, 116, 104, 101, 114, 101, 32, 105, 115, 32, 110, 111, 32, 115, 117, 99, 104, 32, 110, 117, 109, 98, 101, 114], [116, 104, 105, 110, 103], [112, 101, 114, 115, 111, 110], [101, 97, 114], [115, 116, 97, 109, 109, 101, 114], [107, 110, 111, 119, 115], [102, 111, 108, 108, 111, 119], [115, 97, 105, 100], [97, 98, 115, 101, 110, 116], [108, 111, 117, 100], [97, 115], [102, 97, 114], [110, 101, 97, 114], [105, 102], [110, 111, 116], [107, 110, 111, 119, 110], [119, 111, 114, 100, 105, 110, 103], [119, 104, 111], [119, 104, 111, 109], [97, 112, 97, 114, 116], [100, 97, 121], [97, 110, 100], [111, 114]]
def EN (e : Nat) : String := match e with | 0 => "java/lang/IllegalArgumentException" | 1 => "java/lang/UnsupportedOperationException" | 2 => "java/lang/IndexOutOfBoundsException" | 3 => "java/util/NoSuchElementException" | _ => "java/lang/IllegalStateException"
end
section
/-! the abstract machine: memory of the static object graph, frames, the judgement Wm -/
abbrev Mem : Type := (Nat → Nat) × (Nat → Nat → Int32) × (Nat → Nat → Int64)
def mP (μ : Mem) : Nat → Nat := μ.1
def mI (μ : Mem) : Nat → Nat → Int32 := μ.2.1
def mL (μ : Mem) : Nat → Nat → Int64 := μ.2.2
def u2 {α : Type} (f : Nat → Nat → α) (k j : Nat) (v : α) : Nat → Nat → α := fun a b => if a = k then (if b = j then v else f a b) else f a b
def sI (μ : Mem) (k j : Nat) (v : Int32) : Mem := (μ.1, u2 μ.2.1 k j v, μ.2.2)
def sL (μ : Mem) (k j : Nat) (v : Int64) : Mem := (μ.1, μ.2.1, u2 μ.2.2 k j v)
def sP (μ : Mem) (j v : Nat) : Mem := (va_up μ.1 j v, μ.2.1, μ.2.2)
/-- a row copied -/
def sRI (μ : Mem) (k : Nat) (f : Nat → Int32) : Mem := (μ.1, fun a b => if a = k then f b else μ.2.1 a b, μ.2.2)
def sRL (μ : Mem) (k : Nat) (f : Nat → Int64) : Mem := (μ.1, μ.2.1, fun a b => if a = k then f b else μ.2.2 a b)
abbrev Gl : Type := Launch × va_G × (Nat → ClassId) × (Nat → Nat) × (Nat → Nat) × (Nat → Nat) × Nat × Nat × Nat × (Nat → Int32) × Option Nat
def gl (g : Gl) : Launch := g.1
def gD (g : Gl) : va_G := g.2.1
def gA (g : Gl) : Nat → ClassId := g.2.2.1
/-- where the cells of the graph lie -/
def ga (g : Gl) : Nat → Nat := g.2.2.2.1
def gs (g : Gl) : Nat → Nat := g.2.2.2.2.1
def gv (g : Gl) : Nat → Nat := g.2.2.2.2.2.1
def gb (g : Gl) : Nat := g.2.2.2.2.2.2.1
def gB (g : Gl) : Nat := g.2.2.2.2.2.2.2.1
def gN (g : Gl) : Nat := g.2.2.2.2.2.2.2.2.1
def gX (g : Gl) : Nat → Int32 := g.2.2.2.2.2.2.2.2.2.1
def gZ (g : Gl) : Option Nat := g.2.2.2.2.2.2.2.2.2.2
def gP (g : Gl) : Nat → Prop := fun q => gb g ≤ q
/-- an id's address: a cell, a text (1000 and on), the script (2000), a text's bytes (3000 and on), the JDK's formatter (4000) -/
def gr (g : Gl) (k : Nat) : Nat := if k < 1000 then ga g k else if k < 2000 then gs g (k - 1000) else if k < 3000 then gB g else if k < 4000 then gv g (k - 3000) else (gZ g).getD 0
def szv (g : Gl) : Value := match gZ g with
  | none => .null
  | some _ => .ref 4000
def szT (g : Gl) : Value := match gZ g with
  | none => .null
  | some t => .ref t
def tv (g : Gl) : Value → Value
  | .ref k => .ref (gr g k)
  | v => v
def tl (g : Gl) (ls : List (Nat × Value)) : List (Nat × Value) := ls.map fun q => (q.1, tv g q.2)
theorem tv_szv (g : Gl) : tv g (szv g) = szT g := by
  unfold szv szT
  cases h : gZ g with
  | none => rfl
  | some t => show Value.ref (gr g 4000) = _; simp [gr, h]
theorem tv_cat (g : Gl) (v : Value) : (tv g v).category = v.category := by cases v <;> rfl
def fv (g : Gl) (μ : Mem) (k j t : Nat) : Value := if t = 1 then .long (mL μ k j) else if t = 4 then va_rf ((rt k j).map (ga g)) else .int (mI μ k j)
def cE (g : Gl) (μ : Mem) (k : Nat) : va_E :=
  if (sh k).1 < 100 then .inr ((sh k).1, (List.range (sh k).2).map fun j => fv g μ k j (ftc (sh k).1 j))
  else if (sh k).1 = 101 then .inl (gA g 1, (sh k).2, .inr (.inl (mL μ k)))
  else if (sh k).1 = 104 then .inl (gA g 4, (sh k).2, .inr (.inr (.inr (.inr fun i => some (ga g (mP μ i))))))
  else .inl (gA g ((sh k).1 - 100), (sh k).2, .inl (mI μ k))
def wd (g : Gl) (μ : Mem) : va_W := (List.range NC).map fun k => (ga g k, cE g μ k)
def Rep (g : Gl) (μ : Mem) (H : Heap) : Prop := va_P (gD g) cls (wd g μ) H
def tysG (g : Gl) : List (ClassId × FieldType) := [(gA g 0, .int), (gA g 1, .long), (gA g 2, .byte), (gA g 3, .boolean), (gA g 4, .object "SaidOnce$State")]
def strOK (g : Gl) (j : Nat) (s : State) : Prop := vk_R (STR.getD j ("", 0, "")).1 (STR.getD j ("", 0, "")).2.1 (STR.getD j ("", 0, "")).2.2 (gs g j) s ∧
  va_O "java/lang/String" (gs g j) (gP g) s s.heap ∧ va_OF "java/lang/String" "coder" "B" (.int 0) (gs g j) (gP g) s s.heap ∧ va_OF "java/lang/String" "value" "[B" (.ref (gv g j)) (gs g j) (gP g) s s.heap ∧
  va_T .byte (gv g j) (SBY.getD j []).length (fun i => .int ((SBY.getD j []).getD i 0)) (gP g) s s.heap
def EnvS (g : Gl) (s : State) : Prop := va_K (gD g) cls (tysG g) s ∧ (∀ w ∈ NW, va_Nw w s) ∧ (∀ j, j < 61 → strOK g j s) ∧
  vx_Zq Bundle.tN "UNASSIGNED_STACK" Bundle.steD (gP g) s s.heap ∧ vx_Zq Bundle.tN "SUPPRESSED_SENTINEL" Bundle.listD (gP g) s s.heap ∧ va_Z "java/lang/String" "COMPACT_STRINGS" "Z" (.int 1) (gP g) s s.heap ∧
  gb g ≤ s.heap.size ∧ (gl g).stackTraces = false ∧ va_X (gB g) (gN g) (gX g) s s.heap ∧ gB g < gb g ∧ (∀ k, k < NC → gb g ≤ ga g k) ∧ (∀ i j, i < NC → j < NC → ga g i = ga g j → i = j) ∧
  (∀ a b, a < 5 → b < 5 → a ≠ b → va_Nc (EN a) (EN b) s) ∧ va_Z "jdk/internal/util/Preconditions" "SIOOBE_FORMATTER" "Ljava/util/function/BiFunction;" (szT g) (gP g) s s.heap
theorem nw_warm {w : Cond} (hw : isNw w = true) {s U : State} (hW : s.WarmedH U.vm) (h : va_Nw w s) : va_Nw w U := by
  cases w <;> first | exact va_Nw.warmF hW h | exact va_Nw.warmM hW h | exact va_Nw.warmD hW h | exact va_Nw.warmC hW h | exact absurd hw (by simp [isNw])
theorem EnvS.move {g : Gl} {s U : State} {locs : List Loc} (h : EnvS g s) (hW : s.WarmedH U.vm) (hS : va_S (gP g) s.heap U.heap locs) : EnvS g U := by
  obtain ⟨h1, h2, h3, h4, h5, h6, h7, h8, h9, h10, h11, h12, h13, h14⟩ := h
  have hq : ∀ a : Nat, a < s.heap.size → ¬ gP g a → U.heap[a]? = s.heap[a]? := hS.2.1
  refine ⟨h1.moved hW.alike, fun w hw => nw_warm (List.mem_filter.mp hw).2 hW (h2 w hw), fun j hj => ?_, (h4.moved hW.alike).kept hq, (h5.moved hW.alike).kept hq, (h6.moved hW.alike).kept hq, Nat.le_trans h7 hS.1, h8, ?_, h10, h11, h12, fun a b ha hb hn => (h13 a b ha hb hn).moved hW.alike, (h14.moved hW.alike).kept hq⟩
  · obtain ⟨k1, k2, k3, k4, k5⟩ := h3 j hj
    exact ⟨k1.warm hW, (k2.moved hW.alike).kept hq, (k3.moved hW.alike).kept hq, (k4.moved hW.alike).kept hq, (k5.moved hW.alike).kept hq⟩
  · exact (h9.moved hW.alike).kept (hq _ (Nat.lt_of_lt_of_le h10 h7) (Nat.not_le.mpr h10))
end
section
/-! methods, the judgement Wm, locals -/
abbrev MI : Type := MethodName × ByteArray × Nat × Option FieldType × List (Nat × Nat × Nat × Nat) × Nat × Nat × Nat
def miY (mi : MI) : MethodName := mi.1
def miC (mi : MI) : ByteArray := mi.2.1
def miN (mi : MI) : Nat := mi.2.2.1
def miT (mi : MI) : Option FieldType := mi.2.2.2.1
def miH (mi : MI) : List (Nat × Nat × Nat × Nat) := mi.2.2.2.2.1
def miD (mi : MI) : Nat := mi.2.2.2.2.2.1
def miK (mi : MI) : Nat := mi.2.2.2.2.2.2.1
def miS (mi : MI) : Nat := mi.2.2.2.2.2.2.2
abbrev Out : Type := Option Value ⊕ Nat
def rm (mi : MI) (dx : Nat) : Room := { frames := miD mi + dx, cells := miK mi, slots := miS mi, locals := 100 * (miD mi + dx) }
def Ctx (g : Gl) (mi : MI) (p : Program) (s : State) (m : MethodId) (args : Array Value) (meth : Method) (c : Code) : Prop :=
  p.tables.exec = Jvm.exec ∧ c.code = miC mi ∧ c.maxLocals = miN mi ∧ meth.sig.returnType = miT mi ∧ meth.locks = false ∧ s.vm.findClass (miY mi).cls = some m.cls ∧ (∀ w ∈ TB, w.before args s = true) ∧ c.exceptionTable.toList = tableOf (miH mi) ∧ EnvS g s
abbrev QT : Type := List Frame → Array Value → State → State → Prop
def Wm (g : Gl) (mi : MI) (R : Room) (Q : QT) (nc ns pc : Nat) (ls : List (Nat × Value)) (st : List Value) (μ : Mem) : Prop :=
  ∀ (p : Program) (e : Env) (s : State) (m : MethodId) (args : Array Value) (below : List Frame) (meth : Method) (c : Code), Ctx g mi p s m args meth c →
    ∀ (H : Heap) (locs : List Loc) (L : Array Slot), Rep g μ H → va_S (gP g) s.heap H locs → lv_has L (miN mi) (tl g ls) →
      W p (gl g) e R s m args below meth c H locs nc ns (Q below args s) (F0 m pc L (st.map (tv g)))
def lk : List (Nat × Value) → Nat → Option Value
  | [], _ => none
  | q :: t, i => match Nat.beq q.1 i with
    | true => some q.2
    | false => lk t i
def lput (ls : List (Nat × Value)) (i : Nat) (v : Value) : List (Nat × Value) :=
  ls.filter (fun q => Nat.ble (q.1 + q.2.category) i) ++ (i, v) :: ls.filter (fun q => Nat.ble (i + v.category) q.1)
def lpick (ls : List (Nat × Value)) (ks : List Nat) : List (Nat × Value) := ls.filter (fun q => ks.any (Nat.beq q.1))
theorem lk_mem {ls : List (Nat × Value)} {i : Nat} {v : Value} (h : lk ls i = some v) : (i, v) ∈ ls := by
  induction ls with
  | nil => cases h
  | cons q t ih =>
    unfold lk at h
    cases hb : Nat.beq q.1 i with
    | true =>
      rw [hb] at h
      have : q.1 = i := Nat.eq_of_beq_eq_true hb
      have h2 : q.2 = v := Option.some.inj h
      rw [← this, ← h2]
      exact List.mem_cons_self
    | false =>
      rw [hb] at h
      exact List.mem_cons_of_mem _ (ih h)
theorem lk_at {g : Gl} {L : Array Slot} {n : Nat} {ls : List (Nat × Value)} {i : Nat} {v : Value} (hl : lv_has L n (tl g ls)) (h : lk ls i = some v) : L[i]? = some (.val (tv g v)) :=
  hl.2.2 (i, tv g v) (List.mem_map.mpr ⟨(i, v), lk_mem h, rfl⟩)
theorem lv_weak {L : Array Slot} {n : Nat} {l l' : List (Nat × Value)} (h : lv_has L n l) (hs : ∀ q ∈ l', q ∈ l) : lv_has L n l' := ⟨h.1, h.2.1, fun q hq => h.2.2 q (hs q hq)⟩
theorem Wm.pick {g : Gl} {mi : MI} {R : Room} {Q : QT} {nc ns pc : Nat} {ls ls' : List (Nat × Value)} {st : List Value} {μ : Mem} (hs : ∀ q ∈ ls', q ∈ ls) (h : Wm g mi R Q nc ns pc ls' st μ) : Wm g mi R Q nc ns pc ls st μ := by
  intro p e s m args below meth c C H locs L hR hS hl
  refine h p e s m args below meth c C H locs L hR hS (lv_weak hl fun q hq => ?_)
  obtain ⟨r, hr, rfl⟩ := List.mem_map.mp hq
  exact List.mem_map.mpr ⟨r, hs r hr, rfl⟩
theorem lpick_sub {ls : List (Nat × Value)} {ks : List Nat} : ∀ q ∈ lpick ls ks, q ∈ ls := fun _ h => (List.mem_filter.mp h).1
theorem cat_pos (v : Value) : 1 ≤ v.category := by cases v <;> simp [Value.category]
theorem lput_sub1 {g : Gl} {ls : List (Nat × Value)} {i : Nat} {v : Value} (hc : v.category = 1) : ∀ q ∈ tl g (lput ls i v), q ∈ (i, tv g v) :: (tl g ls).filter (fun q => !(q.1 == i) && !(q.1 + 1 == i && q.2.category == 2)) := by
  intro q hq
  obtain ⟨r, hr, rfl⟩ := List.mem_map.mp hq
  rcases List.mem_append.mp hr with h | h
  · obtain ⟨h1, h2⟩ := List.mem_filter.mp h
    have h3 := Nat.le_of_ble_eq_true h2
    have := cat_pos r.2
    refine List.mem_cons_of_mem _ (List.mem_filter.mpr ⟨List.mem_map.mpr ⟨r, h1, rfl⟩, ?_⟩)
    simp only [tv_cat, Bool.and_eq_true, Bool.not_eq_true', beq_eq_false_iff_ne, Bool.and_eq_false_iff]
    refine ⟨by omega, ?_⟩
    by_cases hz : r.2.category = 2
    · left; omega
    · right; exact hz
  · rcases List.mem_cons.mp h with rfl | h
    · exact List.mem_cons_self
    · obtain ⟨h1, h2⟩ := List.mem_filter.mp h
      have h3 := Nat.le_of_ble_eq_true h2
      refine List.mem_cons_of_mem _ (List.mem_filter.mpr ⟨List.mem_map.mpr ⟨r, h1, rfl⟩, ?_⟩)
      simp only [tv_cat, Bool.and_eq_true, Bool.not_eq_true', beq_eq_false_iff_ne, Bool.and_eq_false_iff]
      exact ⟨by omega, Or.inl (by omega)⟩
theorem lput_sub2 {g : Gl} {ls : List (Nat × Value)} {i : Nat} {v : Value} (hc : v.category = 2) : ∀ q ∈ tl g (lput ls i v), q ∈ (i, tv g v) :: (tl g ls).filter (fun q => !(q.1 == i) && (!(q.1 == i + 1) && !(q.1 + 1 == i && q.2.category == 2))) := by
  intro q hq
  obtain ⟨r, hr, rfl⟩ := List.mem_map.mp hq
  rcases List.mem_append.mp hr with h | h
  · obtain ⟨h1, h2⟩ := List.mem_filter.mp h
    have h3 := Nat.le_of_ble_eq_true h2
    have := cat_pos r.2
    refine List.mem_cons_of_mem _ (List.mem_filter.mpr ⟨List.mem_map.mpr ⟨r, h1, rfl⟩, ?_⟩)
    simp only [tv_cat, Bool.and_eq_true, Bool.not_eq_true', beq_eq_false_iff_ne, Bool.and_eq_false_iff]
    refine ⟨by omega, by omega, ?_⟩
    by_cases hz : r.2.category = 2
    · left; omega
    · right; exact hz
  · rcases List.mem_cons.mp h with rfl | h
    · exact List.mem_cons_self
    · obtain ⟨h1, h2⟩ := List.mem_filter.mp h
      have h3 := Nat.le_of_ble_eq_true h2
      refine List.mem_cons_of_mem _ (List.mem_filter.mpr ⟨List.mem_map.mpr ⟨r, h1, rfl⟩, ?_⟩)
      simp only [tv_cat, Bool.and_eq_true, Bool.not_eq_true', beq_eq_false_iff_ne, Bool.and_eq_false_iff]
      exact ⟨by omega, by omega, Or.inl (by omega)⟩
def iv : Int → Int32
  | .ofNat n => Int32.ofNat n
  | .negSucc n => -(Int32.ofNat (n + 1))
theorem iv_ofInt (n : Int) : Int32.ofInt n = iv n := by
  cases n with
  | ofNat n => exact Int32.ofInt_eq_ofNat
  | negSucc n =>
    show Int32.ofInt (-(↑(n + 1) : Int)) = _
    rw [Int32.ofInt_neg]; rfl
/-- a pc plus a jump -/
def jt (pc : Nat) (off : Int) : Nat := ((pc : Int) + off).toNat
end
section
/-! one row an instruction -/
section AM3
variable {g : Gl} {mi : MI} {R : Room} {Q : QT} {nc ns pc : Nat} {ls : List (Nat × Value)} {st : List Value} {μ : Mem}
theorem am_iadd {x y : Int32} (hd : decode (miC mi) pc = .ok (.iadd, 1)) (k : Wm g mi R Q nc ns (pc + 1) ls (.int (x + y) :: st) μ) : Wm g mi R Q nc ns pc ls (.int y :: .int x :: st) μ := fun p e s m args below meth c C H locs L hR hS hl =>
  lv_iadd C.1 C.2.1 hd (k p e s m args below meth c C H locs L hR hS hl)
theorem am_isub {x y : Int32} (hd : decode (miC mi) pc = .ok (.isub, 1)) (k : Wm g mi R Q nc ns (pc + 1) ls (.int (x - y) :: st) μ) : Wm g mi R Q nc ns pc ls (.int y :: .int x :: st) μ := fun p e s m args below meth c C H locs L hR hS hl =>
  lv_isub C.1 C.2.1 hd (k p e s m args below meth c C H locs L hR hS hl)
theorem am_imul {x y : Int32} (hd : decode (miC mi) pc = .ok (.imul, 1)) (k : Wm g mi R Q nc ns (pc + 1) ls (.int (x * y) :: st) μ) : Wm g mi R Q nc ns pc ls (.int y :: .int x :: st) μ := fun p e s m args below meth c C H locs L hR hS hl =>
  lv_imul C.1 C.2.1 hd (k p e s m args below meth c C H locs L hR hS hl)
theorem am_iand {x y : Int32} (hd : decode (miC mi) pc = .ok (.iand, 1)) (k : Wm g mi R Q nc ns (pc + 1) ls (.int (x &&& y) :: st) μ) : Wm g mi R Q nc ns pc ls (.int y :: .int x :: st) μ := fun p e s m args below meth c C H locs L hR hS hl =>
  lv_iand C.1 C.2.1 hd (k p e s m args below meth c C H locs L hR hS hl)
theorem am_ior {x y : Int32} (hd : decode (miC mi) pc = .ok (.ior, 1)) (k : Wm g mi R Q nc ns (pc + 1) ls (.int (x ||| y) :: st) μ) : Wm g mi R Q nc ns pc ls (.int y :: .int x :: st) μ := fun p e s m args below meth c C H locs L hR hS hl =>
  lv_ior C.1 C.2.1 hd (k p e s m args below meth c C H locs L hR hS hl)
theorem am_ixor {x y : Int32} (hd : decode (miC mi) pc = .ok (.ixor, 1)) (k : Wm g mi R Q nc ns (pc + 1) ls (.int (x ^^^ y) :: st) μ) : Wm g mi R Q nc ns pc ls (.int y :: .int x :: st) μ := fun p e s m args below meth c C H locs L hR hS hl =>
  lv_ixor C.1 C.2.1 hd (k p e s m args below meth c C H locs L hR hS hl)
theorem am_ishl {x y : Int32} (hd : decode (miC mi) pc = .ok (.ishl, 1)) (k : Wm g mi R Q nc ns (pc + 1) ls (.int (x <<< (y &&& 31)) :: st) μ) : Wm g mi R Q nc ns pc ls (.int y :: .int x :: st) μ := fun p e s m args below meth c C H locs L hR hS hl =>
  lv_ishl C.1 C.2.1 hd (k p e s m args below meth c C H locs L hR hS hl)
theorem am_ishr {x y : Int32} (hd : decode (miC mi) pc = .ok (.ishr, 1)) (k : Wm g mi R Q nc ns (pc + 1) ls (.int (x >>> (y &&& 31)) :: st) μ) : Wm g mi R Q nc ns pc ls (.int y :: .int x :: st) μ := fun p e s m args below meth c C H locs L hR hS hl =>
  lv_ishr C.1 C.2.1 hd (k p e s m args below meth c C H locs L hR hS hl)
def ush (x y : Int32) : Int32 := (x.toUInt32 >>> (y.toUInt32 &&& Int32.toUInt32 31)).toInt32
theorem am_iushr {x y : Int32} (hd : decode (miC mi) pc = .ok (.iushr, 1)) (k : Wm g mi R Q nc ns (pc + 1) ls (.int (ush x y) :: st) μ) : Wm g mi R Q nc ns pc ls (.int y :: .int x :: st) μ := fun p e s m args below meth c C H locs L hR hS hl =>
  lv_iushr C.1 C.2.1 hd rfl (k p e s m args below meth c C H locs L hR hS hl)
theorem am_idiv {x y : Int32} (hn : ¬ y = 0) (hd : decode (miC mi) pc = .ok (.idiv, 1)) (k : Wm g mi R Q nc ns (pc + 1) ls (.int (x / y) :: st) μ) : Wm g mi R Q nc ns pc ls (.int y :: .int x :: st) μ := fun p e s m args below meth c C H locs L hR hS hl =>
  lv_idiv C.1 C.2.1 hd hn (k p e s m args below meth c C H locs L hR hS hl)
theorem am_irem {x y : Int32} (hn : ¬ y = 0) (hd : decode (miC mi) pc = .ok (.irem, 1)) (k : Wm g mi R Q nc ns (pc + 1) ls (.int (x - x / y * y) :: st) μ) : Wm g mi R Q nc ns pc ls (.int y :: .int x :: st) μ := fun p e s m args below meth c C H locs L hR hS hl =>
  lv_irem C.1 C.2.1 hd hn (k p e s m args below meth c C H locs L hR hS hl)
theorem am_ineg {x : Int32} (hd : decode (miC mi) pc = .ok (.ineg, 1)) (k : Wm g mi R Q nc ns (pc + 1) ls (.int (-x) :: st) μ) : Wm g mi R Q nc ns pc ls (.int x :: st) μ := fun p e s m args below meth c C H locs L hR hS hl =>
  lv_ineg C.1 C.2.1 hd (k p e s m args below meth c C H locs L hR hS hl)
theorem am_ladd {x y : Int64} (hd : decode (miC mi) pc = .ok (.ladd, 1)) (k : Wm g mi R Q nc ns (pc + 1) ls (.long (x + y) :: st) μ) : Wm g mi R Q nc ns pc ls (.long y :: .long x :: st) μ := fun p e s m args below meth c C H locs L hR hS hl =>
  lv_ladd C.1 C.2.1 hd (k p e s m args below meth c C H locs L hR hS hl)
theorem am_lsub {x y : Int64} (hd : decode (miC mi) pc = .ok (.lsub, 1)) (k : Wm g mi R Q nc ns (pc + 1) ls (.long (x - y) :: st) μ) : Wm g mi R Q nc ns pc ls (.long y :: .long x :: st) μ := fun p e s m args below meth c C H locs L hR hS hl =>
  lv_lsub C.1 C.2.1 hd (k p e s m args below meth c C H locs L hR hS hl)
theorem am_land {x y : Int64} (hd : decode (miC mi) pc = .ok (.land, 1)) (k : Wm g mi R Q nc ns (pc + 1) ls (.long (x &&& y) :: st) μ) : Wm g mi R Q nc ns pc ls (.long y :: .long x :: st) μ := fun p e s m args below meth c C H locs L hR hS hl =>
  lv_land C.1 C.2.1 hd (k p e s m args below meth c C H locs L hR hS hl)
theorem am_lor {x y : Int64} (hd : decode (miC mi) pc = .ok (.lor, 1)) (k : Wm g mi R Q nc ns (pc + 1) ls (.long (x ||| y) :: st) μ) : Wm g mi R Q nc ns pc ls (.long y :: .long x :: st) μ := fun p e s m args below meth c C H locs L hR hS hl =>
  lv_lor C.1 C.2.1 hd (k p e s m args below meth c C H locs L hR hS hl)
theorem am_lxor {x y : Int64} (hd : decode (miC mi) pc = .ok (.lxor, 1)) (k : Wm g mi R Q nc ns (pc + 1) ls (.long (x ^^^ y) :: st) μ) : Wm g mi R Q nc ns pc ls (.long y :: .long x :: st) μ := fun p e s m args below meth c C H locs L hR hS hl =>
  lv_lxor C.1 C.2.1 hd (k p e s m args below meth c C H locs L hR hS hl)
def lush (x : Int64) (y : Int32) : Int64 := (x.toUInt64 >>> (y.toInt64.toUInt64 &&& Int64.toUInt64 63)).toInt64
theorem am_lushr {x : Int64} {y : Int32} (hd : decode (miC mi) pc = .ok (.lushr, 1)) (k : Wm g mi R Q nc ns (pc + 1) ls (.long (lush x y) :: st) μ) : Wm g mi R Q nc ns pc ls (.int y :: .long x :: st) μ := fun p e s m args below meth c C H locs L hR hS hl =>
  lv_lushr C.1 C.2.1 hd rfl (k p e s m args below meth c C H locs L hR hS hl)
theorem am_lshl {x : Int64} {y : Int32} (hd : decode (miC mi) pc = .ok (.lshl, 1)) (k : Wm g mi R Q nc ns (pc + 1) ls (.long (x <<< (y.toInt64 &&& 63)) :: st) μ) : Wm g mi R Q nc ns pc ls (.int y :: .long x :: st) μ := fun p e s m args below meth c C H locs L hR hS hl =>
  lv_lshl C.1 C.2.1 hd rfl (k p e s m args below meth c C H locs L hR hS hl)
theorem am_lshr {x : Int64} {y : Int32} (hd : decode (miC mi) pc = .ok (.lshr, 1)) (k : Wm g mi R Q nc ns (pc + 1) ls (.long (x >>> (y.toInt64 &&& 63)) :: st) μ) : Wm g mi R Q nc ns pc ls (.int y :: .long x :: st) μ := fun p e s m args below meth c C H locs L hR hS hl =>
  lv_lshr C.1 C.2.1 hd rfl (k p e s m args below meth c C H locs L hR hS hl)
theorem am_lcmp {x y : Int64} (hd : decode (miC mi) pc = .ok (.lcmp, 1)) (k : Wm g mi R Q nc ns (pc + 1) ls (.int (lg_cmp x y) :: st) μ) : Wm g mi R Q nc ns pc ls (.long y :: .long x :: st) μ := fun p e s m args below meth c C H locs L hR hS hl =>
  W.lcmp C.1 C.2.1 hd (k p e s m args below meth c C H locs L hR hS hl)
theorem am_i2l {x : Int32} (hd : decode (miC mi) pc = .ok (.i2l, 1)) (k : Wm g mi R Q nc ns (pc + 1) ls (.long x.toInt64 :: st) μ) : Wm g mi R Q nc ns pc ls (.int x :: st) μ := fun p e s m args below meth c C H locs L hR hS hl =>
  lv_i2l C.1 C.2.1 hd rfl (k p e s m args below meth c C H locs L hR hS hl)
theorem am_l2i {x : Int64} (hd : decode (miC mi) pc = .ok (.l2i, 1)) (k : Wm g mi R Q nc ns (pc + 1) ls (.int x.toInt32 :: st) μ) : Wm g mi R Q nc ns pc ls (.long x :: st) μ := fun p e s m args below meth c C H locs L hR hS hl =>
  lv_l2i C.1 C.2.1 hd rfl (k p e s m args below meth c C H locs L hR hS hl)
theorem am_i2b {x : Int32} (hd : decode (miC mi) pc = .ok (.i2b, 1)) (k : Wm g mi R Q nc ns (pc + 1) ls (.int x.toInt8.toInt32 :: st) μ) : Wm g mi R Q nc ns pc ls (.int x :: st) μ := fun p e s m args below meth c C H locs L hR hS hl =>
  lv_i2b C.1 C.2.1 hd rfl (k p e s m args below meth c C H locs L hR hS hl)
theorem am_iconst {n : Int} (hd : decode (miC mi) pc = .ok (.iconst n, 1)) (k : Wm g mi R Q nc ns (pc + 1) ls (.int (iv n) :: st) μ) : Wm g mi R Q nc ns pc ls st μ := fun p e s m args below meth c C H locs L hR hS hl =>
  lv_iconst C.1 C.2.1 hd (iv_ofInt n) (k p e s m args below meth c C H locs L hR hS hl)
theorem am_bipush {n : Int} (hn : (Int8.ofInt n).toInt32 = iv n) (hd : decode (miC mi) pc = .ok (.bipush n, 2)) (k : Wm g mi R Q nc ns (pc + 2) ls (.int (iv n) :: st) μ) : Wm g mi R Q nc ns pc ls st μ := fun p e s m args below meth c C H locs L hR hS hl =>
  lv_bipush C.1 C.2.1 hd hn (k p e s m args below meth c C H locs L hR hS hl)
theorem am_sipush {n : Int} (hn : (Int16.ofInt n).toInt32 = iv n) (hd : decode (miC mi) pc = .ok (.sipush n, 3)) (k : Wm g mi R Q nc ns (pc + 3) ls (.int (iv n) :: st) μ) : Wm g mi R Q nc ns pc ls st μ := fun p e s m args below meth c C H locs L hR hS hl =>
  lv_sipush C.1 C.2.1 hd hn (k p e s m args below meth c C H locs L hR hS hl)
theorem am_iload_n {n : Fin 4} {x : Int32} (hx : lk ls n = some (.int x)) (hd : decode (miC mi) pc = .ok (.iload_n n, 1)) (k : Wm g mi R Q nc ns (pc + 1) ls (.int x :: st) μ) : Wm g mi R Q nc ns pc ls st μ := fun p e s m args below meth c C H locs L hR hS hl =>
  lv_iload_n C.1 C.2.1 hd rfl (lk_at hl hx) (k p e s m args below meth c C H locs L hR hS hl)
theorem am_iload {n : Nat} {x : Int32} (hx : lk ls n = some (.int x)) (hd : decode (miC mi) pc = .ok (.iload n, 2)) (k : Wm g mi R Q nc ns (pc + 2) ls (.int x :: st) μ) : Wm g mi R Q nc ns pc ls st μ := fun p e s m args below meth c C H locs L hR hS hl =>
  lv_iload C.1 C.2.1 hd (lk_at hl hx) (k p e s m args below meth c C H locs L hR hS hl)
theorem am_istore_n {n : Fin 4} {x : Int32} (hn : (n : Nat) < miN mi) (hd : decode (miC mi) pc = .ok (.istore_n n, 1)) (k : Wm g mi R Q nc ns (pc + 1) (lput ls n (.int x)) st μ) : Wm g mi R Q nc ns pc ls (.int x :: st) μ := fun p e s m args below meth c C H locs L hR hS hl =>
  lv_istore_n C.1 C.2.1 hd rfl hl hn rfl fun L' hl' => k p e s m args below meth c C H locs L' hR hS (lv_weak hl' (lput_sub1 rfl))
theorem am_istore {n : Nat} {x : Int32} (hn : (n : Nat) < miN mi) (hd : decode (miC mi) pc = .ok (.istore n, 2)) (k : Wm g mi R Q nc ns (pc + 2) (lput ls n (.int x)) st μ) : Wm g mi R Q nc ns pc ls (.int x :: st) μ := fun p e s m args below meth c C H locs L hR hS hl =>
  lv_istore C.1 C.2.1 hd hl hn rfl fun L' hl' => k p e s m args below meth c C H locs L' hR hS (lv_weak hl' (lput_sub1 rfl))
theorem am_lload_n {n : Fin 4} {x : Int64} (hx : lk ls n = some (.long x)) (hd : decode (miC mi) pc = .ok (.lload_n n, 1)) (k : Wm g mi R Q nc ns (pc + 1) ls (.long x :: st) μ) : Wm g mi R Q nc ns pc ls st μ := fun p e s m args below meth c C H locs L hR hS hl =>
  lv_lload_n C.1 C.2.1 hd rfl (lk_at hl hx) (k p e s m args below meth c C H locs L hR hS hl)
theorem am_lload {n : Nat} {x : Int64} (hx : lk ls n = some (.long x)) (hd : decode (miC mi) pc = .ok (.lload n, 2)) (k : Wm g mi R Q nc ns (pc + 2) ls (.long x :: st) μ) : Wm g mi R Q nc ns pc ls st μ := fun p e s m args below meth c C H locs L hR hS hl =>
  lv_lload C.1 C.2.1 hd (lk_at hl hx) (k p e s m args below meth c C H locs L hR hS hl)
theorem am_lstore_n {n : Fin 4} {x : Int64} (hn : (n : Nat) + 1 < miN mi) (hd : decode (miC mi) pc = .ok (.lstore_n n, 1)) (k : Wm g mi R Q nc ns (pc + 1) (lput ls n (.long x)) st μ) : Wm g mi R Q nc ns pc ls (.long x :: st) μ := fun p e s m args below meth c C H locs L hR hS hl =>
  lv_lstore_n C.1 C.2.1 hd rfl hl hn rfl fun L' hl' => k p e s m args below meth c C H locs L' hR hS (lv_weak hl' (lput_sub2 rfl))
theorem am_lstore {n : Nat} {x : Int64} (hn : (n : Nat) + 1 < miN mi) (hd : decode (miC mi) pc = .ok (.lstore n, 2)) (k : Wm g mi R Q nc ns (pc + 2) (lput ls n (.long x)) st μ) : Wm g mi R Q nc ns pc ls (.long x :: st) μ := fun p e s m args below meth c C H locs L hR hS hl =>
  lv_lstore C.1 C.2.1 hd hl hn rfl fun L' hl' => k p e s m args below meth c C H locs L' hR hS (lv_weak hl' (lput_sub2 rfl))
theorem am_aload_n {n : Fin 4} {a : Nat} (hx : lk ls n = some (.ref a)) (hd : decode (miC mi) pc = .ok (.aload_n n, 1)) (k : Wm g mi R Q nc ns (pc + 1) ls (.ref a :: st) μ) : Wm g mi R Q nc ns pc ls st μ := fun p e s m args below meth c C H locs L hR hS hl =>
  lv_aload_n C.1 C.2.1 hd rfl (lk_at hl hx) (k p e s m args below meth c C H locs L hR hS hl)
theorem am_aload {n : Nat} {a : Nat} (hx : lk ls n = some (.ref a)) (hd : decode (miC mi) pc = .ok (.aload n, 2)) (k : Wm g mi R Q nc ns (pc + 2) ls (.ref a :: st) μ) : Wm g mi R Q nc ns pc ls st μ := fun p e s m args below meth c C H locs L hR hS hl =>
  lv_aload C.1 C.2.1 hd (lk_at hl hx) (k p e s m args below meth c C H locs L hR hS hl)
theorem am_astore_n {n : Fin 4} {a : Nat} (hn : (n : Nat) < miN mi) (hd : decode (miC mi) pc = .ok (.astore_n n, 1)) (k : Wm g mi R Q nc ns (pc + 1) (lput ls n (.ref a)) st μ) : Wm g mi R Q nc ns pc ls (.ref a :: st) μ := fun p e s m args below meth c C H locs L hR hS hl =>
  lv_astore_n C.1 C.2.1 hd rfl hl hn rfl fun L' hl' => k p e s m args below meth c C H locs L' hR hS (lv_weak hl' (lput_sub1 rfl))
theorem am_astore {n : Nat} {a : Nat} (hn : (n : Nat) < miN mi) (hd : decode (miC mi) pc = .ok (.astore n, 2)) (k : Wm g mi R Q nc ns (pc + 2) (lput ls n (.ref a)) st μ) : Wm g mi R Q nc ns pc ls (.ref a :: st) μ := fun p e s m args below meth c C H locs L hR hS hl =>
  lv_astore C.1 C.2.1 hd hl hn rfl fun L' hl' => k p e s m args below meth c C H locs L' hR hS (lv_weak hl' (lput_sub1 rfl))
theorem am_iinc {i : Nat} {n : Int} {x : Int32} (hn : i < miN mi) (hx : lk ls i = some (.int x)) (hd : decode (miC mi) pc = .ok (.iinc i n, 3)) (k : Wm g mi R Q nc ns (pc + 3) (lput ls i (.int (x + iv n))) st μ) : Wm g mi R Q nc ns pc ls st μ := by
  intro p e s m args below meth c C H locs L hR hS hl
  obtain ⟨q, hq⟩ := List.getElem?_of_mem (List.mem_map.mpr ⟨(i, .int x), lk_mem hx, rfl⟩ : (i, tv g (.int x)) ∈ tl g ls)
  exact lv_iinc C.1 C.2.1 hd hl hq (by rw [iv_ofInt]) hn rfl fun L' hl' => k p e s m args below meth c C H locs L' hR hS (lv_weak hl' (lput_sub1 rfl))
theorem am_dup {v : Value} (hv : v.category = 1) (hd : decode (miC mi) pc = .ok (.dup, 1)) (k : Wm g mi R Q nc ns (pc + 1) ls (v :: v :: st) μ) : Wm g mi R Q nc ns pc ls (v :: st) μ := fun p e s m args below meth c C H locs L hR hS hl =>
  lv_dup C.1 C.2.1 hd ((tv_cat g v).trans hv) (k p e s m args below meth c C H locs L hR hS hl)
theorem am_pop {v : Value} (hv : v.category = 1) (hd : decode (miC mi) pc = .ok (.pop, 1)) (k : Wm g mi R Q nc ns (pc + 1) ls st μ) : Wm g mi R Q nc ns pc ls (v :: st) μ := fun p e s m args below meth c C H locs L hR hS hl =>
  lv_pop C.1 C.2.1 hd ((tv_cat g v).trans hv) (k p e s m args below meth c C H locs L hR hS hl)
theorem am_dup2 {v w : Value} (hv : v.category = 1) (hw : w.category = 1) (hd : decode (miC mi) pc = .ok (.dup2, 1)) (k : Wm g mi R Q nc ns (pc + 1) ls (v :: w :: v :: w :: st) μ) : Wm g mi R Q nc ns pc ls (v :: w :: st) μ := fun p e s m args below meth c C H locs L hR hS hl =>
  lv_dup2_11 C.1 C.2.1 hd ((tv_cat g v).trans hv) ((tv_cat g w).trans hw) (k p e s m args below meth c C H locs L hR hS hl)
theorem jt_ok {pc : Nat} {off : Int} (h : 0 ≤ (pc : Int) + off) : (pc : Int) + off = ((jt pc off : Nat) : Int) := (Int.toNat_of_nonneg h).symm
theorem am_goto {off : Int} (ho : 0 ≤ (pc : Int) + off) (hd : decode (miC mi) pc = .ok (.goto off, 3)) (k : Wm g mi R Q nc ns (jt pc off) ls st μ) : Wm g mi R Q nc ns pc ls st μ := fun p e s m args below meth c C H locs L hR hS hl =>
  lv_goto C.1 C.2.1 hd (jt_ok ho) (k p e s m args below meth c C H locs L hR hS hl)
theorem am_if_eq {off : Int} {x : Int32} (ho : 0 ≤ (pc : Int) + off) (hd : decode (miC mi) pc = .ok (.ifCond .eq off, 3)) (k : (x = 0 → Wm g mi R Q nc ns (jt pc off) ls st μ) ∧ (¬ x = 0 → Wm g mi R Q nc ns (pc + 3) ls st μ)) : Wm g mi R Q nc ns pc ls (.int x :: st) μ := fun p e s m args below meth c C H locs L hR hS hl =>
  lv_if_eq C.1 C.2.1 hd (jt_ok ho) (fun h => k.1 h p e s m args below meth c C H locs L hR hS hl) (fun h => k.2 h p e s m args below meth c C H locs L hR hS hl)
theorem am_icmp_eq {off : Int} {x y : Int32} (ho : 0 ≤ (pc : Int) + off) (hd : decode (miC mi) pc = .ok (.if_icmp .eq off, 3)) (k : (x = y → Wm g mi R Q nc ns (jt pc off) ls st μ) ∧ (¬ x = y → Wm g mi R Q nc ns (pc + 3) ls st μ)) : Wm g mi R Q nc ns pc ls (.int y :: .int x :: st) μ := fun p e s m args below meth c C H locs L hR hS hl =>
  lv_icmp_eq C.1 C.2.1 hd (jt_ok ho) (fun h => k.1 h p e s m args below meth c C H locs L hR hS hl) (fun h => k.2 h p e s m args below meth c C H locs L hR hS hl)
theorem am_if_ne {off : Int} {x : Int32} (ho : 0 ≤ (pc : Int) + off) (hd : decode (miC mi) pc = .ok (.ifCond .ne off, 3)) (k : (¬ x = 0 → Wm g mi R Q nc ns (jt pc off) ls st μ) ∧ (x = 0 → Wm g mi R Q nc ns (pc + 3) ls st μ)) : Wm g mi R Q nc ns pc ls (.int x :: st) μ := fun p e s m args below meth c C H locs L hR hS hl =>
  lv_if_ne C.1 C.2.1 hd (jt_ok ho) (fun h => k.1 h p e s m args below meth c C H locs L hR hS hl) (fun h => k.2 h p e s m args below meth c C H locs L hR hS hl)
theorem am_icmp_ne {off : Int} {x y : Int32} (ho : 0 ≤ (pc : Int) + off) (hd : decode (miC mi) pc = .ok (.if_icmp .ne off, 3)) (k : (¬ x = y → Wm g mi R Q nc ns (jt pc off) ls st μ) ∧ (x = y → Wm g mi R Q nc ns (pc + 3) ls st μ)) : Wm g mi R Q nc ns pc ls (.int y :: .int x :: st) μ := fun p e s m args below meth c C H locs L hR hS hl =>
  lv_icmp_ne C.1 C.2.1 hd (jt_ok ho) (fun h => k.1 h p e s m args below meth c C H locs L hR hS hl) (fun h => k.2 h p e s m args below meth c C H locs L hR hS hl)
theorem am_if_lt {off : Int} {x : Int32} (ho : 0 ≤ (pc : Int) + off) (hd : decode (miC mi) pc = .ok (.ifCond .lt off, 3)) (k : (x < 0 → Wm g mi R Q nc ns (jt pc off) ls st μ) ∧ (¬ x < 0 → Wm g mi R Q nc ns (pc + 3) ls st μ)) : Wm g mi R Q nc ns pc ls (.int x :: st) μ := fun p e s m args below meth c C H locs L hR hS hl =>
  lv_if_lt C.1 C.2.1 hd (jt_ok ho) (fun h => k.1 h p e s m args below meth c C H locs L hR hS hl) (fun h => k.2 h p e s m args below meth c C H locs L hR hS hl)
theorem am_icmp_lt {off : Int} {x y : Int32} (ho : 0 ≤ (pc : Int) + off) (hd : decode (miC mi) pc = .ok (.if_icmp .lt off, 3)) (k : (x < y → Wm g mi R Q nc ns (jt pc off) ls st μ) ∧ (¬ x < y → Wm g mi R Q nc ns (pc + 3) ls st μ)) : Wm g mi R Q nc ns pc ls (.int y :: .int x :: st) μ := fun p e s m args below meth c C H locs L hR hS hl =>
  lv_icmp_lt C.1 C.2.1 hd (jt_ok ho) (fun h => k.1 h p e s m args below meth c C H locs L hR hS hl) (fun h => k.2 h p e s m args below meth c C H locs L hR hS hl)
theorem am_if_ge {off : Int} {x : Int32} (ho : 0 ≤ (pc : Int) + off) (hd : decode (miC mi) pc = .ok (.ifCond .ge off, 3)) (k : (0 ≤ x → Wm g mi R Q nc ns (jt pc off) ls st μ) ∧ (¬ 0 ≤ x → Wm g mi R Q nc ns (pc + 3) ls st μ)) : Wm g mi R Q nc ns pc ls (.int x :: st) μ := fun p e s m args below meth c C H locs L hR hS hl =>
  lv_if_ge C.1 C.2.1 hd (jt_ok ho) (fun h => k.1 h p e s m args below meth c C H locs L hR hS hl) (fun h => k.2 h p e s m args below meth c C H locs L hR hS hl)
theorem am_icmp_ge {off : Int} {x y : Int32} (ho : 0 ≤ (pc : Int) + off) (hd : decode (miC mi) pc = .ok (.if_icmp .ge off, 3)) (k : (y ≤ x → Wm g mi R Q nc ns (jt pc off) ls st μ) ∧ (¬ y ≤ x → Wm g mi R Q nc ns (pc + 3) ls st μ)) : Wm g mi R Q nc ns pc ls (.int y :: .int x :: st) μ := fun p e s m args below meth c C H locs L hR hS hl =>
  lv_icmp_ge C.1 C.2.1 hd (jt_ok ho) (fun h => k.1 h p e s m args below meth c C H locs L hR hS hl) (fun h => k.2 h p e s m args below meth c C H locs L hR hS hl)
theorem am_if_gt {off : Int} {x : Int32} (ho : 0 ≤ (pc : Int) + off) (hd : decode (miC mi) pc = .ok (.ifCond .gt off, 3)) (k : (0 < x → Wm g mi R Q nc ns (jt pc off) ls st μ) ∧ (¬ 0 < x → Wm g mi R Q nc ns (pc + 3) ls st μ)) : Wm g mi R Q nc ns pc ls (.int x :: st) μ := fun p e s m args below meth c C H locs L hR hS hl =>
  lv_if_gt C.1 C.2.1 hd (jt_ok ho) (fun h => k.1 h p e s m args below meth c C H locs L hR hS hl) (fun h => k.2 h p e s m args below meth c C H locs L hR hS hl)
theorem am_icmp_gt {off : Int} {x y : Int32} (ho : 0 ≤ (pc : Int) + off) (hd : decode (miC mi) pc = .ok (.if_icmp .gt off, 3)) (k : (y < x → Wm g mi R Q nc ns (jt pc off) ls st μ) ∧ (¬ y < x → Wm g mi R Q nc ns (pc + 3) ls st μ)) : Wm g mi R Q nc ns pc ls (.int y :: .int x :: st) μ := fun p e s m args below meth c C H locs L hR hS hl =>
  lv_icmp_gt C.1 C.2.1 hd (jt_ok ho) (fun h => k.1 h p e s m args below meth c C H locs L hR hS hl) (fun h => k.2 h p e s m args below meth c C H locs L hR hS hl)
theorem am_if_le {off : Int} {x : Int32} (ho : 0 ≤ (pc : Int) + off) (hd : decode (miC mi) pc = .ok (.ifCond .le off, 3)) (k : (x ≤ 0 → Wm g mi R Q nc ns (jt pc off) ls st μ) ∧ (¬ x ≤ 0 → Wm g mi R Q nc ns (pc + 3) ls st μ)) : Wm g mi R Q nc ns pc ls (.int x :: st) μ := fun p e s m args below meth c C H locs L hR hS hl =>
  lv_if_le C.1 C.2.1 hd (jt_ok ho) (fun h => k.1 h p e s m args below meth c C H locs L hR hS hl) (fun h => k.2 h p e s m args below meth c C H locs L hR hS hl)
theorem am_icmp_le {off : Int} {x y : Int32} (ho : 0 ≤ (pc : Int) + off) (hd : decode (miC mi) pc = .ok (.if_icmp .le off, 3)) (k : (x ≤ y → Wm g mi R Q nc ns (jt pc off) ls st μ) ∧ (¬ x ≤ y → Wm g mi R Q nc ns (pc + 3) ls st μ)) : Wm g mi R Q nc ns pc ls (.int y :: .int x :: st) μ := fun p e s m args below meth c C H locs L hR hS hl =>
  lv_icmp_le C.1 C.2.1 hd (jt_ok ho) (fun h => k.1 h p e s m args below meth c C H locs L hR hS hl) (fun h => k.2 h p e s m args below meth c C H locs L hR hS hl)
end AM3
end
section
/-! rows of the heap -/
theorem sh_n : ∀ k, k < NC → (sh k).1 < 100 → (cls[(sh k).1]?).map (fun r => r.2.2) = some (sh k).2 := by decide +kernel
theorem rt_lt : ∀ k, k < NC → ∀ j, j < 32 → (rt k j).all (fun r => decide (r < NC)) = true := by decide +kernel
theorem sh_small : ∀ k, k < NC → (sh k).1 < 100 → (sh k).2 ≤ 32 := by decide +kernel
/-- a field's value, references as ids -/
def rfv : Option Nat → Value
  | some r => .ref r
  | none => .null
def gF (μ : Mem) (k j t : Nat) : Value := match t with
  | 1 => .long (mL μ k j)
  | 4 => rfv (rt k j)
  | _ => .int (mI μ k j)
theorem wd_at {g : Gl} {μ : Mem} {k : Nat} (hk : k < NC) : (wd g μ)[k]? = some (ga g k, cE g μ k) := by simp [wd, hk]
theorem gr_lt {g : Gl} {k : Nat} (hk : k < NC) : gr g k = ga g k := if_pos (Nat.lt_trans hk (by decide))
theorem cE_obj {g : Gl} {μ : Mem} {k ci : Nat} (h : (sh k).1 = ci) (hc : ci < 100) : cE g μ k = .inr (ci, (List.range (sh k).2).map fun j => fv g μ k j (ftc ci j)) := by
  unfold cE; rw [if_pos (by rw [h]; exact hc), h]
theorem tv_gF {g : Gl} {μ : Mem} {k j t : Nat} (hk : k < NC) (hj : j < 32) : tv g (gF μ k j t) = fv g μ k j t := by
  unfold gF fv
  split
  · rfl
  · rw [if_neg (by decide), if_pos rfl]
    have := rt_lt k hk j hj
    cases h : rt k j with
    | none => rfl
    | some r =>
      rw [h] at this
      have hr : r < NC := by simpa using this
      show Value.ref (gr g r) = Value.ref (ga g r)
      rw [gr_lt hr]
  · rename_i h1 h2
    rw [if_neg h1, if_neg h2]; rfl
abbrev Fld : Type := Nat × Nat × Nat × Nat × Nat × Nat
/-- a field link of a class's pool: index, class, slot, kind (0 own, 1 a nest mate's, 2 inherited), the words' places -/
def flB (own : String) (q : Fld) : Bool := match cls[q.2.1]? with
  | none => false
  | some r => Nat.blt q.2.2.1 r.2.2 && (match q.2.2.2.1 with
    | 0 => tbAt (q.2.2.2.2.1, .fieldLink own q.1 (r.2.1 q.2.2.1).1 (r.2.1 q.2.2.1).2.1 (r.2.1 q.2.2.1).2.2.1)
    | 1 => nwAt (q.2.2.2.2.1, .fieldLinkNest own q.1 (r.2.1 q.2.2.1).1 (r.2.1 q.2.2.1).2.1 (r.2.1 q.2.2.1).2.2.1 "SaidOnce")
    | _ => tbAt (q.2.2.2.2.1, .fieldLink own q.1 own (r.2.1 q.2.2.1).2.1 (r.2.1 q.2.2.1).2.2.1) && tbAt (q.2.2.2.2.2, .sameField own (r.2.1 q.2.2.1).1 (r.2.1 q.2.2.1).2.1 (r.2.1 q.2.2.1).2.2.1))
section AM4
variable {g : Gl} {mi : MI} {R : Room} {Q : QT} {nc ns pc : Nat} {ls : List (Nat × Value)} {st : List Value} {μ : Mem}
theorem am_get {idx ci j kd p1 p2 k : Nat} (hq : flB (miY mi).cls (idx, ci, j, kd, p1, p2) = true) (hk : k < NC) (hc : (sh k).1 = ci) (hd : decode (miC mi) pc = .ok (.getfield idx, 3))
    (kk : Wm g mi R Q nc ns (pc + 3) ls (gF μ k j (ftc ci j) :: st) μ) : Wm g mi R Q nc ns pc ls (.ref k :: st) μ := by
  intro p e s m args below meth c C H locs L hR hS hl
  have k9 := kk p e s m args below meth c C H locs L hR hS hl
  obtain ⟨hx, hb, hml, hr, hlk, hown, hts, hex, hE⟩ := C
  unfold flB at hq
  cases hr0 : cls[ci]? with
  | none => simp only [hr0] at hq; cases hq
  | some r =>
    obtain ⟨Cn, T, N⟩ := r
    simp only [hr0, Bool.and_eq_true] at hq
    obtain ⟨hj, hq⟩ := hq
    have hj : j < N := Nat.le_of_ble_eq_true hj
    have hci : ci < 100 := Nat.lt_of_lt_of_le (List.getElem?_eq_some_iff.mp hr0).1 (by decide)
    have hn : (sh k).2 = N := by
      have := sh_n k hk (by rw [hc]; exact hci)
      rw [hc, hr0] at this
      exact (Option.some.inj this).symm
    have he : (wd g μ)[k]? = some (gr g k, .inr (ci, (List.range N).map fun j => fv g μ k j (ftc ci j))) := by
      rw [wd_at hk, gr_lt hk, cE_obj hc hci, hn]
    have hv : ((List.range N).map fun j => fv g μ k j (ftc ci j))[j]? = some (tv g (gF μ k j (ftc ci j))) := by
      rw [tv_gF hk (Nat.lt_of_lt_of_le hj (by rw [← hn]; exact sh_small k hk (by rw [hc]; exact hci)))]
      simp [hj]
    have hok := cls_ok hr0
    split at hq
    · exact va_get (ref := (T j).1) hx hb hts hok.1 hown hE.1 hR k he hr0 j hj (hts _ (tb_of hq)) (fun _ h => h) hv hd k9
    · exact va_getN (ref := (T j).1) hx hb hts hok.1 hown hE.1 hR k he hr0 j hj ((hE.2.1 _ (nw_of hq)).use rfl) (fun _ h => h) hv hd k9
    · simp only [Bool.and_eq_true] at hq
      exact va_get (ref := (miY mi).cls) hx hb hts hok.1 hown hE.1 hR k he hr0 j hj (hts _ (tb_of hq.1)) (fun x h => u_same (hts _ (tb_of hq.2)) x h) hv hd k9
end AM4
end
section
/-! writes -/
theorem wd_set {g : Gl} {μ μ' : Mem} {k : Nat} {e : va_E} (hk : k < NC) (he : cE g μ' k = e) (ho : ∀ i, i ≠ k → cE g μ' i = cE g μ i) : (wd g μ).set k (gr g k, e) = wd g μ' := by
  apply List.ext_getElem?
  intro i
  rw [List.getElem?_set]
  by_cases h : k = i
  · subst h
    rw [if_pos rfl, wd_at hk, gr_lt hk, he]
    simp [wd, hk]
  · rw [if_neg h]
    by_cases hi : i < NC
    · rw [wd_at hi, wd_at hi, ho i (fun q => h q.symm)]
    · simp [wd, hi]
theorem u2_row {α : Type} {f : Nat → Nat → α} {k j a : Nat} {v : α} (h : a ≠ k) : u2 f k j v a = f a := by funext b; simp [u2, h]
theorem u2_self {α : Type} {f : Nat → Nat → α} {k j b : Nat} {v : α} : u2 f k j v k b = if b = j then v else f k b := by simp [u2]
theorem cE_I {g : Gl} {μ : Mem} {k j i : Nat} {x : Int32} (h : i ≠ k) : cE g (sI μ k j x) i = cE g μ i := by
  have e1 : mI (sI μ k j x) i = mI μ i := u2_row h
  have e2 : mL (sI μ k j x) = mL μ := rfl
  have e3 : mP (sI μ k j x) = mP μ := rfl
  unfold cE fv; rw [e1, e2, e3]
theorem cE_L {g : Gl} {μ : Mem} {k j i : Nat} {x : Int64} (h : i ≠ k) : cE g (sL μ k j x) i = cE g μ i := by
  have e1 : mL (sL μ k j x) i = mL μ i := u2_row h
  have e2 : mI (sL μ k j x) = mI μ := rfl
  have e3 : mP (sL μ k j x) = mP μ := rfl
  unfold cE fv; rw [e1, e2, e3]
theorem cE_RI {g : Gl} {μ : Mem} {k i : Nat} {f : Nat → Int32} (h : i ≠ k) : cE g (sRI μ k f) i = cE g μ i := by
  have e1 : mI (sRI μ k f) i = mI μ i := by funext b; exact if_neg h
  have e2 : mL (sRI μ k f) = mL μ := rfl
  have e3 : mP (sRI μ k f) = mP μ := rfl
  unfold cE fv; rw [e1, e2, e3]
theorem cE_RL {g : Gl} {μ : Mem} {k i : Nat} {f : Nat → Int64} (h : i ≠ k) : cE g (sRL μ k f) i = cE g μ i := by
  have e1 : mL (sRL μ k f) i = mL μ i := by funext b; exact if_neg h
  have e2 : mI (sRL μ k f) = mI μ := rfl
  have e3 : mP (sRL μ k f) = mP μ := rfl
  unfold cE fv; rw [e1, e2, e3]
theorem D_wd {g : Gl} {μ : Mem} {s : State} (hE : EnvS g s) : va_D (gP g) (wd g μ) := by
  obtain ⟨-, -, -, -, -, -, -, -, -, -, h1, h2, -⟩ := hE
  have key : ∀ (k : Nat) (q : Nat × va_E), (wd g μ)[k]? = some q → k < NC ∧ q.1 = ga g k := by
    intro k q h
    have hk : k < NC := by have := (List.getElem?_eq_some_iff.mp h).1; simpa [wd] using this
    rw [wd_at hk] at h
    exact ⟨hk, by rw [← Option.some.inj h]⟩
  refine ⟨fun i j p q hp hq e => ?_, fun k q h => ?_⟩
  · obtain ⟨a1, a2⟩ := key i p hp
    obtain ⟨b1, b2⟩ := key j q hq
    exact h2 i j a1 b1 (by rw [← a2, ← b2, e])
  · obtain ⟨a1, a2⟩ := key k q h
    rw [a2]; exact h1 k a1
theorem ftc_ty : ∀ ci, ci < 12 → ∀ j, j < 32 → ∀ r, cls[ci]? = some r → j < r.2.2 → (ftc ci j = 0 ∧ cTy r.2.1 j = .int) ∨ (ftc ci j = 1 ∧ cTy r.2.1 j = .long) ∨ (ftc ci j = 3 ∧ cTy r.2.1 j = .boolean) ∨ ftc ci j = 4 := by
  intro ci hci
  match ci, hci with
  | 0, _ => intro j hj r hr; cases hr; revert j; decide +kernel
  | 1, _ => intro j hj r hr; cases hr; revert j; decide +kernel
  | 2, _ => intro j hj r hr; cases hr; revert j; decide +kernel
  | 3, _ => intro j hj r hr; cases hr; revert j; decide +kernel
  | 4, _ => intro j hj r hr; cases hr; revert j; decide +kernel
  | 5, _ => intro j hj r hr; cases hr; revert j; decide +kernel
  | 6, _ => intro j hj r hr; cases hr; revert j; decide +kernel
  | 7, _ => intro j hj r hr; cases hr; revert j; decide +kernel
  | 8, _ => intro j hj r hr; cases hr; revert j; decide +kernel
  | 9, _ => intro j hj r hr; cases hr; revert j; decide +kernel
  | 10, _ => intro j hj r hr; cases hr; revert j; decide +kernel
  | 11, _ => intro j hj r hr; cases hr; revert j; decide +kernel
  | n + 12, h => omega
/-- not final -/
def flW (q : Fld) : Bool := match cls[q.2.1]? with
  | none => false
  | some r => !(r.2.1 q.2.2.1).2.2.2
theorem set_map {α : Type} {f f' : Nat → α} {N j : Nat} {v : α} (hv : f' j = v) (ho : ∀ i, i ≠ j → f' i = f i) : ((List.range N).map f).set j v = (List.range N).map f' := by
  apply List.ext_getElem?
  intro i
  rw [List.getElem?_set]
  by_cases h : j = i
  · subst h
    by_cases hj : j < N
    · simp [hj, hv]
    · simp [hj]
  · rw [if_neg h]
    simp only [List.getElem?_map]
    by_cases hi : i < N
    · simp [hi, ho i (fun q => h q.symm)]
    · simp [hi]
section AM5
variable {g : Gl} {mi : MI} {R : Room} {Q : QT} {nc ns pc : Nat} {ls : List (Nat × Value)} {st : List Value} {μ : Mem}
theorem am_put {idx ci j kd p1 p2 k : Nat} {v : Value} {μ' : Mem} (hq : flB (miY mi).cls (idx, ci, j, kd, p1, p2) = true) (hw : flW (idx, ci, j, kd, p1, p2) = true) (hk : k < NC) (hc : (sh k).1 = ci)
    (hv : (∃ x, v = .int x ∧ μ' = sI μ k j x ∧ (ftc ci j = 0 ∨ ftc ci j = 3 ∧ (x = 0 ∨ x = 1))) ∨ ∃ x, v = .long x ∧ μ' = sL μ k j x ∧ ftc ci j = 1) (hd : decode (miC mi) pc = .ok (.putfield idx, 3))
    (kk : Wm g mi R Q nc ns (pc + 3) ls st μ') : Wm g mi R Q nc ns pc ls (v :: .ref k :: st) μ := by
  intro p e s m args below meth c C H locs L hR hS hl
  have k9 := kk p e s m args below meth c C
  obtain ⟨hx, hb, hml, hr, hlk, hown, hts, hex, hE⟩ := C
  unfold flB at hq
  unfold flW at hw
  cases hr0 : cls[ci]? with
  | none => simp only [hr0] at hq; cases hq
  | some r =>
    obtain ⟨Cn, T, N⟩ := r
    simp only [hr0, Bool.and_eq_true, Bool.not_eq_true'] at hq hw
    obtain ⟨hj, hq⟩ := hq
    have hj : j < N := Nat.le_of_ble_eq_true hj
    have hci12 : ci < 12 := (List.getElem?_eq_some_iff.mp hr0).1
    have hci : ci < 100 := Nat.lt_of_lt_of_le hci12 (by decide)
    have hn : (sh k).2 = N := by
      have := sh_n k hk (by rw [hc]; exact hci)
      rw [hc, hr0] at this
      exact (Option.some.inj this).symm
    have hj32 : j < 32 := Nat.lt_of_lt_of_le hj (by rw [← hn]; exact sh_small k hk (by rw [hc]; exact hci))
    have he : (wd g μ)[k]? = some (gr g k, .inr (ci, (List.range N).map fun j => fv g μ k j (ftc ci j))) := by
      rw [wd_at hk, gr_lt hk, cE_obj hc hci, hn]
    have hok := cls_ok hr0
    have hty := ftc_ty ci hci12 j hj32 _ hr0 hj
    have hD := D_wd (μ := μ) hE
    have hset : (wd g μ).set k (gr g k, .inr (ci, ((List.range N).map fun j => fv g μ k j (ftc ci j)).set j (tv g v))) = wd g μ' := by
      refine wd_set hk ?_ ?_
      · rw [cE_obj hc hci, hn]
        congr 2
        refine (set_map ?_ ?_).symm
        · rcases hv with ⟨x, rfl, rfl, h | ⟨h, -⟩⟩ | ⟨x, rfl, rfl, h⟩ <;> simp [fv, h, mI, mL, sI, sL, u2, tv]
        · intro i hi
          rcases hv with ⟨x, rfl, rfl, h⟩ | ⟨x, rfl, rfl, h⟩ <;> simp [fv, mI, mL, sI, sL, u2, hi]
      · intro i hi
        rcases hv with ⟨x, rfl, rfl, h⟩ | ⟨x, rfl, rfl, h⟩
        · exact cE_I hi
        · exact cE_L hi
    have hd9 : parseFieldDescriptor (T j).2.2.1 = some (cTy T j) := hok.2.1 j hj
    have hnf : narrow (cTy T j) (tv g v) = tv g v ∧ fits (cTy T j) (tv g v) = true := by
      rcases hv with ⟨x, rfl, -, h | ⟨h, h0⟩⟩ | ⟨x, rfl, -, h⟩
      · rcases hty with ⟨-, h2⟩ | ⟨h1, -⟩ | ⟨h1, -⟩ | h1
        · dsimp only at h2; rw [h2]; exact ⟨rfl, rfl⟩
        · rw [h] at h1; cases h1
        · rw [h] at h1; cases h1
        · rw [h] at h1; cases h1
      · rcases hty with ⟨h1, -⟩ | ⟨h1, -⟩ | ⟨-, h2⟩ | h1
        · rw [h] at h1; cases h1
        · rw [h] at h1; cases h1
        · dsimp only at h2; rw [h2]
          rcases h0 with rfl | rfl
          · exact (by decide +kernel : narrow .boolean (.int 0) = .int 0 ∧ fits .boolean (.int 0) = true)
          · exact (by decide +kernel : narrow .boolean (.int 1) = .int 1 ∧ fits .boolean (.int 1) = true)
        · rw [h] at h1; cases h1
      · rcases hty with ⟨h1, -⟩ | ⟨-, h2⟩ | ⟨h1, -⟩ | h1
        · rw [h] at h1; cases h1
        · dsimp only at h2; rw [h2]; exact ⟨rfl, rfl⟩
        · rw [h] at h1; cases h1
        · rw [h] at h1; cases h1
    have hlen : j < ((List.range N).map fun j => fv g μ k j (ftc ci j)).length := by simpa using hj
    have fin : ∀ (H1 : Heap) (locs1 : List Loc), va_P (gD g) cls ((wd g μ).set k (gr g k, .inr (ci, ((List.range N).map fun j => fv g μ k j (ftc ci j)).set j (tv g v)))) H1 → va_D (gP g) ((wd g μ).set k (gr g k, .inr (ci, ((List.range N).map fun j => fv g μ k j (ftc ci j)).set j (tv g v)))) → va_S (gP g) s.heap H1 locs1 → W p (gl g) e R s m args below meth c H1 locs1 nc ns (Q below args s) (F0 m (pc + 3) L (st.map (tv g))) := by
      intro H1 locs1 hP1 hD1 hS1
      rw [hset] at hP1
      exact k9 H1 locs1 L hP1 hS1 hl
    split at hq
    · exact va_put (ref := (T j).1) hx hb hts hok.1 (cTy T) hok.2.1 hok.2.2 hown hE.1 hR hD hS k he hr0 j hj (hts _ (tb_of hq)) (fun _ h => h) hw hd9 hnf.1 hnf.2 hlen hd fin
    · exact va_putN (ref := (T j).1) hx hb hts hok.1 (cTy T) hok.2.1 hok.2.2 hown hE.1 hR hD hS k he hr0 j hj ((hE.2.1 _ (nw_of hq)).use rfl) (fun _ h => h) hw hd9 hnf.1 hnf.2 hlen hd fin
    · simp only [Bool.and_eq_true] at hq
      exact va_put (ref := (miY mi).cls) hx hb hts hok.1 (cTy T) hok.2.1 hok.2.2 hown hE.1 hR hD hS k he hr0 j hj (hts _ (tb_of hq.1)) (fun x h => u_same (hts _ (tb_of hq.2)) x h) hw hd9 hnf.1 hnf.2 hlen hd fin
end AM5
end
section
/-! arrays -/
def nx (i : Int32) : Nat := i.toNatClampNeg
theorem cE_i {g : Gl} {μ : Mem} {k t : Nat} (h : (sh k).1 = 100 + t) (h1 : t ≠ 1) (h4 : t ≠ 4) : cE g μ k = .inl (gA g t, (sh k).2, .inl (mI μ k)) := by
  unfold cE; rw [h, if_neg (by omega), if_neg (by omega), if_neg (by omega), Nat.add_sub_cancel_left]
theorem cE_l {g : Gl} {μ : Mem} {k : Nat} (h : (sh k).1 = 101) : cE g μ k = .inl (gA g 1, (sh k).2, .inr (.inl (mL μ k))) := by
  unfold cE; rw [h, if_neg (by omega), if_pos rfl]
theorem cE_a {g : Gl} {μ : Mem} {k : Nat} (h : (sh k).1 = 104) : cE g μ k = .inl (gA g 4, (sh k).2, .inr (.inr (.inr (.inr fun i => some (ga g (mP μ i)))))) := by
  unfold cE; rw [h, if_neg (by omega), if_neg (by omega), if_pos rfl]
theorem past_only : ∀ k, k < NC → (sh k).1 = 104 → k = 91 := by decide +kernel
section AM6
variable {g : Gl} {mi : MI} {R : Room} {Q : QT} {nc ns pc : Nat} {ls : List (Nat × Value)} {st : List Value} {μ : Mem}
theorem am_iald {k : Nat} {i : Int32} (hk : k < NC) (hc : (sh k).1 = 100) (hi : vp_in i (sh k).2) (hd : decode (miC mi) pc = .ok (.iaload, 1)) (kk : Wm g mi R Q nc ns (pc + 1) ls (.int (mI μ k (nx i)) :: st) μ) : Wm g mi R Q nc ns pc ls (.int i :: .ref k :: st) μ := by
  intro p e s m args below meth c C H locs L hR hS hl
  exact va_iald C.1 C.2.1 C.2.2.2.2.2.2.2.2.1 hR k 0 (by rw [wd_at hk, cE_i (t := 0) hc (by decide) (by decide)]; rw [gr_lt hk]) rfl hi hd (kk p e s m args below meth c C H locs L hR hS hl)
theorem am_bald {k : Nat} {i : Int32} (hk : k < NC) (hc : (sh k).1 = 102) (hi : vp_in i (sh k).2) (hd : decode (miC mi) pc = .ok (.baload, 1)) (kk : Wm g mi R Q nc ns (pc + 1) ls (.int (mI μ k (nx i)) :: st) μ) : Wm g mi R Q nc ns pc ls (.int i :: .ref k :: st) μ := by
  intro p e s m args below meth c C H locs L hR hS hl
  exact va_bald C.1 C.2.1 C.2.2.2.2.2.2.2.2.1 hR k 2 (by rw [wd_at hk, cE_i (t := 2) hc (by decide) (by decide)]; rw [gr_lt hk]) rfl hi hd (kk p e s m args below meth c C H locs L hR hS hl)
theorem am_zald {k : Nat} {i : Int32} (hk : k < NC) (hc : (sh k).1 = 103) (hi : vp_in i (sh k).2) (hd : decode (miC mi) pc = .ok (.baload, 1)) (kk : Wm g mi R Q nc ns (pc + 1) ls (.int (mI μ k (nx i)) :: st) μ) : Wm g mi R Q nc ns pc ls (.int i :: .ref k :: st) μ := by
  intro p e s m args below meth c C H locs L hR hS hl
  exact va_zald C.1 C.2.1 C.2.2.2.2.2.2.2.2.1 hR k 3 (by rw [wd_at hk, cE_i (t := 3) hc (by decide) (by decide)]; rw [gr_lt hk]) rfl hi hd (kk p e s m args below meth c C H locs L hR hS hl)
theorem am_lald {k : Nat} {i : Int32} (hk : k < NC) (hc : (sh k).1 = 101) (hi : vp_in i (sh k).2) (hd : decode (miC mi) pc = .ok (.laload, 1)) (kk : Wm g mi R Q nc ns (pc + 1) ls (.long (mL μ k (nx i)) :: st) μ) : Wm g mi R Q nc ns pc ls (.int i :: .ref k :: st) μ := by
  intro p e s m args below meth c C H locs L hR hS hl
  exact va_lald C.1 C.2.1 C.2.2.2.2.2.2.2.2.1 hR k 1 (by rw [wd_at hk, cE_l hc]; rw [gr_lt hk]) rfl hi hd (kk p e s m args below meth c C H locs L hR hS hl)
theorem am_aald {k : Nat} {i : Int32} (hk : k < NC) (hc : (sh k).1 = 104) (hi : vp_in i (sh k).2) (hv : mP μ (nx i) < NC) (hd : decode (miC mi) pc = .ok (.aaload, 1)) (kk : Wm g mi R Q nc ns (pc + 1) ls (.ref (mP μ (nx i)) :: st) μ) : Wm g mi R Q nc ns pc ls (.int i :: .ref k :: st) μ := by
  intro p e s m args below meth c C H locs L hR hS hl
  have k9 := kk p e s m args below meth c C H locs L hR hS hl
  rw [List.map_cons, show tv g (.ref (mP μ (nx i))) = .ref (ga g (mP μ (nx i))) by rw [← gr_lt hv]; rfl] at k9
  have ha : (wd g μ)[k]? = some (gr g k, .inl (gA g 4, (sh k).2, .inr (.inr (.inr (.inr fun i => some (ga g (mP μ i))))))) := by rw [wd_at hk, cE_a hc, gr_lt hk]
  exact va_aldq C.1 C.2.1 C.2.2.2.2.2.2.2.2.1 hR k 4 ha rfl hi hd k9
theorem am_sald {i : Int32} (hi : vp_in i (gN g)) (hd : decode (miC mi) pc = .ok (.iaload, 1)) (kk : Wm g mi R Q nc ns (pc + 1) ls (.int (gX g (nx i)) :: st) μ) : Wm g mi R Q nc ns pc ls (.int i :: .ref 2000 :: st) μ := by
  intro p e s m args below meth c C H locs L hR hS hl
  obtain ⟨-, -, -, -, -, -, h7, -, h9, h10, -⟩ := C.2.2.2.2.2.2.2.2
  exact va_sld C.1 C.2.1 h9 (Nat.lt_of_lt_of_le h10 h7) (Nat.not_le.mpr h10) hS hi hd (kk p e s m args below meth c C H locs L hR hS hl)
theorem am_slen (hd : decode (miC mi) pc = .ok (.arraylength, 1)) (kk : Wm g mi R Q nc ns (pc + 1) ls (.int (nI (gN g)) :: st) μ) : Wm g mi R Q nc ns pc ls (.ref 2000 :: st) μ := by
  intro p e s m args below meth c C H locs L hR hS hl
  obtain ⟨-, -, -, -, -, -, h7, -, h9, h10, -⟩ := C.2.2.2.2.2.2.2.2
  exact va_slen C.1 C.2.1 h9 (Nat.lt_of_lt_of_le h10 h7) (Nat.not_le.mpr h10) hS hd (kk p e s m args below meth c C H locs L hR hS hl)
theorem am_len {k : Nat} (hk : k < NC) (hc : 100 ≤ (sh k).1) (hc5 : (sh k).1 < 105) (hd : decode (miC mi) pc = .ok (.arraylength, 1)) (kk : Wm g mi R Q nc ns (pc + 1) ls (.int (nI (sh k).2) :: st) μ) : Wm g mi R Q nc ns pc ls (.ref k :: st) μ := by
  intro p e s m args below meth c C H locs L hR hS hl
  have k9 := kk p e s m args below meth c C H locs L hR hS hl
  have hE := C.2.2.2.2.2.2.2.2
  obtain ⟨t, ht⟩ : ∃ t, (sh k).1 = 100 + t := ⟨(sh k).1 - 100, by omega⟩
  have ht5 : t < 5 := by omega
  match t, ht5, ht with
  | 0, _, ht => exact va_alen (x := ((sh k).2, .inl (mI μ k))) C.1 C.2.1 hE.1 hR k 0 (by rw [wd_at hk, cE_i (t := 0) ht (by decide) (by decide)]; rw [gr_lt hk]) rfl rfl hd k9
  | 1, _, ht => exact va_alen (x := ((sh k).2, .inr (.inl (mL μ k)))) C.1 C.2.1 hE.1 hR k 1 (by rw [wd_at hk, cE_l ht]; rw [gr_lt hk]) rfl rfl hd k9
  | 2, _, ht => exact va_alen (x := ((sh k).2, .inl (mI μ k))) C.1 C.2.1 hE.1 hR k 2 (by rw [wd_at hk, cE_i (t := 2) ht (by decide) (by decide)]; rw [gr_lt hk]) rfl rfl hd k9
  | 3, _, ht => exact va_alen (x := ((sh k).2, .inl (mI μ k))) C.1 C.2.1 hE.1 hR k 3 (by rw [wd_at hk, cE_i (t := 3) ht (by decide) (by decide)]; rw [gr_lt hk]) rfl rfl hd k9
  | 4, _, ht => exact va_alen (x := ((sh k).2, .inr (.inr (.inr (.inr fun i => some (ga g (mP μ i))))))) C.1 C.2.1 hE.1 hR k 4 (by rw [wd_at hk, cE_a ht]; rw [gr_lt hk]) rfl rfl hd k9
theorem cE_setI {μ : Mem} {k i t : Nat} {x : Int32} (hc : (sh k).1 = 100 + t) (h1 : t ≠ 1) (h4 : t ≠ 4) : cE g (sI μ k i x) k = .inl (gA g t, (sh k).2, .inl (upd (mI μ k) i x)) := by
  rw [cE_i hc h1 h4]
  have : mI (sI μ k i x) k = upd (mI μ k) i x := by funext b; exact u2_self
  rw [this]
theorem am_iast {k : Nat} {i x : Int32} (hk : k < NC) (hc : (sh k).1 = 100) (hi : vp_in i (sh k).2) (hd : decode (miC mi) pc = .ok (.iastore, 1)) (kk : Wm g mi R Q nc ns (pc + 1) ls st (sI μ k (nx i) x)) : Wm g mi R Q nc ns pc ls (.int x :: .int i :: .ref k :: st) μ := by
  intro p e s m args below meth c C H locs L hR hS hl
  have hE := C.2.2.2.2.2.2.2.2
  refine va_iast C.1 C.2.1 hE.1 hR (D_wd hE) hS k 0 (by rw [wd_at hk, cE_i (t := 0) hc (by decide) (by decide)]; rw [gr_lt hk]) rfl hi hd fun H1 locs1 hP1 hD1 hS1 => ?_
  rw [wd_set hk (cE_setI (t := 0) hc (by decide) (by decide)) (fun a ha => cE_I ha)] at hP1
  exact kk p e s m args below meth c C H1 locs1 L hP1 hS1 hl
theorem am_bast {k : Nat} {i x : Int32} (hk : k < NC) (hc : (sh k).1 = 102) (hi : vp_in i (sh k).2) (hd : decode (miC mi) pc = .ok (.bastore, 1)) (kk : Wm g mi R Q nc ns (pc + 1) ls st (sI μ k (nx i) x.toInt8.toInt32)) : Wm g mi R Q nc ns pc ls (.int x :: .int i :: .ref k :: st) μ := by
  intro p e s m args below meth c C H locs L hR hS hl
  have hE := C.2.2.2.2.2.2.2.2
  refine va_bast C.1 C.2.1 hE.1 hR (D_wd hE) hS k 2 (by rw [wd_at hk, cE_i (t := 2) hc (by decide) (by decide)]; rw [gr_lt hk]) rfl hi hd fun H1 locs1 hP1 hD1 hS1 => ?_
  rw [vp_nar_byte, wd_set hk (cE_setI (t := 2) hc (by decide) (by decide)) (fun a ha => cE_I ha)] at hP1
  exact kk p e s m args below meth c C H1 locs1 L hP1 hS1 hl
theorem am_zast {k : Nat} {i x : Int32} (hk : k < NC) (hc : (sh k).1 = 103) (hi : vp_in i (sh k).2) (hx : x = 0 ∨ x = 1) (hd : decode (miC mi) pc = .ok (.bastore, 1)) (kk : Wm g mi R Q nc ns (pc + 1) ls st (sI μ k (nx i) x)) : Wm g mi R Q nc ns pc ls (.int x :: .int i :: .ref k :: st) μ := by
  intro p e s m args below meth c C H locs L hR hS hl
  have hE := C.2.2.2.2.2.2.2.2
  have hz : vp_nar .boolean x = x := by rcases hx with rfl | rfl <;> decide +kernel
  refine va_zast C.1 C.2.1 hE.1 hR (D_wd hE) hS k 3 (by rw [wd_at hk, cE_i (t := 3) hc (by decide) (by decide)]; rw [gr_lt hk]) rfl hi hd fun H1 locs1 hP1 hD1 hS1 => ?_
  rw [hz, wd_set hk (cE_setI (t := 3) hc (by decide) (by decide)) (fun a ha => cE_I ha)] at hP1
  exact kk p e s m args below meth c C H1 locs1 L hP1 hS1 hl
theorem am_last {k : Nat} {i : Int32} {x : Int64} (hk : k < NC) (hc : (sh k).1 = 101) (hi : vp_in i (sh k).2) (hd : decode (miC mi) pc = .ok (.lastore, 1)) (kk : Wm g mi R Q nc ns (pc + 1) ls st (sL μ k (nx i) x)) : Wm g mi R Q nc ns pc ls (.long x :: .int i :: .ref k :: st) μ := by
  intro p e s m args below meth c C H locs L hR hS hl
  have hE := C.2.2.2.2.2.2.2.2
  refine va_last C.1 C.2.1 hE.1 hR (D_wd hE) hS k 1 (by rw [wd_at hk, cE_l hc]; rw [gr_lt hk]) rfl hi hd fun H1 locs1 hP1 hD1 hS1 => ?_
  rw [wd_set (μ' := sL μ k (nx i) x) hk ?_ (fun a ha => cE_L ha)] at hP1
  · exact kk p e s m args below meth c C H1 locs1 L hP1 hS1 hl
  · rw [cE_l hc]
    have : mL (sL μ k (nx i) x) k = vp_updL (mL μ k) (nx i) x := by funext b; exact u2_self
    rw [this]; rfl
theorem am_aast {k v : Nat} {i : Int32} (hk : k < NC) (hc : (sh k).1 = 104) (hi : vp_in i (sh k).2) (hv : v < NC) (hs : (sh v).1 = 8) (hd : decode (miC mi) pc = .ok (.aastore, 1)) (kk : Wm g mi R Q nc ns (pc + 1) ls st (sP μ (nx i) v)) : Wm g mi R Q nc ns pc ls (.ref v :: .int i :: .ref k :: st) μ := by
  intro p e s m args below meth c C H locs L hR hS hl
  have hE := C.2.2.2.2.2.2.2.2
  have hv1 : (wd g μ)[v]? = some (gr g v, .inr (8, (List.range (sh v).2).map fun j => fv g μ v j (ftc 8 j))) := by rw [wd_at hv, cE_obj hs (by decide), gr_lt hv]
  refine va_astq C.1 C.2.1 hE.1 hR (D_wd hE) hS k 4 v 8 (r := ("SaidOnce$State", cT8, 8)) (by rw [wd_at hk, cE_a hc]; rw [gr_lt hk]) rfl hv1 rfl hi hd fun H1 locs1 hP1 hD1 hS1 => ?_
  rw [wd_set (μ' := sP μ (nx i) v) hk ?_ ?_] at hP1
  · exact kk p e s m args below meth c C H1 locs1 L hP1 hS1 hl
  · rw [cE_a hc]
    have : (fun j => some (ga g (mP (sP μ (nx i) v) j))) = va_up (fun j => some (ga g (mP μ j))) (nx i) (some (gr g v)) := by
      funext b
      show some (ga g (va_up (mP μ) (nx i) v b)) = _
      unfold va_up
      by_cases h : b = nx i
      · rw [if_pos h, if_pos h, gr_lt hv]
      · rw [if_neg h, if_neg h]
    rw [this]; rfl
  · intro a ha
    have e1 : mI (sP μ (nx i) v) = mI μ := rfl
    have e2 : mL (sP μ (nx i) v) = mL μ := rfl
    by_cases h4 : (sh a).1 = 104
    · by_cases han : a < NC
      · exact absurd ((past_only a han h4).trans (past_only k hk hc).symm) ha
      · exfalso
        have h5 : sh a = (999, 0) ∨ a < 160 := by
          by_cases h : a < 160
          · exact Or.inr h
          · left
            have h10 : SH.length = 10 := by decide +kernel
            have : SH.getD (a / 16) [] = [] := by rw [List.getD_eq_getElem?_getD, List.getElem?_eq_none (by omega)]; rfl
            unfold sh; rw [this]; rfl
        rcases h5 with h5 | h5
        · rw [h5] at h4; cases h4
        · have : ∀ a, a < 160 → ¬ a < NC → (sh a).1 ≠ 104 := by decide +kernel
          exact this a h5 han h4
    · unfold cE fv; rw [e1, e2, if_neg h4, if_neg h4]
end AM6
end
section
/-! constants, switches, copies -/
theorem iv_toInt {n : Int} (h1 : -2147483648 ≤ n) (h2 : n < 2147483648) : (iv n).toInt = n := by
  rw [← iv_ofInt]; exact Int32.toInt_ofInt_of_le h1 h2
/-- a switch as a chain of questions -/
def tsw (x : Int32) (K : Int → Prop) (d : Int) : Int → List Int → Prop
  | _, [] => K d
  | lo, o :: os => (x = iv lo → K o) ∧ (¬ x = iv lo → tsw x K d (lo + 1) os)
theorem tsw_out {x : Int32} {K : Int → Prop} {d : Int} : ∀ (os : List Int) (lo : Int), -2147483648 ≤ lo → lo + os.length ≤ 2147483648 → tsw x K d lo os → (x.toInt < lo ∨ lo + os.length ≤ x.toInt) → K d := by
  intro os
  induction os with
  | nil => intro lo _ _ h _; exact h
  | cons o os ih =>
    intro lo h1 h2 h hx
    rw [List.length_cons] at h2 hx
    have hne : ¬ x = iv lo := fun e => by rw [e, iv_toInt h1 (by omega)] at hx; omega
    exact ih (lo + 1) (by omega) (by omega) (h.2 hne) (by omega)
theorem tsw_in {x : Int32} {K : Int → Prop} {d : Int} : ∀ (os : List Int) (lo : Int) (j : Nat) (o : Int), -2147483648 ≤ lo → lo + os.length ≤ 2147483648 → tsw x K d lo os → x.toInt = lo + j → os[j]? = some o → K o := by
  intro os
  induction os with
  | nil => intro lo j o _ _ _ _ ho; simp at ho
  | cons o' os ih =>
    intro lo j o h1 h2 h hx ho
    rw [List.length_cons] at h2
    cases j with
    | zero =>
      have e : x = iv lo := Int32.toInt_inj.mp (by rw [iv_toInt h1 (by omega)]; omega)
      simp only [List.getElem?_cons_zero, Option.some.injEq] at ho
      rw [← ho]; exact h.1 e
    | succ j =>
      have hne : ¬ x = iv lo := fun e => by rw [e, iv_toInt h1 (by omega)] at hx; omega
      exact ih (lo + 1) j o (by omega) (by omega) (h.2 hne) (by omega) (by simpa using ho)
theorem cE_cpI {g : Gl} {μ : Mem} {k t : Nat} {f : Nat → Int32} (hc : (sh k).1 = 100 + t) (h1 : t ≠ 1) (h4 : t ≠ 4) : cE g (sRI μ k f) k = .inl (gA g t, (sh k).2, .inl f) := by
  rw [cE_i hc h1 h4]
  have : mI (sRI μ k f) k = f := by funext b; exact if_pos rfl
  rw [this]
theorem cE_cpL {g : Gl} {μ : Mem} {k : Nat} {f : Nat → Int64} (hc : (sh k).1 = 101) : cE g (sRL μ k f) k = .inl (gA g 1, (sh k).2, .inr (.inl f)) := by
  rw [cE_l hc]
  have : mL (sRL μ k f) k = f := by funext b; exact if_pos rfl
  rw [this]
theorem acpW : nativeFrameWords "java/lang/System" "arraycopy" 5 + 11 ≤ 90 := by decide +kernel
def acpB (own : String) (q : Nat × Nat × Nat × Nat × Nat) : Bool := tbAt (q.2.1, .methodLink own q.1 arraycopyName) && tbAt (q.2.2.1, .native arraycopyName) && tbAt (q.2.2.2.1, .static arraycopyName) && tbAt (q.2.2.2.2, .initialized "java/lang/System")
def acpOK (sp dp n : Int32) (k0 k1 : Nat) : Prop := ¬ sp < 0 ∧ ¬ dp < 0 ∧ ¬ n < 0 ∧ nx sp + nx n ≤ (sh k0).2 ∧ nx dp + nx n ≤ (sh k1).2
section AM7
variable {g : Gl} {mi : MI} {R : Room} {Q : QT} {nc ns pc : Nat} {ls : List (Nat × Value)} {st : List Value} {μ : Mem}
theorem am_ldc {idx pl : Nat} {v : Int32} (hq : tbAt (pl, .constant (miY mi).cls idx v) = true) (hd : decode (miC mi) pc = .ok (.ldc idx, 2)) (k : Wm g mi R Q nc ns (pc + 2) ls (.int v :: st) μ) : Wm g mi R Q nc ns pc ls st μ := fun p e s m args below meth c C H locs L hR hS hl =>
  lv_ldc C.1 C.2.1 C.2.2.2.2.2.1 (C.2.2.2.2.2.2.1 _ (tb_of hq)) hd (k p e s m args below meth c C H locs L hR hS hl)
theorem am_ldcw {idx pl : Nat} {v : Int32} (hq : tbAt (pl, .constant (miY mi).cls idx v) = true) (hd : decode (miC mi) pc = .ok (.ldc_w idx, 3)) (k : Wm g mi R Q nc ns (pc + 3) ls (.int v :: st) μ) : Wm g mi R Q nc ns pc ls st μ := fun p e s m args below meth c C H locs L hR hS hl =>
  lv_ldcw C.1 C.2.1 C.2.2.2.2.2.1 (C.2.2.2.2.2.2.1 _ (tb_of hq)) hd (k p e s m args below meth c C H locs L hR hS hl)
theorem am_ldc2 {idx pl : Nat} {v : Int64} (hq : tbAt (pl, .constantLong (miY mi).cls idx v) = true) (hd : decode (miC mi) pc = .ok (.ldc2_w idx, 3)) (k : Wm g mi R Q nc ns (pc + 3) ls (.long v :: st) μ) : Wm g mi R Q nc ns pc ls st μ := fun p e s m args below meth c C H locs L hR hS hl =>
  lv_ldc2 C.1 C.2.1 C.2.2.2.2.2.1 (C.2.2.2.2.2.2.1 _ (tb_of hq)) hd (k p e s m args below meth c C H locs L hR hS hl)
def strB (own : String) (q : Nat × Nat) : Bool := Nat.blt q.2 61 && decide ((STR.getD q.2 ("", 0, "")).1 = own) && decide ((STR.getD q.2 ("", 0, "")).2.1 = q.1)
theorem am_ldcS {idx j : Nat} (hq : strB (miY mi).cls (idx, j) = true) (hd : decode (miC mi) pc = .ok (.ldc idx, 2)) (k : Wm g mi R Q nc ns (pc + 2) ls (.ref (1000 + j) :: st) μ) : Wm g mi R Q nc ns pc ls st μ := by
  intro p e s m args below meth c C H locs L hR hS hl
  have k9 := k p e s m args below meth c C H locs L hR hS hl
  simp only [strB, Bool.and_eq_true, decide_eq_true_eq] at hq
  obtain ⟨⟨h1, h2⟩, h3⟩ := hq
  have h1 : j < 61 := Nat.le_of_ble_eq_true h1
  have hs := (C.2.2.2.2.2.2.2.2.2.2.1 j h1).1
  rw [h2, h3] at hs
  have e1 : tv g (.ref (1000 + j)) = .ref (gs g j) := by
    show Value.ref (gr g (1000 + j)) = _
    unfold gr
    rw [if_neg (by omega), if_pos (by omega), Nat.add_sub_cancel_left]
  rw [List.map_cons, e1] at k9
  exact va_ldcS C.1 C.2.1 C.2.2.2.2.2.1 hs hd k9
theorem am_tsw {x : Int32} {d lo hi : Int} {offs : Array Int} {len : Nat} (h1 : -2147483648 ≤ lo) (h2 : hi < 2147483648) (h3 : lo + offs.toList.length = hi + 1) (h4 : 0 ≤ (pc : Int) + d) (h5 : ∀ o ∈ offs.toList, 0 ≤ (pc : Int) + o) (hd : decode (miC mi) pc = .ok (.tableswitch d lo hi offs, len))
    (k : tsw x (fun o => Wm g mi R Q nc ns (jt pc o) ls st μ) d lo offs.toList) : Wm g mi R Q nc ns pc ls (.int x :: st) μ := by
  intro p e s m args below meth c C H locs L hR hS hl
  by_cases hx : x.toInt < lo ∨ hi < x.toInt
  · exact lv_tableOut C.1 C.2.1 hd hx (jt_ok h4) (tsw_out _ _ h1 (by omega) k (by omega) p e s m args below meth c C H locs L hR hS hl)
  · have hx1 : ¬ x.toInt < lo := fun z => hx (Or.inl z)
    have hx2 : ¬ hi < x.toInt := fun z => hx (Or.inr z)
    obtain ⟨j, hj⟩ : ∃ j : Nat, x.toInt = lo + j := ⟨(x.toInt - lo).toNat, by omega⟩
    have hjl : j < offs.toList.length := by omega
    have ho : offs.toList[j]? = some offs.toList[j] := List.getElem?_eq_getElem hjl
    refine lv_tableIn C.1 C.2.1 hd hx1 hx2 (off := offs.toList[j]) ?_ (jt_ok (h5 _ (List.getElem_mem hjl))) (tsw_in _ _ j _ h1 (by omega) k hj ho p e s m args below meth c C H locs L hR hS hl)
    have : (x.toInt - lo).toNat = j := by omega
    rw [this, ← Array.getElem?_toList]; exact ho
theorem am_acpI {idx a1 a2 a3 a4 k0 k1 : Nat} {sp dp n : Int32} (hq : acpB (miY mi).cls (idx, a1, a2, a3, a4) = true) (hR1 : 1 ≤ R.frames) (hR2 : 90 ≤ R.locals) (hk0 : k0 < NC) (hk1 : k1 < NC) (hc0 : (sh k0).1 = 100) (hc1 : (sh k1).1 = 100) (hn : acpOK sp dp n k0 k1) (hd : decode (miC mi) pc = .ok (.invokestatic idx, 3))
    (kk : Wm g mi R Q nc ns (pc + 3) ls [] (sRI μ k1 (va_cpy (mI μ k0) (mI μ k1) (nx sp) (nx dp) (nx n)))) : Wm g mi R Q nc ns pc ls [.int n, .int dp, .ref k1, .int sp, .ref k0] μ := by
  intro p e s m args below meth c C H locs L hR hS hl
  have C' := C
  obtain ⟨hx, hb, hml, hr, hlk, hown, hts, hex, hE⟩ := C'
  simp only [acpB, Bool.and_eq_true] at hq
  obtain ⟨⟨⟨q1, q2⟩, q3⟩, q4⟩ := hq
  obtain ⟨n1, n2, n3, n4, n5⟩ := hn
  refine va_copyi hx hb (hml.trans hl.1.symm) hown (hts _ (tb_of q1)) (hts _ (tb_of q2)) (hts _ (tb_of q3)) (hts _ (tb_of q4)) hE.1 hR (D_wd hE) hS k0 k1 0 0 (ty := .int) (by rw [wd_at hk0, cE_i (t := 0) hc0 (by decide) (by decide)]; rw [gr_lt hk0]) (by rw [wd_at hk1, cE_i (t := 0) hc1 (by decide) (by decide)]; rw [gr_lt hk1]) rfl rfl rfl n1 n2 n3 n4 n5 (fun i _ => rfl) hR1 (Nat.le_trans (by simpa using acpW) hR2) hd fun H1 locs1 hP1 hD1 hS1 => ?_
  rw [wd_set hk1 (cE_cpI (t := 0) hc1 (by decide) (by decide)) (fun a ha => cE_RI ha)] at hP1
  exact kk p e s m args below meth c C H1 locs1 L hP1 hS1 hl
theorem am_acpZ {idx a1 a2 a3 a4 k0 k1 : Nat} {sp dp n : Int32} (hq : acpB (miY mi).cls (idx, a1, a2, a3, a4) = true) (hR1 : 1 ≤ R.frames) (hR2 : 90 ≤ R.locals) (hk0 : k0 < NC) (hk1 : k1 < NC) (hc0 : (sh k0).1 = 103) (hc1 : (sh k1).1 = 103) (hn : acpOK sp dp n k0 k1) (hz : ∀ i, i < nx n → mI μ k0 (nx sp + i) = 0 ∨ mI μ k0 (nx sp + i) = 1) (hd : decode (miC mi) pc = .ok (.invokestatic idx, 3))
    (kk : Wm g mi R Q nc ns (pc + 3) ls [] (sRI μ k1 (va_cpy (mI μ k0) (mI μ k1) (nx sp) (nx dp) (nx n)))) : Wm g mi R Q nc ns pc ls [.int n, .int dp, .ref k1, .int sp, .ref k0] μ := by
  intro p e s m args below meth c C H locs L hR hS hl
  have C' := C
  obtain ⟨hx, hb, hml, hr, hlk, hown, hts, hex, hE⟩ := C'
  simp only [acpB, Bool.and_eq_true] at hq
  obtain ⟨⟨⟨q1, q2⟩, q3⟩, q4⟩ := hq
  obtain ⟨n1, n2, n3, n4, n5⟩ := hn
  refine va_copyi hx hb (hml.trans hl.1.symm) hown (hts _ (tb_of q1)) (hts _ (tb_of q2)) (hts _ (tb_of q3)) (hts _ (tb_of q4)) hE.1 hR (D_wd hE) hS k0 k1 3 3 (ty := .boolean) (by rw [wd_at hk0, cE_i (t := 3) hc0 (by decide) (by decide)]; rw [gr_lt hk0]) (by rw [wd_at hk1, cE_i (t := 3) hc1 (by decide) (by decide)]; rw [gr_lt hk1]) rfl rfl rfl n1 n2 n3 n4 n5 (fun i hi => by rcases hz i hi with h | h <;> (unfold nx at h; rw [h]; decide +kernel)) hR1 (Nat.le_trans (by simpa using acpW) hR2) hd fun H1 locs1 hP1 hD1 hS1 => ?_
  rw [wd_set hk1 (cE_cpI (t := 3) hc1 (by decide) (by decide)) (fun a ha => cE_RI ha)] at hP1
  exact kk p e s m args below meth c C H1 locs1 L hP1 hS1 hl
theorem am_acpL {idx a1 a2 a3 a4 k0 k1 : Nat} {sp dp n : Int32} (hq : acpB (miY mi).cls (idx, a1, a2, a3, a4) = true) (hR1 : 1 ≤ R.frames) (hR2 : 90 ≤ R.locals) (hk0 : k0 < NC) (hk1 : k1 < NC) (hc0 : (sh k0).1 = 101) (hc1 : (sh k1).1 = 101) (hn : acpOK sp dp n k0 k1) (hd : decode (miC mi) pc = .ok (.invokestatic idx, 3))
    (kk : Wm g mi R Q nc ns (pc + 3) ls [] (sRL μ k1 (va_cpy (mL μ k0) (mL μ k1) (nx sp) (nx dp) (nx n)))) : Wm g mi R Q nc ns pc ls [.int n, .int dp, .ref k1, .int sp, .ref k0] μ := by
  intro p e s m args below meth c C H locs L hR hS hl
  have C' := C
  obtain ⟨hx, hb, hml, hr, hlk, hown, hts, hex, hE⟩ := C'
  simp only [acpB, Bool.and_eq_true] at hq
  obtain ⟨⟨⟨q1, q2⟩, q3⟩, q4⟩ := hq
  obtain ⟨n1, n2, n3, n4, n5⟩ := hn
  refine va_copyl hx hb (hml.trans hl.1.symm) hown (hts _ (tb_of q1)) (hts _ (tb_of q2)) (hts _ (tb_of q3)) (hts _ (tb_of q4)) hE.1 hR (D_wd hE) hS k0 k1 1 1 (ty := .long) (by rw [wd_at hk0, cE_l hc0]; rw [gr_lt hk0]) (by rw [wd_at hk1, cE_l hc1]; rw [gr_lt hk1]) rfl rfl rfl n1 n2 n3 n4 n5 (fun i _ => rfl) hR1 (Nat.le_trans (by simpa using acpW) hR2) hd fun H1 locs1 hP1 hD1 hS1 => ?_
  rw [wd_set hk1 (cE_cpL hc1) (fun a ha => cE_RL ha)] at hP1
  exact kk p e s m args below meth c C H1 locs1 L hP1 hS1 hl
/-- the bytes of a text -/
def sby (k : Nat) : List Int32 := SBY.getD (k - 1000) []
theorem gr_str {k : Nat} (h1 : 1000 ≤ k) (h2 : k < 1061) : gr g k = gs g (k - 1000) := by unfold gr; rw [if_neg (by omega), if_pos (by omega)]
theorem gr_byt {k : Nat} (h1 : 1000 ≤ k) (h2 : k < 1061) : gr g (k + 2000) = gv g (k - 1000) := by unfold gr; rw [if_neg (by omega), if_neg (by omega), if_neg (by omega), if_pos (by omega), show k + 2000 - 3000 = k - 1000 by omega]
theorem am_sval {idx pl k : Nat} (hq : tbAt (pl, .fieldLink (miY mi).cls idx "java/lang/String" "value" "[B") = true) (h1 : 1000 ≤ k) (h2 : k < 1061) (hd : decode (miC mi) pc = .ok (.getfield idx, 3)) (kk : Wm g mi R Q nc ns (pc + 3) ls (.ref (k + 2000) :: st) μ) : Wm g mi R Q nc ns pc ls (.ref k :: st) μ := by
  intro p e s m args below meth c C H locs L hR hS hl
  have k9 := kk p e s m args below meth c C H locs L hR hS hl
  obtain ⟨hx, hb, hml, hr, hlk, hown, hts, hex, hE⟩ := C
  obtain ⟨-, -, -, z, -⟩ := hE.2.2.1 (k - 1000) (by omega)
  rw [List.map_cons, show tv g (.ref (k + 2000)) = .ref (gv g (k - 1000)) by rw [← gr_byt h1 h2]; rfl] at k9
  rw [List.map_cons, show tv g (.ref k) = .ref (gs g (k - 1000)) by rw [← gr_str h1 h2]; rfl]
  exact vk_getf hx hb z hS hown (hts _ (tb_of hq)) (fun _ h => h) hd k9
theorem am_scod {idx pl k : Nat} (hq : tbAt (pl, .fieldLink (miY mi).cls idx "java/lang/String" "coder" "B") = true) (h1 : 1000 ≤ k) (h2 : k < 1061) (hd : decode (miC mi) pc = .ok (.getfield idx, 3)) (kk : Wm g mi R Q nc ns (pc + 3) ls (.int 0 :: st) μ) : Wm g mi R Q nc ns pc ls (.ref k :: st) μ := by
  intro p e s m args below meth c C H locs L hR hS hl
  have k9 := kk p e s m args below meth c C H locs L hR hS hl
  obtain ⟨hx, hb, hml, hr, hlk, hown, hts, hex, hE⟩ := C
  obtain ⟨-, -, z, -, -⟩ := hE.2.2.1 (k - 1000) (by omega)
  rw [List.map_cons, show tv g (.ref k) = .ref (gs g (k - 1000)) by rw [← gr_str h1 h2]; rfl]
  exact vk_getf hx hb z hS hown (hts _ (tb_of hq)) (fun _ h => h) hd k9
theorem am_slenB {k : Nat} (h1 : 1000 ≤ k) (h2 : k < 1061) (hd : decode (miC mi) pc = .ok (.arraylength, 1)) (kk : Wm g mi R Q nc ns (pc + 1) ls (.int (nI (sby k).length) :: st) μ) : Wm g mi R Q nc ns pc ls (.ref (k + 2000) :: st) μ := by
  intro p e s m args below meth c C H locs L hR hS hl
  have k9 := kk p e s m args below meth c C H locs L hR hS hl
  obtain ⟨hx, hb, hml, hr, hlk, hown, hts, hex, hE⟩ := C
  obtain ⟨-, -, -, -, z⟩ := hE.2.2.1 (k - 1000) (by omega)
  rw [List.map_cons, show tv g (.ref (k + 2000)) = .ref (gv g (k - 1000)) by rw [← gr_byt h1 h2]; rfl]
  exact va_tlen hx hb z hS rfl hd k9
theorem am_sbald {k : Nat} {i : Int32} (h1 : 1000 ≤ k) (h2 : k < 1061) (hi : vp_in i (sby k).length) (hd : decode (miC mi) pc = .ok (.baload, 1)) (kk : Wm g mi R Q nc ns (pc + 1) ls (.int ((sby k).getD (nx i) 0) :: st) μ) : Wm g mi R Q nc ns pc ls (.int i :: .ref (k + 2000) :: st) μ := by
  intro p e s m args below meth c C H locs L hR hS hl
  have k9 := kk p e s m args below meth c C H locs L hR hS hl
  obtain ⟨hx, hb, hml, hr, hlk, hown, hts, hex, hE⟩ := C
  obtain ⟨-, -, -, -, z⟩ := hE.2.2.1 (k - 1000) (by omega)
  rw [List.map_cons, List.map_cons, show tv g (.ref (k + 2000)) = .ref (gv g (k - 1000)) by rw [← gr_byt h1 h2]; rfl]
  exact va_tb hx hb z hS hi rfl hd k9
theorem am_gcs {idx pl : Nat} (hq : tbAt (pl, .fieldLink (miY mi).cls idx "java/lang/String" "COMPACT_STRINGS" "Z") = true) (hd : decode (miC mi) pc = .ok (.getstatic idx, 3)) (kk : Wm g mi R Q nc ns (pc + 3) ls (.int 1 :: st) μ) : Wm g mi R Q nc ns pc ls st μ := by
  intro p e s m args below meth c C H locs L hR hS hl
  have k9 := kk p e s m args below meth c C H locs L hR hS hl
  obtain ⟨hx, hb, hml, hr, hlk, hown, hts, hex, hE⟩ := C
  exact va_gets hx hb hE.2.2.2.2.2.1 hS hown (hts _ (tb_of hq)) (fun _ h => h) hd k9
theorem am_gsz {idx pl : Nat} (hq : tbAt (pl, .fieldLink (miY mi).cls idx "jdk/internal/util/Preconditions" "SIOOBE_FORMATTER" "Ljava/util/function/BiFunction;") = true) (hd : decode (miC mi) pc = .ok (.getstatic idx, 3)) (kk : Wm g mi R Q nc ns (pc + 3) ls (szv g :: st) μ) : Wm g mi R Q nc ns pc ls st μ := by
  intro p e s m args below meth c C H locs L hR hS hl
  have k9 := kk p e s m args below meth c C H locs L hR hS hl
  obtain ⟨hx, hb, hml, hr, hlk, hown, hts, hex, hE⟩ := C
  rw [List.map_cons, tv_szv] at k9
  exact va_gets hx hb hE.2.2.2.2.2.2.2.2.2.2.2.2.2 hS hown (hts _ (tb_of hq)) (fun _ h => h) hd k9
theorem am_i2c {x : Int32} (hd : decode (miC mi) pc = .ok (.i2c, 1)) (kk : Wm g mi R Q nc ns (pc + 1) ls (.int (x.toUInt32 % 65536).toInt32 :: st) μ) : Wm g mi R Q nc ns pc ls (.int x :: st) μ := fun p e s m args below meth c C H locs L hR hS hl =>
  lv_i2c C.1 C.2.1 hd rfl (kk p e s m args below meth c C H locs L hR hS hl)
end AM7
end
section
/-! contracts and calls -/
def codeW (mi : MI) : Cond := match miH mi with
  | [] => .code (miY mi) (miC mi) (miN mi) (miT mi)
  | h :: t => .codeWith (miY mi) (miC mi) (miN mi) (miT mi) (h :: t)
def wsOf (mi : MI) : List Cond := codeW mi :: TB
def miB (mi : MI) (pl n : Nat) : Bool := tbAt (pl, codeW mi) && plainName (miY mi).cls && decide ((miY mi).cls ≠ "java/lang/invoke/MethodHandle") && decide ((miY mi).cls ≠ "java/lang/invoke/VarHandle") && decide ((parseMethodDescriptor (miY mi).desc).map (fun d => d.parameters.length) = some n) && Nat.ble (miN mi) 40
def MOK (mi : MI) (n : Nat) : Prop := codeW mi ∈ TB ∧ plainName (miY mi).cls = true ∧ ((miY mi).cls ≠ "java/lang/invoke/MethodHandle" ∧ (miY mi).cls ≠ "java/lang/invoke/VarHandle" ∧ (parseMethodDescriptor (miY mi).desc).map (fun d => d.parameters.length) = some n) ∧ miN mi ≤ 40
theorem miB_ok {mi : MI} {pl n : Nat} (h : miB mi pl n = true) : MOK mi n := by
  simp only [miB, Bool.and_eq_true, decide_eq_true_eq] at h
  obtain ⟨⟨⟨⟨⟨h1, h2⟩, h3⟩, h4⟩, h5⟩, h6⟩ := h
  exact ⟨tb_of h1, h2, ⟨h3, h4, h5⟩, Nat.le_of_ble_eq_true h6⟩
theorem good_ws {mi : MI} (h : codeW mi ∈ TB) : GoodIn TB (wsOf mi) := by
  have key : ∀ w ∈ TB, w ∈ TB ∧ ((w.onTables && w.keeps) = true ∨ ∃ ty, w = .arrayClass ty) := fun w hw => ⟨hw, good_of_word (List.mem_filter.mp hw).2⟩
  intro w hw
  rcases List.mem_cons.mp hw with rfl | hw
  · exact key _ h
  · exact key _ hw
def Qr (g : Gl) (Φ : Out → Mem → Prop) : Array Value → State → Outcome → State → Prop := fun _ st o t => (∃ (v : Option Value) (μ' : Mem), o = .returned v ∧ Φ (.inl v) μ' ∧ Rep g μ' t.heap) ∧ va_F (gP g) st t
def Qx (g : Gl) (Φ : Out → Mem → Prop) : String → State → State → Prop := fun E st t => (∃ (e : Nat) (μ' : Mem), e < 5 ∧ E = EN e ∧ Φ (.inr e) μ' ∧ Rep g μ' t.heap) ∧ va_F (gP g) st t
def QM (g : Gl) (mi : MI) (Φ : Out → Mem → Prop) : QT := fun below args s => vx_MQ below (Qr g Φ) (Qx g Φ) args s (miK mi) (miS mi) (gP g)
def PcM (g : Gl) (args : List Value) (μ : Mem) : Array Value → State → Prop := va_Pc (args.map (tv g)) fun U => Rep g μ U.heap ∧ EnvS g U
/-- a call of the method with these arguments at this memory ends, with Φ -/
def Spec (g : Gl) (mi : MI) (dx : Nat) (args : List Value) (μ : Mem) (Φ : Out → Mem → Prop) : Prop :=
  vx_Met (gl g) (miY mi) (wsOf mi) (rm mi dx) (PcM g args μ) (Qr g Φ) (Qx g Φ) (miK mi) (miS mi) (gP g)
theorem tl_args (g : Gl) (vs : List Value) : ∀ i, tl g (lv_args i vs) = lv_args i (vs.map (tv g)) := by
  induction vs with
  | nil => intro i; rfl
  | cons v vs ih =>
    intro i
    show (i, tv g v) :: tl g (lv_args _ vs) = (i, tv g v) :: lv_args _ _
    rw [ih, tv_cat]
theorem sl_len (g : Gl) (vs : List Value) : (lg_sl (vs.map (tv g))).length = (lg_sl vs).length := by
  induction vs with
  | nil => rfl
  | cons v vs ih =>
    have e : ∀ (w : Value) (ws : List Value), (lg_sl (w :: ws)).length = w.category + (lg_sl ws).length := by
      intro w ws
      show ((if w.category = 2 then [Slot.val w, Slot.second] else [Slot.val w]) ++ lg_sl ws).length = _
      rw [List.length_append]
      rcases lv_cat w with h | h <;> simp [h]
    rw [List.map_cons, e, e, tv_cat, ih]
theorem Spec.intro {g : Gl} {mi : MI} {dx n : Nat} {args : List Value} {μ : Mem} {Φ : Out → Mem → Prop} (hM : MOK mi n) (hw : (lg_sl args).length ≤ miN mi)
    (k : Wm g mi (rm mi dx) (QM g mi Φ) 0 0 0 (lv_args 0 args) [] μ) : Spec g mi dx args μ Φ := by
  have fin : ∀ (p : Program) (e : Env) (s : State) (m : MethodId) (av : Array Value) (below : List Frame) (meth : Method) (c : Code) (s₁ : State), BodyLoose p (gl g) (miY mi) (headSpec (wsOf mi) (rm mi dx)) (miC mi) (miN mi) (miT mi) e s m av below meth c s₁ → c.maxLocals = miN mi → c.exceptionTable.toList = tableOf (miH mi) → PcM g args μ av s →
      W p (gl g) e (headSpec (wsOf mi) (rm mi dx)).room s m av below meth c s.heap [] 0 0 (vx_MQ below (Qr g Φ) (Qx g Φ) av s (miK mi) (miS mi) (gP g)) (entryFrame m av (miN mi)) := by
    intro p e s m av below meth c s₁ B hml hex hv
    obtain ⟨rfl, hR, hE⟩ := hv
    have hts : ∀ w ∈ wsOf mi, w.before (args.map (tv g)).toArray s = true := atoms_spec (ws := wsOf mi) B.pre
    have hl := lv_entry (args.map (tv g)) (n := miN mi) (by rw [sl_len]; exact hw)
    rw [lg_entry_eq]
    refine k p e s m _ below meth c ⟨B.exec, B.bytes, hml, B.returns, B.notSynchronized, findClass_of_methodNamed B.named, fun w h => hts w (List.mem_cons_of_mem _ h), hex, hE⟩ s.heap [] _ hR va_S.rf (by rw [tl_args]; exact hl)
  unfold Spec
  cases hH : miH mi with
  | nil =>
    refine vx_ofW (cc := miC mi) (maxL := miN mi) (ret := miT mi) hM.2.1 (ws' := TB) (by unfold wsOf codeW; rw [hH]) ?_
    intro p e s m av below meth c s₁ B hml hex hv
    refine fin p e s m av below meth c s₁ B hml ?_ hv
    rw [hH]
    cases hz : c.exceptionTable.toList with
    | nil => rfl
    | cons a t => exact absurd (by rw [hz]; exact List.mem_cons_self) (hex a)
  | cons h t =>
    refine vx_ofWH (cc := miC mi) (maxL := miN mi) (ret := miT mi) (hh := h :: t) hM.2.1 (ws' := TB) (by unfold wsOf codeW; rw [hH]) ?_
    intro p e s m av below meth c s₁ B hml hv
    have hts : ∀ w ∈ wsOf mi, w.before av s = true := atoms_spec (ws := wsOf mi) B.pre
    have hcw : (Cond.codeWith (miY mi) (miC mi) (miN mi) (miT mi) (h :: t)).before av s = true := hts _ (by unfold wsOf codeW; rw [hH]; exact List.mem_cons_self)
    exact fin p e s m av below meth c s₁ B hml (by rw [hH]; exact vx_table (x := miY mi) B hcw) hv
theorem PcM_blind (g : Gl) (args : List Value) (μ : Mem) : FrameBlind (PcM g args μ) := by
  intro a U gf mk q
  obtain ⟨q0, q1, q2⟩ := q
  refine ⟨q0, q1, ?_⟩
  obtain ⟨h1, h2, h3, h4, h5, h6, h7, h8, h9, h10, h11, h12, h13, h14⟩ := q2
  have hvm : U.vm = (U.calling gf mk a).vm := rfl
  have ha : U.vm.Alike (U.calling gf mk a).vm := Vm.Alike.refl U.vm
  refine ⟨h1.moved ha, fun w hw => (h2 w hw).same ?_ hvm, fun j hj => ?_, h4.moved ha, h5.moved ha, h6.moved ha, h7, h8, h9.moved ha, h10, h11, h12, fun a b x y z => (h13 a b x y z).moved ha, h14.moved ha⟩
  · have := (List.mem_filter.mp hw).2
    cases w <;> first | rfl | exact absurd this (by simp [isNw])
  · obtain ⟨k1, k2, k3, k4, k5⟩ := h3 j hj
    exact ⟨k1.same hvm.symm, k2.moved ha, k3.moved ha, k4.moved ha, k5.moved ha⟩
end
section
/-! calls, ends -/
/-- the frame at pc with an exception of kind e thrown over it -/
def WX (g : Gl) (mi : MI) (R : Room) (Q : QT) (nc ns pc : Nat) (ls : List (Nat × Value)) (ex : Nat) (μ : Mem) : Prop :=
  ∀ (p : Program) (e : Env) (s : State) (m : MethodId) (args : Array Value) (below : List Frame) (meth : Method) (c : Code), Ctx g mi p s m args meth c →
    ∀ (H : Heap) (locs : List Loc) (L : Array Slot) (rest : List Value) (q : Addr) (ce : Cell), Rep g μ H → va_S (gP g) s.heap H locs → lv_has L (miN mi) (tl g ls) → H[q]? = some ce → ce.vm = .none → s.vm.findClass (EN ex) = some ce.cls →
      vx_W p (gl g) e R s m args below meth c H locs nc ns (Q below args s) (F0 m pc L rest) q
theorem met_of {g : Gl} {mi : MI} {dx : Nat} {args : List Value} {μ : Mem} {Φ : Out → Mem → Prop} (h : Spec g mi dx args μ Φ) (hno : ∀ e μ', ¬ Φ (.inr e) μ') : Met (gl g) (miY mi) (wsOf mi) (rm mi dx) (PcM g args μ) (Qr g Φ) (miK mi) (miS mi) (gP g) := by
  intro p e ha hc hk s m av below hf happ hP hK
  obtain ⟨k, o, h1, h2, h3, hQ⟩ := h p e ha hc hk s m av below hf happ hP hK
  refine ⟨k, o, h1, h2, h3, ?_⟩
  rcases hQ with hQ | ⟨q, ho, E, ce, L, ⟨⟨e9, μ', -, -, h9, -⟩, -⟩, -⟩
  · exact hQ
  · exact absurd h9 (hno e9 μ')
section AM9
variable {g : Gl} {mi : MI} {R : Room} {Q : QT} {nc ns pc : Nat} {ls : List (Nat × Value)} {st : List Value} {μ : Mem} {Φ : Out → Mem → Prop} {mj : MI} {dx n idx : Nat} {As : List Value}
theorem am_after {p : Program} {e : Env} {s : State} {m : MethodId} {args : Array Value} {below : List Frame} {meth : Method} {c : Code} {H : Heap} {locs : List Loc} {L : Array Slot} {st0 : List Value} {a : Array Value} {mc ms : Nat}
    (C : Ctx g mi p s m args meth c) (hr : vx_Run p (gl g) e R s m args below meth c H locs nc ns mc ms (F0 m pc L st0) (st.map (tv g)) (Qr g Φ a) (Qx g Φ) (gP g)) (hS : va_S (gP g) s.heap H locs) (hl : lv_has L (miN mi) (tl g ls))
    (kr : ∀ (v : Option Value) (μ' : Mem), Φ (.inl v) μ' → v.toList.map (tv g) = v.toList ∧ Wm g mi R Q (nc + mc) (ns + ms) (pc + 3) ls (v.toList ++ st) μ')
    (kx : ∀ (ex : Nat) (μ' : Mem), ex < 5 → Φ (.inr ex) μ' → WX g mi R Q (nc + mc) (ns + ms) pc ls ex μ') : W p (gl g) e R s m args below meth c H locs nc ns (Q below args s) (F0 m pc L st0) := by
  intro T hT X
  rcases hr T hT X with ⟨v, st₀, t, T', L9, h0, X', hL, e1, e2, ⟨⟨v', μ', hv, hp, hb⟩, hF⟩, stp⟩ | ⟨q, st₀, t, T', L9, E, ce, h0, X', hL, e1, e2, ⟨⟨ex, μ', h5, hE, hp, hb⟩, hF⟩, hce, hcv, hcl, stp⟩
  · cases hv
    obtain ⟨k1, k2, k3⟩ := vx_keep h0 e1 hS (fun q _ h => h) (fun q h => h) hL hF
    obtain ⟨hvt, kW⟩ := kr v μ' hp
    have k9 := kW p e s m args below meth c C T'.heap (locs ++ L9) L (by rw [e1]; exact hb) k3 hl
    rw [List.map_append, hvt] at k9
    obtain ⟨t2, a1, b1⟩ := k9 T' rfl X'
    exact ⟨t2, stp t2 a1, b1⟩
  · obtain ⟨k1, k2, k3⟩ := vx_keep h0 e1 hS (fun q _ h => h) (fun q h => h) hL hF
    subst hE
    obtain ⟨t2, a1, b1⟩ := kx ex μ' h5 hp p e s m args below meth c C T'.heap (locs ++ L9) L (st.map (tv g)) q ce (by rw [e1]; exact hb) k3 hl (by rw [e1]; exact hce) hcv hcl T' rfl X'
    exact ⟨t2, stp.trans a1, b1⟩
theorem am_afterN {p : Program} {e : Env} {s : State} {m : MethodId} {args : Array Value} {below : List Frame} {meth : Method} {c : Code} {H : Heap} {locs : List Loc} {L : Array Slot} {st0 : List Value} {a : Array Value} {mc ms : Nat}
    (C : Ctx g mi p s m args meth c) (hr : va_Run p (gl g) e R s m args below meth c H locs nc ns mc ms (F0 m pc L st0) (st.map (tv g)) (Qr g Φ a) (gP g)) (hS : va_S (gP g) s.heap H locs) (hl : lv_has L (miN mi) (tl g ls))
    (kr : ∀ (v : Option Value) (μ' : Mem), Φ (.inl v) μ' → v.toList.map (tv g) = v.toList ∧ Wm g mi R Q (nc + mc) (ns + ms) (pc + 3) ls (v.toList ++ st) μ') : W p (gl g) e R s m args below meth c H locs nc ns (Q below args s) (F0 m pc L st0) := by
  refine am_after (a := a) C (fun T hT X => Or.inl ?_) hS hl kr (fun ex μ' _ h => ?_) (Φ := fun o μ' => match o with | .inl v => Φ (.inl v) μ' | .inr _ => False)
  · obtain ⟨v, st₀, t, T', L9, h0, X', hL, e1, e2, hq, stp⟩ := hr T hT X
    exact ⟨v, st₀, t, T', L9, h0, X', hL, e1, e2, hq, stp⟩
  · exact h.elim
/-- what a caller's room must be -/
def CallR (R : Room) (mj : MI) (dx nc ns : Nat) : Prop := miD mj + dx + 1 ≤ R.frames ∧ 59 + 100 * (miD mj + dx) ≤ R.locals ∧ nc + miK mj ≤ R.cells ∧ ns + miS mj ≤ R.slots
theorem codeW_nil (hH : miH mj = []) : wsOf mj = Cond.code (miY mj) (miC mj) (miN mj) (miT mj) :: TB := by unfold wsOf codeW; rw [hH]
theorem callB_ok {s : State} {args : Array Value} {own : String} (hts : ∀ w ∈ TB, w.before args s = true) (hM : MOK mj n) (hH : miH mj = []) (hR : CallR R mj dx nc ns) (hini : Cond.initialized (miY mj).cls ∈ TB) (hl : Cond.methodLink own idx (miY mj) ∈ TB) :
    CallB R s args own idx (miY mj) (miC mj) (miN mj) (miT mj) (wsOf mj) (rm mj dx) (miK mj) (miS mj) n :=
  callB_of n hts (good_ws hM.1) (codeW_nil hH) rfl rfl (hts _ hini) (hts _ hl) hM.2.2.1 ⟨hR.1, by have := hM.2.2.2; have := hR.2.1; show 8 + (miN mj + 11) + 100 * (miD mj + dx) ≤ R.locals; omega⟩
theorem stk_map {k : Nat} : (As.reverse ++ .ref k :: st).map (tv g) = (As.map (tv g)).reverse ++ .ref (gr g k) :: st.map (tv g) := by
  rw [List.map_append, List.map_reverse]; rfl
theorem cat_map {st : List Value} : ((st.map (tv g)).map fun v => v.category) = st.map fun v => v.category := by
  rw [List.map_map]; exact List.map_congr_left fun v _ => tv_cat g v
theorem am_callV {k : Nat} {r : vw_C} (hM : MOK mj n) (hH : miH mj = []) (hlk : Cond.methodLink (miY mi).cls idx (miY mj) ∈ TB) (hin : Cond.instanceMethod (miY mj) ∈ TB) (hse : Cond.selects (miY mj).cls (miY mj) (miY mj) ∈ TB) (hini : Cond.initialized (miY mj).cls ∈ TB)
    (hk : k < NC) (hc : cls[(sh k).1]? = some r) (hr : r.1 = (miY mj).cls) (hn : As.length = n) (hst : (st.map fun v => v.category).sum ≤ 8) (hR : CallR R mj dx nc ns) (hd : decode (miC mi) pc = .ok (.invokevirtual idx, 3)) (hS : Spec g mj dx (.ref k :: As) μ Φ)
    (kr : ∀ (v : Option Value) (μ' : Mem), Φ (.inl v) μ' → v.toList.map (tv g) = v.toList ∧ Wm g mi R Q (nc + miK mj) (ns + miS mj) (pc + 3) ls (v.toList ++ st) μ')
    (kx : ∀ (ex : Nat) (μ' : Mem), ex < 5 → Φ (.inr ex) μ' → WX g mi R Q (nc + miK mj) (ns + miS mj) pc ls ex μ') : Wm g mi R Q nc ns pc ls (As.reverse ++ .ref k :: st) μ := by
  intro p e s m args below meth c C H locs L hRp hSs hl
  have C' := C
  obtain ⟨hx, hb, hml, hr9, hlkk, hown, hts, hex, hE⟩ := C'
  have hci : (sh k).1 < 100 := Nat.lt_of_lt_of_le (List.getElem?_eq_some_iff.mp hc).1 (by decide)
  have hrec := va_recv hE.1 hRp hc (by rw [wd_at hk, cE_obj rfl hci])
  rw [hr] at hrec
  rw [stk_map]
  have hrun := vx_runV (As := As.map (tv g)) (rest := st.map (tv g)) (g := F0 m pc L ((As.map (tv g)).reverse ++ .ref (gr g k) :: st.map (tv g))) (below := below) (e := e) (meth := meth) (locs := locs) (cells := nc) (slots := ns) (H := H)
    ⟨hx, hb, hml, hown, hts⟩ hS ⟨callB_ok hts hM hH hR hini hlk, hts _ hin, hts _ hse⟩ ⟨PcM_blind g _ _, by rw [gr_lt hk]; exact hrec, fun U hU hW => ⟨rfl, by rw [hU]; exact hRp, hE.move hW (by rw [hU]; exact hSs)⟩⟩ rfl (by rw [List.length_map]; exact hn) hl.1 rfl (by show 2 * 0 + _ ≤ 8; rw [cat_map]; omega) hd ⟨hR.2.2.1, hR.2.2.2⟩
  exact am_after C hrun hSs hl kr kx
/-- a call on a text -/
theorem am_callW {k : Nat} (hM : MOK mj n) (hH : miH mj = []) (hc : (miY mj).cls = "java/lang/String") (hlk : Cond.methodLink (miY mi).cls idx (miY mj) ∈ TB) (hin : Cond.instanceMethod (miY mj) ∈ TB) (hse : Cond.selects (miY mj).cls (miY mj) (miY mj) ∈ TB) (hini : Cond.initialized (miY mj).cls ∈ TB)
    (hk1 : 1000 ≤ k) (hk2 : k < 1061) (hn : As.length = n) (hst : (st.map fun v => v.category).sum ≤ 8) (hR : CallR R mj dx nc ns) (hd : decode (miC mi) pc = .ok (.invokevirtual idx, 3)) (hS : Spec g mj dx (.ref k :: As) μ Φ)
    (kr : ∀ (v : Option Value) (μ' : Mem), Φ (.inl v) μ' → v.toList.map (tv g) = v.toList ∧ Wm g mi R Q (nc + miK mj) (ns + miS mj) (pc + 3) ls (v.toList ++ st) μ')
    (kx : ∀ (ex : Nat) (μ' : Mem), ex < 5 → Φ (.inr ex) μ' → WX g mi R Q (nc + miK mj) (ns + miS mj) pc ls ex μ') : Wm g mi R Q nc ns pc ls (As.reverse ++ .ref k :: st) μ := by
  intro p e s m args below meth c C H locs L hRp hSs hl
  have C' := C
  obtain ⟨hx, hb, hml, hr9, hlkk, hown, hts, hex, hE⟩ := C'
  obtain ⟨-, z, -⟩ := hE.2.2.1 (k - 1000) (by omega)
  obtain ⟨cell, z1, z2, z3, -⟩ := z.kept hSs.2.1
  rw [stk_map]
  have hrun := vx_runV (As := As.map (tv g)) (rest := st.map (tv g)) (g := F0 m pc L ((As.map (tv g)).reverse ++ .ref (gr g k) :: st.map (tv g))) (below := below) (e := e) (meth := meth) (locs := locs) (cells := nc) (slots := ns) (H := H)
    ⟨hx, hb, hml, hown, hts⟩ hS ⟨callB_ok hts hM hH hR hini hlk, hts _ hin, hts _ hse⟩ ⟨PcM_blind g _ _, ⟨cell, by rw [gr_str hk1 hk2]; exact z1, z2, by rw [hc]; exact z3⟩, fun U hU hW => ⟨rfl, by rw [hU]; exact hRp, hE.move hW (by rw [hU]; exact hSs)⟩⟩ rfl (by rw [List.length_map]; exact hn) hl.1 rfl (by show 2 * 0 + _ ≤ 8; rw [cat_map]; omega) hd ⟨hR.2.2.1, hR.2.2.2⟩
  exact am_after C hrun hSs hl kr kx
theorem am_callS (hM : MOK mj n) (hH : miH mj = []) (hlk : Cond.methodLink (miY mi).cls idx (miY mj) ∈ TB) (hst9 : Cond.static (miY mj) ∈ TB) (hini : Cond.initialized (miY mj).cls ∈ TB)
    (hn : As.length = n) (hst : (st.map fun v => v.category).sum ≤ 8) (hR : CallR R mj dx nc ns) (hd : decode (miC mi) pc = .ok (.invokestatic idx, 3)) (hS : Spec g mj dx As μ Φ)
    (kr : ∀ (v : Option Value) (μ' : Mem), Φ (.inl v) μ' → v.toList.map (tv g) = v.toList ∧ Wm g mi R Q (nc + miK mj) (ns + miS mj) (pc + 3) ls (v.toList ++ st) μ')
    (kx : ∀ (ex : Nat) (μ' : Mem), ex < 5 → Φ (.inr ex) μ' → WX g mi R Q (nc + miK mj) (ns + miS mj) pc ls ex μ') : Wm g mi R Q nc ns pc ls (As.reverse ++ st) μ := by
  intro p e s m args below meth c C H locs L hRp hSs hl
  have C' := C
  obtain ⟨hx, hb, hml, hr9, hlkk, hown, hts, hex, hE⟩ := C'
  rw [List.map_append, List.map_reverse]
  have hrun := vx_runS (As := As.map (tv g)) (rest := st.map (tv g)) (g := F0 m pc L ((As.map (tv g)).reverse ++ st.map (tv g))) (below := below) (e := e) (meth := meth) (locs := locs) (cells := nc) (slots := ns) (H := H)
    ⟨hx, hb, hml, hown, hts⟩ hS ⟨callB_ok hts hM hH hR hini hlk, hts _ hst9⟩ ⟨PcM_blind g _ _, fun U hU hW => ⟨rfl, by rw [hU]; exact hRp, hE.move hW (by rw [hU]; exact hSs)⟩⟩ rfl (by rw [List.length_map]; exact hn) hl.1 rfl (by show 2 * 0 + _ ≤ 8; rw [cat_map]; omega) hd ⟨hR.2.2.1, hR.2.2.2⟩
  exact am_after C hrun hSs hl kr kx
/-- a static method with handlers -/
theorem am_callSH {h9 : Nat × Nat × Nat × Nat} {t9 : List (Nat × Nat × Nat × Nat)} (hM : MOK mj n) (hH : miH mj = h9 :: t9) (hlk : Cond.methodLink (miY mi).cls idx (miY mj) ∈ TB) (hst9 : Cond.static (miY mj) ∈ TB) (hini : Cond.initialized (miY mj).cls ∈ TB)
    (hn : As.length = n) (hst : (st.map fun v => v.category).sum ≤ 8) (hR : CallR R mj dx nc ns) (hd : decode (miC mi) pc = .ok (.invokestatic idx, 3)) (hS : Spec g mj dx As μ Φ)
    (kr : ∀ (v : Option Value) (μ' : Mem), Φ (.inl v) μ' → v.toList.map (tv g) = v.toList ∧ Wm g mi R Q (nc + miK mj) (ns + miS mj) (pc + 3) ls (v.toList ++ st) μ')
    (kx : ∀ (ex : Nat) (μ' : Mem), ex < 5 → Φ (.inr ex) μ' → WX g mi R Q (nc + miK mj) (ns + miS mj) pc ls ex μ') : Wm g mi R Q nc ns pc ls (As.reverse ++ st) μ := by
  intro p e s m args below meth c C H locs L hRp hSs hl
  have C' := C
  obtain ⟨hx, hb, hml, hr9, hlkk, hown, hts, hex, hE⟩ := C'
  rw [List.map_append, List.map_reverse]
  have hw : wsOf mj = Cond.codeWith (miY mj) (miC mj) (miN mj) (miT mj) (h9 :: t9) :: TB := by unfold wsOf codeW; rw [hH]
  have hcw : Cond.codeWith (miY mj) (miC mj) (miN mj) (miT mj) (h9 :: t9) ∈ TB := by have := hM.1; unfold codeW at this; rw [hH] at this; exact this
  have hlo : 8 + (miN mj + 11) + (rm mj dx).locals ≤ R.locals := by have := hM.2.2.2; have := hR.2.1; show 8 + (miN mj + 11) + 100 * (miD mj + dx) ≤ R.locals; omega
  have cw : vx_CSW R s args (miY mi).cls idx (miY mj) (miC mj) (miN mj) (miT mj) (h9 :: t9) (wsOf mj) (rm mj dx) (miK mj) (miS mj) n :=
    ⟨⟨rfl, rfl, hR.1, hlo, pay_in hts (good_ws hM.1), by rw [hw]; exact List.mem_cons_self⟩, hts _ hcw, hts _ hini, ⟨hM.2.2.1.1, hM.2.2.1.2.1⟩, fun sig h => by
      have h2 := hM.2.2.1.2.2
      rw [h] at h2
      exact (Option.some.inj h2).symm, hts _ hlk, hts _ hst9⟩
  have hrun := vx_runSX (As := As.map (tv g)) (rest := st.map (tv g)) (g := F0 m pc L ((As.map (tv g)).reverse ++ st.map (tv g))) (below := below) (e := e) (meth := meth) (locs := locs) (cells := nc) (slots := ns) (H := H)
    ⟨hx, hb, hml, hown, hts⟩ hS cw ⟨PcM_blind g _ _, fun U hU hW => ⟨rfl, by rw [hU]; exact hRp, hE.move hW (by rw [hU]; exact hSs)⟩⟩ rfl (by rw [List.length_map]; exact hn) hl.1 rfl (by show 2 * 0 + _ ≤ 8; rw [cat_map]; omega) hd ⟨hR.2.2.1, hR.2.2.2⟩
  exact am_after C hrun hSs hl kr kx
/-- a static method of the nest's host -/
theorem am_callSN (hM : MOK mj n) (hH : miH mj = []) (hlk : Cond.methodLinkNest (miY mi).cls idx (miY mj) "SaidOnce" ∈ NW) (hst9 : Cond.static (miY mj) ∈ TB) (hini : Cond.initialized (miY mj).cls ∈ TB)
    (hn : As.length = n) (hst : (st.map fun v => v.category).sum ≤ 8) (hR : CallR R mj dx nc ns) (hd : decode (miC mi) pc = .ok (.invokestatic idx, 3)) (hS : Spec g mj dx As μ Φ) (hno : ∀ e μ', ¬ Φ (.inr e) μ')
    (kr : ∀ (v : Option Value) (μ' : Mem), Φ (.inl v) μ' → v.toList.map (tv g) = v.toList ∧ Wm g mi R Q (nc + miK mj) (ns + miS mj) (pc + 3) ls (v.toList ++ st) μ') : Wm g mi R Q nc ns pc ls (As.reverse ++ st) μ := by
  intro p e s m args below meth c C H locs L hRp hSs hl
  have C' := C
  obtain ⟨hx, hb, hml, hr9, hlkk, hown, hts, hex, hE⟩ := C'
  rw [List.map_append, List.map_reverse]
  have cw := va_cnB (R := R) (rm := rm mj dx) (mc := miK mj) (ms := miS mj) n hts (good_ws hM.1) (codeW_nil hH) rfl rfl (hE.2.1 _ hlk) (hts _ hini) hM.2.2.1 ⟨hR.1, by have := hM.2.2.2; have := hR.2.1; show 8 + (miN mj + 11) + 100 * (miD mj + dx) ≤ R.locals; omega⟩
  have hrun := va_runSN (As := As.map (tv g)) (rest := st.map (tv g)) (g := F0 m pc L ((As.map (tv g)).reverse ++ st.map (tv g))) (below := below) (e := e) (meth := meth) (locs := locs) (cells := nc) (slots := ns) (H := H)
    ⟨hx, hb, hml, hown, hts⟩ (met_of hS hno) ⟨cw, hts _ hst9, trivial⟩ ⟨PcM_blind g _ _, fun U hU hW => ⟨rfl, by rw [hU]; exact hRp, hE.move hW (by rw [hU]; exact hSs)⟩⟩ rfl (by rw [List.length_map]; exact hn) hl.1 rfl (by show 2 * 0 + _ ≤ 8; rw [cat_map]; omega) hd ⟨hR.2.2.1, hR.2.2.2⟩
  exact am_afterN C hrun hSs hl kr
/-- a method that the receiver's class inherits or overrides: named x, found y -/
theorem am_callU {k : Nat} {r : vw_C} {x : MethodName} {owner : String} (hM : MOK mj n) (hH : miH mj = []) (hlk : Cond.methodLink (miY mi).cls idx x ∈ TB) (hsm : Cond.sameMethod x.cls owner x.name x.desc ∈ TB) (hse : Cond.selects r.1 x (miY mj) ∈ TB) (hin : Cond.instanceMethod (miY mj) ∈ TB) (hini : Cond.initialized (miY mj).cls ∈ TB) (hdc : Cond.declares ⟨owner, x.name, x.desc⟩ ∈ NW)
    (how : owner ≠ "java/lang/invoke/MethodHandle" ∧ owner ≠ "java/lang/invoke/VarHandle" ∧ (parseMethodDescriptor x.desc).map (fun d => d.parameters.length) = some n)
    (hk : k < NC) (hc : cls[(sh k).1]? = some r) (hn : As.length = n) (hst : (st.map fun v => v.category).sum ≤ 8) (hR : CallR R mj dx nc ns) (hd : decode (miC mi) pc = .ok (.invokevirtual idx, 3)) (hS : Spec g mj dx (.ref k :: As) μ Φ) (hno : ∀ e μ', ¬ Φ (.inr e) μ')
    (kr : ∀ (v : Option Value) (μ' : Mem), Φ (.inl v) μ' → v.toList.map (tv g) = v.toList ∧ Wm g mi R Q (nc + miK mj) (ns + miS mj) (pc + 3) ls (v.toList ++ st) μ') : Wm g mi R Q nc ns pc ls (As.reverse ++ .ref k :: st) μ := by
  intro p e s m args below meth c C H locs L hRp hSs hl
  have C' := C
  obtain ⟨hx, hb, hml, hr9, hlkk, hown, hts, hex, hE⟩ := C'
  have hci : (sh k).1 < 100 := Nat.lt_of_lt_of_le (List.getElem?_eq_some_iff.mp hc).1 (by decide)
  have hrec := va_recv hE.1 hRp hc (by rw [wd_at hk, cE_obj rfl hci])
  rw [stk_map]
  have hG : GoodIn TB (va_wsU (miY mi).cls idx r.1 owner x (miY mj) (wsOf mj)) := by
    have key : ∀ w ∈ TB, w ∈ TB ∧ ((w.onTables && w.keeps) = true ∨ ∃ ty, w = .arrayClass ty) := fun w hw => ⟨hw, good_of_word (List.mem_filter.mp hw).2⟩
    intro w hw
    unfold va_wsU at hw
    rcases List.mem_append.mp hw with h | h
    · simp only [List.mem_cons, List.not_mem_nil, or_false] at h
      rcases h with rfl | rfl | rfl | rfl | rfl
      · exact key _ hlk
      · exact key _ hsm
      · exact key _ hse
      · exact key _ hin
      · exact key _ hini
    · exact good_ws hM.1 w h
  have cw := va_cwA (R := R) (rm := rm mj dx) (mc := miK mj) (ms := miS mj) n hts hG (codeW_nil hH) rfl rfl (hE.2.1 _ hdc) how ⟨hR.1, by have := hM.2.2.2; have := hR.2.1; show 8 + (miN mj + 11) + 100 * (miD mj + dx) ≤ R.locals; omega⟩
  have hrun := va_runU (As := As.map (tv g)) (rest := st.map (tv g)) (g := F0 m pc L ((As.map (tv g)).reverse ++ .ref (gr g k) :: st.map (tv g))) (below := below) (e := e) (meth := meth) (locs := locs) (cells := nc) (slots := ns) (H := H)
    ⟨hx, hb, hml, hown, hts⟩ (met_of hS hno) cw ⟨PcM_blind g _ _, by rw [gr_lt hk]; exact hrec, fun U hU hW => ⟨rfl, by rw [hU]; exact hRp, hE.move hW (by rw [hU]; exact hSs)⟩⟩ rfl (by rw [List.length_map]; exact hn) hl.1 rfl (by show 2 * 0 + _ ≤ 8; rw [cat_map]; omega) hd ⟨hR.2.2.1, hR.2.2.2⟩
  exact am_afterN C hrun hSs hl kr
end AM9
end
section
/-! NoSuchElementException: its constructor passes its text on by pool entry 13, not 7 (the kit's throw row knows 7 alone) -/
section NSE
abbrev nseN : String := "java/util/NoSuchElementException"
abbrev rteN : String := "java/lang/RuntimeException"
def nse6 : ByteArray := ⟨#[0x2a, 0x2b, 0xb7, 0x00, 0x0d, 0xb1]⟩
def nseAt (own : String) (ic : Nat) : List Cond := Bundle.throwableAtoms ++ Bundle.throwableSAtoms ++ (Bundle.passSAtoms nseN rteN 13 nse6 ++ Bundle.chainSAtoms rteN ["java/lang/Exception"]) ++
  [.methodLink own ic (Bundle.initS nseN), .instantiable nseN 6, .castable nseN nseN, .selects nseN Bundle.tFill0 Bundle.tFill0, .selects nseN Bundle.tFill Bundle.tFill,
   .lays nseN Bundle.tN "cause" "Ljava/lang/Throwable;", .lays nseN Bundle.tN "stackTrace" Bundle.steD, .lays nseN Bundle.tN "suppressedExceptions" Bundle.listD, .lays nseN Bundle.tN "detailMessage" "Ljava/lang/String;",
   .isRef (.static Bundle.tN "UNASSIGNED_STACK" Bundle.steD), .isRef (.static Bundle.tN "SUPPRESSED_SENTINEL" Bundle.listD),
   .fieldLink Bundle.tN 198 Bundle.tN "backtrace" "Ljava/lang/Object;", .lays Bundle.tN Bundle.tN "backtrace" "Ljava/lang/Object;", .lays nseN Bundle.tN "backtrace" "Ljava/lang/Object;"]
variable {p : Program} {l : Launch} {e : Env} {R : Room} {s : State} {m₀ : MethodId} {args : Array Value} {below : List Frame} {meth : Method} {c : Code} {W : State} {locs : List Loc} {cells slots : Nat}
/-- the two passes above Throwable -/
theorem nse_chain {pl : Platform} (hpl : pl.magicAccessors = ({} : Platform).magicAccessors) {top : MethodId} (htop : s.methodNamed? (Bundle.initS Bundle.tN) = some top) (h : ∀ w ∈ Bundle.passSAtoms nseN rteN 13 nse6 ++ Bundle.chainSAtoms rteN ["java/lang/Exception"], w.before args s = true) :
    ∃ (P1 : PassC) (Ps : List PassC), Ps.length = 2 ∧ P1.LinksS pl s ∧ (∀ P, P ∈ Ps → P.LinksS pl s) ∧ s.methodNamed? (Bundle.initS nseN) = some P1.m ∧ P1.sup = firstOf top (Ps.map (·.toPassT)) ∧ PassesOn top (Ps.map (·.toPassT)) := by
  obtain ⟨P, L, hm, hs⟩ := PassC.ofS_atoms (args := args) (s := s) hpl (X := nseN) (Y := rteN) (index := 13) (bytes := nse6) (by decide +kernel) (by decide +kernel) (by decide +kernel) (by decide +kernel) (by decide +kernel) (by decide +kernel) (fun w hw => h w (List.mem_append_left _ hw))
  obtain ⟨P', Ps, hlen, L', hL, hm', hsup, hpass⟩ := Bundle.chainS (args := args) hpl htop ["java/lang/Exception"] rteN (by decide +kernel) (by decide +kernel) (fun w hw => h w (List.mem_append_right _ hw))
  refine ⟨P, P' :: Ps, by simp [hlen], L, fun Q hQ => ?_, hm, Option.some.inj (hs.symm.trans hm'), hsup, hpass⟩
  rcases List.mem_cons.mp hQ with rfl | hQ
  · exact L'
  · exact hL Q hQ
set_option maxHeartbeats 1000000 in
/-- the constructor runs, the exception leaves the method -/
theorem nse_run (X : Stand p l e R s m₀ args below meth c W locs cells slots) (hexec : p.tables.exec = Jvm.exec) (htr : e.platform.stackTraces = false) {own : String} {ic : Nat}
    (hown : s.vm.findClass own = some m₀.cls) (h : ∀ w ∈ nseAt own ic, w.before args s = true) (hlocs : ∀ x ∈ locs, ∀ cell, s.heap[x.base]? = some cell → cell.vm.isStatics = false)
    {a : Addr} {cX : ClassId} {kX : Class} (hfoundX : s.vm.findClass nseN = some cX) (hkX : s.vm.classes[cX]? = some kX) (hcell : W.heap[a]? = some (freshCell cX kX)) (hnew : s.heap.size ≤ a) {msg : Value} (hmsg : msg.isRef = true)
    {g : JFrame} (hg : g.method = m₀) (hsize : g.locals.size = c.maxLocals) (hlocked : g.locked = none) (hentered : g.entered = []) {rest : List Value} (hstack : g.stack = msg :: .ref a :: .ref a :: rest)
    (hd6 : decode c.code g.pc = .ok (.invokespecial ic, 3)) (hd9 : decode c.code (g.pc + 3) = .ok (.athrow, 1)) (hout : ∀ x ∈ c.exceptionTable.toList, covers x (g.pc + 3) = false)
    (hRframes : 5 < R.frames) (hRlocals : 2 * g.monitorRoom + ((Value.ref a :: rest).map fun v => v.category).sum + 81 ≤ R.locals) (hlocks : meth.locks = false) :
    ∃ U : State, Steps p.tables e below (W.setTop g) U ∧ U.status = .running ∧ Ended U below (.threw a) ∧ s.WarmedH U.vm ∧ s.sameButNew ({ U with vm := s.vm } : State) locs cells slots ∧ ∃ ce, U.heap[a]? = some ce ∧ ce.vm = .none ∧ s.vm.findClass nseN = some ce.cls := by
  have hpl : e.platform.magicAccessors = ({} : Platform).magicAccessors := by rw [X.admits.platform]
  have w : ∀ x, x ∈ nseAt own ic → x.holds args s none s [] = true := fun x hx => h x hx
  obtain ⟨T, Z0, L, -, Y⟩ := ThrowableC.of_atoms (args := args) (by rw [X.admits.platform]) (by rw [X.admits.platform]) hpl (fun x hx => h x (by simp [nseAt, hx]))
  obtain ⟨Z, M, LZ, LM, hnZ⟩ := Init0T.ofS_atoms (args := args) hpl L Y (fun x hx => h x (by simp [nseAt, hx]))
  obtain ⟨P1, Ps, hlen, L1, hL, hP1m, hlink1, hlink⟩ := nse_chain (args := args) hpl hnZ (fun x hx => h x (by unfold nseAt; exact List.mem_append_left _ (List.mem_append_right _ hx)))
  have hfound : s.vm.findClass nseN = some P1.m.cls := findClass_of_methodNamed hP1m
  cases Option.some.inj (hfoundX.symm.trans hfound)
  obtain ⟨c1, kX', hc1, hk, hord, -, -, hn6⟩ := Cond.instantiable_spec (w (.instantiable nseN 6) (by simp [nseAt]))
  cases Option.some.inj (hc1.symm.trans hfound)
  cases Option.some.inj (hkX.symm.trans hk)
  have sel : ∀ {y : MethodName} {r : MethodId}, Cond.selects nseN y y ∈ nseAt own ic → y.cls = Bundle.tN → s.methodNamed? y = some r → s.methodFound? y.cls y.name y.desc = some r → selectMethod e.platform s.vm P1.m.cls r = .method r := by
    intro y r hm _ hy hf
    obtain ⟨c2, r2, m2, q1, q2, q3, q4, -⟩ := Cond.selects_spec (w _ hm)
    cases Option.some.inj (q1.symm.trans hfound)
    cases Option.some.inj (q2.symm.trans hf)
    cases Option.some.inj (q3.symm.trans hy)
    rw [Launch.admits_selectMethod X.admits]; exact q4
  have hsel0 := sel (y := Bundle.tFill0) (by simp [nseAt]) rfl Y.fill0 (State.methodFound?_of_named Y.fill0 (by decide))
  have hselF := sel (y := Bundle.tFill) (by simp [nseAt]) rfl Y.fill (State.methodFound?_of_named Y.fill (by decide))
  obtain ⟨cellS0, hcS0, hiss⟩ := Y.statics
  obtain ⟨u0, hu0⟩ := Cond.staticRefV Y.unassigned L.unassignedStatic L.statics hcS0 hiss (w (.isRef (.static Bundle.tN "UNASSIGNED_STACK" Bundle.steD)) (by simp [nseAt]))
  obtain ⟨sen, hsen⟩ := Cond.staticRefV Y.sentinel L.sentinelStatic L.statics hcS0 hiss (w (.isRef (.static Bundle.tN "SUPPRESSED_SENTINEL" Bundle.listD)) (by simp [nseAt]))
  obtain ⟨ci198, i198, fB, hk198, hg198, ha198, hsB, -, hnB, htB, hffB⟩ := Cond.ownField (t := .object "java/lang/Object") Y.found L.cls (by decide +kernel) (w (.fieldLink Bundle.tN 198 Bundle.tN "backtrace" "Ljava/lang/Object;") (by simp [nseAt])) (w (.lays Bundle.tN Bundle.tN "backtrace" "Ljava/lang/Object;") (by simp [nseAt])) e.platform hpl
  obtain ⟨cellS, hcS', heS, -, hkeep⟩ := X.same.2.2.2.2.2 T.aS cellS0 hcS0
  have hout' : ∀ i, (⟨T.aS, i⟩ : Loc) ∉ locs := fun i hmem => by have := hlocs _ hmem cellS0 hcS0; rw [hiss] at this; cases this
  have hknownS : cellS.vm ≠ .unknown := by
    rw [heS]; intro hu
    rw [show cellS0.vm = .unknown from hu] at hiss
    cases hiss
  obtain ⟨iM, hffM⟩ := Y.msg
  obtain ⟨tyC, dC, hdC, hdnC⟩ := Cond.laysAt hfound hk Y.cause (w (.lays nseN Bundle.tN "cause" "Ljava/lang/Throwable;") (by simp [nseAt]))
  obtain ⟨tyS, dS, hdS, hdnS⟩ := Cond.laysAt hfound hk Y.stack (w (.lays nseN Bundle.tN "stackTrace" Bundle.steD) (by simp [nseAt]))
  obtain ⟨tyP, dP, hdP, hdnP⟩ := Cond.laysAt hfound hk Y.supp (w (.lays nseN Bundle.tN "suppressedExceptions" Bundle.listD) (by simp [nseAt]))
  obtain ⟨tyM, dM, hdM, hdnM⟩ := Cond.laysAt hfound hk hffM (w (.lays nseN Bundle.tN "detailMessage" "Ljava/lang/String;") (by simp [nseAt]))
  obtain ⟨tyB, dB, hdB, hdnB⟩ := Cond.laysAt hfound hk hffB (w (.lays nseN Bundle.tN "backtrace" "Ljava/lang/Object;") (by simp [nseAt]))
  have bC := Cond.laysApart hdB hdC hdnB hdnC (by rw [hnB, Y.causeName]; decide)
  have bS := Cond.laysApart hdB hdS hdnB hdnS (by rw [hnB, Y.stackName]; decide)
  have bP := Cond.laysApart hdB hdP hdnB hdnP (by rw [hnB, Y.suppName]; decide)
  have hskip : SkipFacts T e.platform s (fun u => u) u0 ((preparedCellV T.toThrowableT (freshCell P1.m.cls kX) a u0 sen).withEntry W.cur) :=
    ⟨{ ci198 := ci198, i198 := i198, fBack := fB }, ⟨hk198, hg198, ha198, hsB⟩, by
      have := fresh_default (c := P1.m.cls) tyB
      rw [htB] at this
      simpa [preparedCellV, Cell.setSlot, Cell.withEntry, Array.getElem?_setIfInBounds, bC, bS, bP, bC.symm, bS.symm, bP.symm, defaultValue] using this, fun _ _ => rfl⟩
  obtain ⟨tm, methC, cdC, kC, vm₁, hnC, -, -, -, -, -, -, -, hW₁, st1⟩ := Steps.initColdS (tb := p.tables) (e := e) (below := below) (s := s) (U := W) X.here hexec X.warmed hpl hown (t := Bundle.initS nseN) rfl rfl (by decide +kernel)
    (w (.methodLink own ic (Bundle.initS nseN)) (by simp [nseAt])) (h (.instanceMethod (Bundle.initS nseN)) (by simp [nseAt, Bundle.passSAtoms])) (bytes := nse6) (maxL := 2) (h (.code (Bundle.initS nseN) nse6 2 none) (by simp [nseAt, Bundle.passSAtoms]))
    (f := g) hg (a := a) (msg := msg) (rest := .ref a :: rest) hstack hd6
  cases Option.some.inj (hnC.symm.trans hP1m)
  have X₁ := X.noted hW₁
  obtain ⟨vm₂, X₂, st2⟩ := X₁.ctorMessageOffV hexec (g := { g with stack := .ref a :: rest }) hg hsize T L Z LZ M LM (P1 :: Ps)
    (fun P hP => by rcases List.mem_cons.mp hP with rfl | hP; exact L1; exact hL P hP) ⟨hlink1, hlink⟩ (u0 := u0) (sen := sen) (self := a) hmsg (cell := freshCell P1.m.cls kX) (cellS := cellS)
    hcell (fun _ => by simp) (by simp) rfl rfl hsel0 hselF hcS' (Nat.ne_of_lt (Nat.lt_of_lt_of_le (Array.getElem?_eq_some_iff.mp hcS0).1 hnew)) hknownS (by rw [hkeep _ (hout' _)]; exact hu0) (by rw [hkeep _ (hout' _)]; exact hsen)
    (Takes.of_laid hk hord tyC (by rw [Y.causeType]; rfl)) (Takes.of_laid hk hord tyS (by rw [Y.stackType]; exact fits_refV_array _ u0)) (Takes.of_laid hk hord tyP (by rw [Y.suppType]; exact fits_refV_object _ sen))
    (Takes.of_laid hk hord tyM (by rw [Y.msgType]; exact fits_refV_object _ ⟨msg, hmsg⟩)) Y.objLocals hskip htr [] hd6
    (by simp only [List.length_cons, hlen]; omega) (by simp only [List.length_cons, hlen]; exact hRlocals)
  obtain ⟨hwalk, hrun, hended, hWU, hsame⟩ := X₂.athrowLeaves hexec (g := { g with stack := .ref a :: rest, pc := g.pc + 3 }) hg hlocked hentered hout (a := a) (rest := rest) rfl hd9
  have hlt : a < ((W.setVm vm₁).setVm vm₂).heap.size := (Array.getElem?_eq_some_iff.mp hcell).1
  have hU := heapAt_setCell_self (s := (W.setVm vm₁).setVm vm₂) (plainBareV T.toThrowableT (freshCell P1.m.cls kX) a u0 sen msg) hlt
  refine ⟨_, st1 _ (fun acts => ?_), hrun, hended, hWU, hsame.weaken (fun y hy hlt' => ?_) (Nat.le_refl _) (Nat.le_refl _), _, hU, rfl, hfound⟩
  · rw [doInvoke_state]
    exact st2 _ hwalk
  · rcases List.mem_append.mp hy with h1 | h1
    · exact h1
    · exfalso
      have hb : y.base = a := by
        simp only [List.mem_cons, List.not_mem_nil, or_false] at h1
        rcases h1 with rfl | rfl | rfl | rfl | rfl <;> rfl
      rw [hb] at hlt'
      exact Nat.not_lt.mpr hnew hlt'
end NSE
section NSEW
variable {p : Program} {l : Launch} {e : Env} {R : Room} {s : State} {m : MethodId} {args : Array Value} {below : List Frame} {meth : Method} {c : Code} {H : Heap} {locs : List Loc} {cells slots : Nat} {Q : State → Prop} {Qc : Array Value → State → Outcome → State → Prop} {XC : String → State → State → Prop} {free : Addr → Prop} {ls : Array Slot} {rest : List Value}
set_option maxHeartbeats 1000000 in
theorem nse_throwS {cc : ByteArray} {pc : Nat} (hexec : p.tables.exec = Jvm.exec) (hb : c.code = cc) (hl : l.stackTraces = false) {own text : String} {ik is ic mc ms sa : Nat} {A : Nat → Prop}
    (hown : s.vm.findClass own = some m.cls)
    (hk : (Cond.classLink own ik nseN).before args s = true) (hini : (Cond.initialized nseN).before args s = true) (hstr : vk_R own is text sa s) (hat : ∀ w ∈ (nseAt own ic).filter vx_no, w.before args s = true)
    (hgood : ∀ w ∈ Cond.classLink own ik nseN :: Cond.initialized nseN :: (nseAt own ic).filter vx_no, vx_ot w = true)
    (hU : vx_Zq Bundle.tN "UNASSIGNED_STACK" Bundle.steD A s s.heap) (hN : vx_Zq Bundle.tN "SUPPRESSED_SENTINEL" Bundle.listD A s s.heap) (hS : va_S A s.heap H locs) (hsize : ls.size = c.maxLocals)
    (d0 : decode cc pc = .ok (.new ik, 3)) (d3 : decode cc (pc + 3) = .ok (.dup, 1)) (d4 : decode cc (pc + 4) = .ok (.ldc is, 2)) (d6 : decode cc (pc + 6) = .ok (.invokespecial ic, 3)) (d9 : decode cc (pc + 9) = .ok (.athrow, 1))
    (hout : ∀ x ∈ c.exceptionTable.toList, covers x (pc + 9) = false)
    (hRframes : 5 < R.frames) (hRlocals : (rest.map fun v => v.category).sum + 82 ≤ R.locals) (hRcells : cells + 1 ≤ R.cells) (hRslots : slots + 6 ≤ R.slots) (hlocks : meth.locks = false)
    (hx : ∀ t : State, s.vm.Alike t.vm → H.size ≤ t.heap.size → (∀ q : Nat, q < H.size → t.heap[q]? = H[q]?) → XC nseN s t)
    (hf : ∀ z ∈ locs, free z.base) (hc : cells + 1 ≤ mc) (hs : slots + 6 ≤ ms) :
    W p l e R s m args below meth c H locs cells slots (vx_MQ below Qc XC args s mc ms free) (F0 m pc ls rest) := by
  intro T hT X
  have htr : e.platform.stackTraces = false := (show e.platform.stackTraces = l.stackTraces by rw [X.admits.platform]).trans hl
  have Y := vx_rebase X (R' := { frames := R.frames, locals := R.locals, cells := 1, slots := 6 }) (Nat.le_refl _) (Nat.le_refl _) hRcells hRslots
  obtain ⟨s', hA⟩ : ∃ z, z = (T.setVm s.vm).setFrames (.invoking m args :: below) := ⟨_, rfl⟩
  rw [← hA] at Y
  have hvm : s'.vm = s.vm := by rw [hA]; rfl
  have hhp : s'.heap = H := by rw [hA]; exact hT
  have hW0 : s.WarmedH s'.vm := by rw [hvm]; exact State.WarmedH.refl s
  have hat' : ∀ w ∈ (nseAt own ic).filter vx_no, w.before args s' = true := fun w hw => vx_ot_at hW0 hvm.symm (hgood w (List.mem_cons_of_mem _ (List.mem_cons_of_mem _ hw))) (hat w hw)
  have hk' : (Cond.classLink own ik nseN).before args s' = true := vx_ot_at hW0 hvm.symm (hgood _ List.mem_cons_self) hk
  have hini' : (Cond.initialized nseN).before args s' = true := vx_ot_at hW0 hvm.symm (hgood _ (List.mem_cons_of_mem _ List.mem_cons_self)) hini
  have hU' : vx_Zq Bundle.tN "UNASSIGNED_STACK" Bundle.steD A s' s'.heap := by rw [hhp]; exact vx_Zq.moved hW0.alike (hU.kept hS.2.1)
  have hN' : vx_Zq Bundle.tN "SUPPRESSED_SENTINEL" Bundle.listD A s' s'.heap := by rw [hhp]; exact vx_Zq.moved hW0.alike (hN.kept hS.2.1)
  have h : ∀ w ∈ nseAt own ic, w.before args s' = true := vx_own hat' (vx_isRefq hU'.1) (vx_isRefq hN'.1) hU'.2.word hN'.2.word
  have hown' : s'.vm.findClass own = some m.cls := by rw [hvm]; exact hown
  have hins : (Cond.instantiable nseN 6).before args s' = true := h _ (by simp [nseAt])
  obtain ⟨vm₁, cX, kX, hfX, hkX, -, -, X₁, st1⟩ := Y.newCold hexec (own := own) (C := nseN) (index := ik) (n := 6) hown' hk' hins hini'
    (g := F0 m pc ls rest) rfl (by rw [hb]; exact d0) (Nat.le_refl _) (Nat.le_refl _)
  generalize hT1 : (T.setVm vm₁).pushCell { cls := cX, slots := kX.instanceTypes.map defaultValue, vm := .none } = T1 at X₁ st1
  have hcat : (Value.ref T.heap.size).category = 1 := rfl
  have hcellA : T1.heap[T.heap.size]? = some (freshCell cX kX) := by rw [← hT1]; exact State.heap_pushCell_size _ _
  have d3' : decode c.code (pc + 3) = .ok (.dup, 1) := by rw [hb]; exact d3
  have d4' : decode c.code (pc + 4) = .ok (.ldc is, 2) := by rw [hb]; exact d4
  have hstr' : vk_R own is text sa s' := vk_R.warm hW0 hstr
  obtain ⟨U, hsteps, hrun, hend, hW, hsame, ce, hce, hO⟩ := nse_run X₁ hexec htr (own := own) (ic := ic) hown' h (fun x hx => nomatch hx) hfX hkX hcellA (by rw [hhp, hT]; exact Nat.le_refl _) (msg := .ref sa) rfl
    (g := { method := m, pc := pc + 6, locals := ls, stack := .ref sa :: .ref T.heap.size :: .ref T.heap.size :: rest, locked := none }) rfl hsize rfl rfl (rest := rest) rfl
    (by rw [hb]; exact d6) (by rw [hb]; exact d9) hout hRframes (by simp only [List.map_cons, List.sum_cons, hcat]; omega) hlocks
  obtain ⟨f1, f2⟩ := vx_frame hsame
  rw [hhp] at f1 f2
  have hWs : s.WarmedH U.vm := State.WarmedH.trans hW0 hW
  have hcl : s.vm.findClass nseN = some ce.cls := by
    have h9 := hO.2
    rw [hvm] at h9
    exact h9
  have hall : s.sameButNew ({ U with vm := s.vm } : State) locs mc ms := by
    subst hA
    obtain ⟨e1, e2⟩ := hsame
    rw [State.setFrames_setFrames] at e1
    have h2 : (T.setVm s.vm).sameButNew ({ U with vm := s.vm } : State) [] (0 + 1) (0 + 6) := ⟨e1, e2⟩
    have h3 := X.same.trans h2
    rw [List.append_nil] at h3
    exact h3.mono hc hs
  refine ⟨U, ?_, .threw T.heap.size, hrun, hend, Or.inr ⟨T.heap.size, rfl, nseN, ce, locs, hx U hWs.alike f1 (fun q hq => f2 q hq (fun z hz => nomatch hz)), hce, hO.1, hcl, hWs, hall, hf⟩⟩
  refine st1 _ ?_
  show Steps p.tables e below (T1.setTop { method := m, pc := pc + 3, locals := ls, stack := .ref T.heap.size :: rest, locked := none }) _
  jvm_step X₁.here [X₁.here.top, hexec, d3', Value.category]
  exact X₁.ldcString hexec (own := own) (text := text) (index := is) (a := sa) hown' hstr'.1 hstr'.2
    (g := { method := m, pc := pc + 4, locals := ls, stack := .ref T.heap.size :: .ref T.heap.size :: rest, locked := none }) rfl d4' _ hsteps
set_option maxHeartbeats 1000000 in
theorem nse_throwSW {cc : ByteArray} {pc : Nat} (hexec : p.tables.exec = Jvm.exec) (hb : c.code = cc) (hl : l.stackTraces = false) {own text : String} {ik is ic mc ms sa : Nat} {A : Nat → Prop}
    (hown : s.vm.findClass own = some m.cls)
    (hk : (Cond.classLink own ik nseN).before args s = true) (hini : (Cond.initialized nseN).before args s = true) (hstr : vk_R own is text sa s) (hat : ∀ w ∈ (nseAt own ic).filter vx_no, w.before args s = true)
    (hgood : ∀ w ∈ Cond.classLink own ik nseN :: Cond.initialized nseN :: (nseAt own ic).filter vx_no, vx_ot w = true)
    (hU : vx_Zq Bundle.tN "UNASSIGNED_STACK" Bundle.steD A s s.heap) (hN : vx_Zq Bundle.tN "SUPPRESSED_SENTINEL" Bundle.listD A s s.heap) (hS : va_S A s.heap H locs) (hsize : ls.size = c.maxLocals)
    (d0 : decode cc pc = .ok (.new ik, 3)) (d3 : decode cc (pc + 3) = .ok (.dup, 1)) (d4 : decode cc (pc + 4) = .ok (.ldc_w is, 3)) (d7 : decode cc (pc + 7) = .ok (.invokespecial ic, 3)) (d10 : decode cc (pc + 10) = .ok (.athrow, 1))
    (hout : ∀ x ∈ c.exceptionTable.toList, covers x (pc + 10) = false)
    (hRframes : 5 < R.frames) (hRlocals : (rest.map fun v => v.category).sum + 82 ≤ R.locals) (hRcells : cells + 1 ≤ R.cells) (hRslots : slots + 6 ≤ R.slots) (hlocks : meth.locks = false)
    (hx : ∀ t : State, s.vm.Alike t.vm → H.size ≤ t.heap.size → (∀ q : Nat, q < H.size → t.heap[q]? = H[q]?) → XC nseN s t)
    (hf : ∀ z ∈ locs, free z.base) (hc : cells + 1 ≤ mc) (hs : slots + 6 ≤ ms) :
    W p l e R s m args below meth c H locs cells slots (vx_MQ below Qc XC args s mc ms free) (F0 m pc ls rest) := by
  intro T hT X
  have htr : e.platform.stackTraces = false := (show e.platform.stackTraces = l.stackTraces by rw [X.admits.platform]).trans hl
  have Y := vx_rebase X (R' := { frames := R.frames, locals := R.locals, cells := 1, slots := 6 }) (Nat.le_refl _) (Nat.le_refl _) hRcells hRslots
  obtain ⟨s', hA⟩ : ∃ z, z = (T.setVm s.vm).setFrames (.invoking m args :: below) := ⟨_, rfl⟩
  rw [← hA] at Y
  have hvm : s'.vm = s.vm := by rw [hA]; rfl
  have hhp : s'.heap = H := by rw [hA]; exact hT
  have hW0 : s.WarmedH s'.vm := by rw [hvm]; exact State.WarmedH.refl s
  have hat' : ∀ w ∈ (nseAt own ic).filter vx_no, w.before args s' = true := fun w hw => vx_ot_at hW0 hvm.symm (hgood w (List.mem_cons_of_mem _ (List.mem_cons_of_mem _ hw))) (hat w hw)
  have hk' : (Cond.classLink own ik nseN).before args s' = true := vx_ot_at hW0 hvm.symm (hgood _ List.mem_cons_self) hk
  have hini' : (Cond.initialized nseN).before args s' = true := vx_ot_at hW0 hvm.symm (hgood _ (List.mem_cons_of_mem _ List.mem_cons_self)) hini
  have hU' : vx_Zq Bundle.tN "UNASSIGNED_STACK" Bundle.steD A s' s'.heap := by rw [hhp]; exact vx_Zq.moved hW0.alike (hU.kept hS.2.1)
  have hN' : vx_Zq Bundle.tN "SUPPRESSED_SENTINEL" Bundle.listD A s' s'.heap := by rw [hhp]; exact vx_Zq.moved hW0.alike (hN.kept hS.2.1)
  have h : ∀ w ∈ nseAt own ic, w.before args s' = true := vx_own hat' (vx_isRefq hU'.1) (vx_isRefq hN'.1) hU'.2.word hN'.2.word
  have hown' : s'.vm.findClass own = some m.cls := by rw [hvm]; exact hown
  have hins : (Cond.instantiable nseN 6).before args s' = true := h _ (by simp [nseAt])
  obtain ⟨vm₁, cX, kX, hfX, hkX, -, -, X₁, st1⟩ := Y.newCold hexec (own := own) (C := nseN) (index := ik) (n := 6) hown' hk' hins hini'
    (g := F0 m pc ls rest) rfl (by rw [hb]; exact d0) (Nat.le_refl _) (Nat.le_refl _)
  generalize hT1 : (T.setVm vm₁).pushCell { cls := cX, slots := kX.instanceTypes.map defaultValue, vm := .none } = T1 at X₁ st1
  have hcat : (Value.ref T.heap.size).category = 1 := rfl
  have hcellA : T1.heap[T.heap.size]? = some (freshCell cX kX) := by rw [← hT1]; exact State.heap_pushCell_size _ _
  have d3' : decode c.code (pc + 3) = .ok (.dup, 1) := by rw [hb]; exact d3
  have d4' : decode c.code (pc + 4) = .ok (.ldc_w is, 3) := by rw [hb]; exact d4
  have hstr' : vk_R own is text sa s' := vk_R.warm hW0 hstr
  obtain ⟨U, hsteps, hrun, hend, hW, hsame, ce, hce, hO⟩ := nse_run X₁ hexec htr (own := own) (ic := ic) hown' h (fun x hx => nomatch hx) hfX hkX hcellA (by rw [hhp, hT]; exact Nat.le_refl _) (msg := .ref sa) rfl
    (g := { method := m, pc := pc + 7, locals := ls, stack := .ref sa :: .ref T.heap.size :: .ref T.heap.size :: rest, locked := none }) rfl hsize rfl rfl (rest := rest) rfl
    (by rw [hb]; exact d7) (by rw [hb]; exact d10) hout hRframes (by simp only [List.map_cons, List.sum_cons, hcat]; omega) hlocks
  obtain ⟨f1, f2⟩ := vx_frame hsame
  rw [hhp] at f1 f2
  have hWs : s.WarmedH U.vm := State.WarmedH.trans hW0 hW
  have hcl : s.vm.findClass nseN = some ce.cls := by
    have h9 := hO.2
    rw [hvm] at h9
    exact h9
  have hall : s.sameButNew ({ U with vm := s.vm } : State) locs mc ms := by
    subst hA
    obtain ⟨e1, e2⟩ := hsame
    rw [State.setFrames_setFrames] at e1
    have h2 : (T.setVm s.vm).sameButNew ({ U with vm := s.vm } : State) [] (0 + 1) (0 + 6) := ⟨e1, e2⟩
    have h3 := X.same.trans h2
    rw [List.append_nil] at h3
    exact h3.mono hc hs
  refine ⟨U, ?_, .threw T.heap.size, hrun, hend, Or.inr ⟨T.heap.size, rfl, nseN, ce, locs, hx U hWs.alike f1 (fun q hq => f2 q hq (fun z hz => nomatch hz)), hce, hO.1, hcl, hWs, hall, hf⟩⟩
  refine st1 _ ?_
  show Steps p.tables e below (T1.setTop { method := m, pc := pc + 3, locals := ls, stack := .ref T.heap.size :: rest, locked := none }) _
  jvm_step X₁.here [X₁.here.top, hexec, d3', Value.category]
  exact X₁.ldcStringW hexec (own := own) (text := text) (index := is) (a := sa) hown' hstr'.1 hstr'.2
    (g := { method := m, pc := pc + 4, locals := ls, stack := .ref T.heap.size :: .ref T.heap.size :: rest, locked := none }) rfl d4' _ hsteps
end NSEW
end
section
/-! ends: returns, throws, handlers -/
abbrev XN : List String := ["java/lang/RuntimeException", "java/lang/Exception"]
def thrL (own : String) (ik ic e : Nat) : List Cond := Cond.classLink own ik (EN e) :: Cond.initialized (EN e) :: (match e with
  | 3 => (nseAt own ic).filter vx_no
  | _ => vx_atS own ic (EN e) XN)
def thrB (pl : List Nat) (own : String) (ik ic e : Nat) : Bool := ((thrL own ik ic e).zip pl).all (fun q => (tbAt (q.2, q.1) || nwAt (q.2, q.1)) && vx_ot q.1) && Nat.beq (thrL own ik ic e).length pl.length && Bundle.fit (EN e) && XN.all Bundle.fit && Nat.blt e 5
def thrW (own : String) (ik ic e : Nat) : Prop := (∀ w ∈ thrL own ik ic e, (w ∈ TB ∨ w ∈ NW) ∧ vx_ot w = true) ∧ Bundle.fit (EN e) = true ∧ (∀ n ∈ XN, Bundle.fit n = true) ∧ e < 5
theorem mem_zip {α β : Type} : ∀ {l : List α} {r : List β} {a : α}, l.length = r.length → a ∈ l → ∃ b, (a, b) ∈ l.zip r := by
  intro l
  induction l with
  | nil => intro r a _ h; cases h
  | cons x t ih =>
    intro r a hl h
    cases r with
    | nil => cases hl
    | cons y u =>
      rcases List.mem_cons.mp h with rfl | h
      · exact ⟨y, List.mem_cons_self⟩
      · obtain ⟨b, hb⟩ := ih (r := u) (by simpa using hl) h
        exact ⟨b, List.mem_cons_of_mem _ hb⟩
theorem thr_of {pl : List Nat} {own : String} {ik ic e : Nat} (h : thrB pl own ik ic e = true) : thrW own ik ic e := by
  simp only [thrB, Bool.and_eq_true] at h
  obtain ⟨⟨⟨⟨h1, h0⟩, h2⟩, h3⟩, h4⟩ := h
  refine ⟨fun w hw => ?_, h2, fun n hn => List.all_eq_true.mp h3 n hn, Nat.le_of_ble_eq_true h4⟩
  obtain ⟨b, hb⟩ := mem_zip (Nat.eq_of_beq_eq_true h0) hw
  have := List.all_eq_true.mp h1 (w, b) hb
  simp only [Bool.and_eq_true, Bool.or_eq_true] at this
  exact ⟨this.1.imp tb_of nw_of, this.2⟩
theorem Rep.kept {g : Gl} {μ : Mem} {H H1 : Heap} (h : Rep g μ H) (hq : ∀ q : Nat, q < H.size → H1[q]? = H[q]?) : Rep g μ H1 := fun k q hk => (h k q hk).kept (hq _ (vx_lt h hk))
section AM10
variable {g : Gl} {mi : MI} {R : Room} {Q : QT} {nc ns pc : Nat} {ls : List (Nat × Value)} {st : List Value} {μ : Mem} {Φ : Out → Mem → Prop}
theorem am_ret {v : Int32} {ty : FieldType} (hT : miT mi = some ty) (hn : narrow ty (.int v) = .int v) (hc : nc ≤ miK mi) (hs : ns ≤ miS mi) (hd : decode (miC mi) pc = .ok (.ireturn, 1)) (hΦ : Φ (.inl (some (.int v))) μ) : Wm g mi R (QM g mi Φ) nc ns pc ls [.int v] μ := by
  intro p e s m args below meth c C H locs L hR hS hl
  obtain ⟨hx, hb, hml, hr, hlk, hown, hts, hex, hE⟩ := C
  exact vx_ret (W.widen hc hs (W.zret (ty := ty) hx hb (hr.trans hT) hn (fun t ht _ => ⟨⟨_, μ, rfl, hΦ, by rw [ht]; exact hR⟩, hS.F ht⟩) hS.2.2 hd hlk))
theorem am_lret {v : Int64} (hT : miT mi = some .long) (hc : nc ≤ miK mi) (hs : ns ≤ miS mi) (hd : decode (miC mi) pc = .ok (.lreturn, 1)) (hΦ : Φ (.inl (some (.long v))) μ) : Wm g mi R (QM g mi Φ) nc ns pc ls [.long v] μ := by
  intro p e s m args below meth c C H locs L hR hS hl
  obtain ⟨hx, hb, hml, hr, hlk, hown, hts, hex, hE⟩ := C
  exact vx_ret (W.widen hc hs (W.lret hx hb (hr.trans hT) (fun t ht _ => ⟨⟨_, μ, rfl, hΦ, by rw [ht]; exact hR⟩, hS.F ht⟩) hS.2.2 hd hlk))
theorem am_vret (hT : miT mi = none) (hc : nc ≤ miK mi) (hs : ns ≤ miS mi) (hd : decode (miC mi) pc = .ok (.return_, 1)) (hΦ : Φ (.inl none) μ) : Wm g mi R (QM g mi Φ) nc ns pc ls [] μ := by
  intro p e s m args below meth c C H locs L hR hS hl
  obtain ⟨hx, hb, hml, hr, hlk, hown, hts, hex, hE⟩ := C
  exact vx_ret (W.widen hc hs (W.vret hx hb (hr.trans hT) (fun t ht _ => ⟨⟨_, μ, rfl, hΦ, by rw [ht]; exact hR⟩, hS.F ht⟩) hS.2.2 hd hlk))
theorem WX.out {ex : Nat} (hH : miH mi = []) (h5 : ex < 5) (hc : nc ≤ miK mi) (hs : ns ≤ miS mi) (hΦ : Φ (.inr ex) μ) : WX g mi R (QM g mi Φ) nc ns pc ls ex μ := by
  intro p e s m args below meth c C H locs L rest q ce hR hS hl hq hv hcl
  obtain ⟨hx, hb, hml, hr, hlk, hown, hts, hex, hE⟩ := C
  rw [hH] at hex
  exact vx_out (fun x hx => by rw [hex] at hx; cases hx) hlk hq hv hcl (fun t ht _ => ⟨⟨ex, μ, h5, rfl, hΦ, by rw [ht]; exact hR⟩, hS.F ht⟩) hS.2.2 hc hs
theorem thr_words {own : String} {ik ic e : Nat} (h : thrW own ik ic e) {s : State} {args : Array Value} (hts : ∀ w ∈ TB, w.before args s = true) (hN : ∀ w ∈ NW, va_Nw w s) : (∀ w ∈ thrL own ik ic e, w.before args s = true ∧ vx_ot w = true) ∧ Bundle.fit (EN e) = true ∧ (∀ n ∈ XN, Bundle.fit n = true) ∧ e < 5 := by
  refine ⟨fun w hw => ?_, h.2⟩
  obtain ⟨hm, ho⟩ := h.1 w hw
  refine ⟨?_, ho⟩
  rcases hm with hm | hm
  · exact hts w hm
  · refine (hN w hm).use ?_
    have := (List.mem_filter.mp hm).2
    cases w <;> first | rfl | exact absurd this (by simp [isNw])
theorem am_throw {ik is ic ex j : Nat} (hH : miH mi = []) (hw : thrW (miY mi).cls ik ic ex) (hs9 : strB (miY mi).cls (is, j) = true) (hR1 : 5 < R.frames) (hR2 : 100 ≤ R.locals) (hR3 : nc + 1 ≤ R.cells) (hR4 : ns + 6 ≤ R.slots)
    (hd : decode (miC mi) pc = .ok (.new ik, 3)) (d3 : decode (miC mi) (pc + 3) = .ok (.dup, 1))
    (d4 : (decode (miC mi) (pc + 4) = .ok (.ldc is, 2) ∧ decode (miC mi) (pc + 6) = .ok (.invokespecial ic, 3) ∧ decode (miC mi) (pc + 9) = .ok (.athrow, 1)) ∨ (decode (miC mi) (pc + 4) = .ok (.ldc_w is, 3) ∧ decode (miC mi) (pc + 7) = .ok (.invokespecial ic, 3) ∧ decode (miC mi) (pc + 10) = .ok (.athrow, 1)))
    (hc : nc + 1 ≤ miK mi) (hs : ns + 6 ≤ miS mi) (hΦ : Φ (.inr ex) μ) : Wm g mi R (QM g mi Φ) nc ns pc ls [] μ := by
  intro p e s m args below meth c C H locs L hR hS hl
  obtain ⟨hx, hb, hml, hr, hlk, hown, hts, hex, hE⟩ := C
  obtain ⟨t1, t2, t3, t4⟩ := thr_words hw hts hE.2.1
  simp only [strB, Bool.and_eq_true, decide_eq_true_eq] at hs9
  obtain ⟨⟨h1, h2⟩, h3⟩ := hs9
  have hst := (hE.2.2.1 j (Nat.le_of_ble_eq_true h1)).1
  rw [h2, h3] at hst
  rw [hH] at hex
  have hfin : ∀ t : State, s.vm.Alike t.vm → H.size ≤ t.heap.size → (∀ q : Nat, q < H.size → t.heap[q]? = H[q]?) → Qx g Φ (EN ex) s t := fun t _ hz hq =>
    ⟨⟨ex, μ, t4, rfl, hΦ, hR.kept hq⟩, Nat.le_trans hS.1 hz, fun q hq1 hq2 => by rw [hq q (Nat.lt_of_lt_of_le hq1 hS.1)]; exact hS.2.1 q hq1 hq2⟩
  have fr : 82 ≤ R.locals := by omega
  by_cases h3 : ex = 3
  · subst h3
    rcases d4 with ⟨d4, d6, d9⟩ | ⟨d4, d6, d9⟩
    · exact nse_throwS hx hb hE.2.2.2.2.2.2.2.1 hown (t1 _ List.mem_cons_self).1 (t1 _ (List.mem_cons_of_mem _ List.mem_cons_self)).1 hst (fun w h => (t1 w (List.mem_cons_of_mem _ (List.mem_cons_of_mem _ h))).1) (fun w h => (t1 w h).2) hE.2.2.2.1 hE.2.2.2.2.1 hS (hl.1.trans hml.symm) hd d3 d4 d6 d9 (fun x hx => by rw [hex] at hx; cases hx) hR1 (by show 0 + 82 ≤ _; omega) hR3 hR4 hlk hfin hS.2.2 hc hs
    · exact nse_throwSW hx hb hE.2.2.2.2.2.2.2.1 hown (t1 _ List.mem_cons_self).1 (t1 _ (List.mem_cons_of_mem _ List.mem_cons_self)).1 hst (fun w h => (t1 w (List.mem_cons_of_mem _ (List.mem_cons_of_mem _ h))).1) (fun w h => (t1 w h).2) hE.2.2.2.1 hE.2.2.2.2.1 hS (hl.1.trans hml.symm) hd d3 d4 d6 d9 (fun x hx => by rw [hex] at hx; cases hx) hR1 (by show 0 + 82 ≤ _; omega) hR3 hR4 hlk hfin hS.2.2 hc hs
  have hL9 : thrL (miY mi).cls ik ic ex = Cond.classLink (miY mi).cls ik (EN ex) :: Cond.initialized (EN ex) :: vx_atS (miY mi).cls ic (EN ex) XN := by
    unfold thrL
    split
    · exact absurd rfl h3
    · rfl
  rw [hL9] at t1
  rcases d4 with ⟨d4, d6, d9⟩ | ⟨d4, d6, d9⟩
  · exact vx_throwS (names := XN) hx hb hE.2.2.2.2.2.2.2.1 hown t2 t3 (t1 _ List.mem_cons_self).1 (t1 _ (List.mem_cons_of_mem _ List.mem_cons_self)).1 hst (fun w h => (t1 w (List.mem_cons_of_mem _ (List.mem_cons_of_mem _ h))).1) (fun w h => (t1 w h).2) hE.2.2.2.1 hE.2.2.2.2.1 hS (hl.1.trans hml.symm) hd d3 d4 d6 d9 (fun x hx => by rw [hex] at hx; cases hx) hR1 (by show 0 + (13 * (2 + 1) + 43) ≤ _; omega) hR3 hR4 hlk hfin hS.2.2 hc hs
  · exact vx_throwSW (names := XN) hx hb hE.2.2.2.2.2.2.2.1 hown t2 t3 (t1 _ List.mem_cons_self).1 (t1 _ (List.mem_cons_of_mem _ List.mem_cons_self)).1 hst (fun w h => (t1 w (List.mem_cons_of_mem _ (List.mem_cons_of_mem _ h))).1) (fun w h => (t1 w h).2) hE.2.2.2.1 hE.2.2.2.2.1 hS (hl.1.trans hml.symm) hd d3 d4 d6 d9 (fun x hx => by rw [hex] at hx; cases hx) hR1 (by show 0 + (13 * (2 + 1) + 43) ≤ _; omega) hR3 hR4 hlk hfin hS.2.2 hc hs
/-- caught: the handler stores the exception away -/
theorem WX.catch {ex hp n ln : Nat} {pre suf : List (Nat × Nat × Nat × Nat)} {a b ct : Nat} (hH : miH mi = pre ++ (a, b, hp, ct) :: suf) (hpass : ∀ z ∈ pre, z.2.2.2 ≠ 0 ∧ ∃ e2, e2 < 5 ∧ e2 ≠ ex ∧ Cond.classLink (miY mi).cls z.2.2.2 (EN e2) ∈ TB) (h5 : ex < 5) (hcov : a ≤ pc ∧ pc < b) (h0 : ct ≠ 0)
    (hlink : Cond.classLink (miY mi).cls ct (EN ex) ∈ TB) (hcast : Cond.castable (EN ex) (EN ex) ∈ NW) (hn : n < miN mi) (hd : (∃ k : Fin 4, (k : Nat) = n ∧ ln = 1 ∧ decode (miC mi) hp = .ok (.astore_n k, 1)) ∨ (ln = 2 ∧ decode (miC mi) hp = .ok (.astore n, 2)))
    (k : Wm g mi R Q nc ns (hp + ln) (ls.filter fun q => Nat.ble (q.1 + q.2.category) n) [] μ) : WX g mi R Q nc ns pc ls ex μ := by
  intro p e s m args below meth c C H locs L rest q ce hR hS hl hq hv hcl
  have C' := C
  obtain ⟨hx, hb, hml, hr, hlk, hown, hts, hex, hE⟩ := C'
  refine vx_catch hown (tableOf pre) ⟨a, b, hp, ct⟩ (tableOf suf) (by rw [hex, hH]; simp [tableOf]) ?_ ?_ h0 (hts _ hlink) ((hE.2.1 _ hcast).use rfl) hq hv hcl ?_
  · intro z hz
    obtain ⟨y, hy, rfl⟩ := List.mem_map.mp hz
    obtain ⟨z0, e2, h2, hne, hl2⟩ := hpass y hy
    exact Or.inr ⟨z0, EN e2, hts _ hl2, hE.2.2.2.2.2.2.2.2.2.2.2.2.1 ex e2 h5 h2 (fun q => hne q.symm)⟩
  · simp [covers, hcov]
  · have key : ∀ q9 ∈ tl g (ls.filter fun q => Nat.ble (q.1 + q.2.category) n), q9 ∈ (n, Value.ref q) :: (tl g ls).filter (fun q => !(q.1 == n) && !(q.1 + 1 == n && q.2.category == 2)) := by
      intro q9 h9
      obtain ⟨r, hr9, rfl⟩ := List.mem_map.mp h9
      obtain ⟨h1, h2⟩ := List.mem_filter.mp hr9
      have h3 := Nat.le_of_ble_eq_true h2
      have := cat_pos r.2
      refine List.mem_cons_of_mem _ (List.mem_filter.mpr ⟨List.mem_map.mpr ⟨r, h1, rfl⟩, ?_⟩)
      simp only [tv_cat, Bool.and_eq_true, Bool.not_eq_true', beq_eq_false_iff_ne, Bool.and_eq_false_iff]
      refine ⟨by omega, ?_⟩
      by_cases hz : r.2.category = 2
      · left; omega
      · right; exact hz
    rcases hd with ⟨k4, hk4, rfl, hd⟩ | ⟨rfl, hd⟩
    · exact lv_astore_n hx hb hd hk4 hl hn rfl fun L' hl' => k p e s m args below meth c C H locs L' hR hS (lv_weak hl' key)
    · exact lv_astore hx hb hd hl hn rfl fun L' hl' => k p e s m args below meth c C H locs L' hR hS (lv_weak hl' key)
end AM10
end
section
/-! the computation of verification conditions -/
def fnd {α : Type} : List (Nat × α) → Nat → Option α
  | [], _ => none
  | q :: t, i => match Nat.beq q.1 i with
    | true => some q.2
    | false => fnd t i
theorem fnd_mem {α : Type} {l : List (Nat × α)} {i : Nat} {a : α} (h : fnd l i = some a) : (i, a) ∈ l := by
  induction l with
  | nil => cases h
  | cons q t ih =>
    unfold fnd at h
    cases hb : Nat.beq q.1 i with
    | true =>
      rw [hb] at h
      rw [← Nat.eq_of_beq_eq_true hb, ← Option.some.inj h]
      exact List.mem_cons_self
    | false =>
      rw [hb] at h
      exact List.mem_cons_of_mem _ (ih h)
abbrev Lo : Type := List (Nat × Value)
abbrev Kt : Type := Nat → Nat → Nat → Lo → List Value → Mem → Prop
/-- callees: the method, whether it is of a recursive group, its number of arguments, the words' places; of an inherited one its name, its owner -/
abbrev Mth : Type := MI × Bool × Nat × List Nat
abbrev MthU : Type := MI × Bool × Nat × List Nat × MethodName × String × Nat
abbrev Pool : Type := List (Nat × Nat × Nat × Nat × Nat × Nat) × List (Nat × Mth) × List (Nat × Mth) × List (Nat × Mth) × List (Nat × MthU) × List (Nat × Int32 × Nat) × List (Nat × Int64 × Nat) × List (Nat × Nat) × List (Nat × Nat × Nat × Nat × Nat) × List (Nat × Nat × List Nat) × List (Nat × Nat × Nat) × List (Nat × Nat × Nat) × List (Nat × Mth)
def pF (P : Pool) := P.1
def pV (P : Pool) := P.2.1
def pS (P : Pool) := P.2.2.1
def pN (P : Pool) := P.2.2.2.1
def pU (P : Pool) := P.2.2.2.2.1
def pC (P : Pool) := P.2.2.2.2.2.1
def pJ (P : Pool) := P.2.2.2.2.2.2.1
def pT (P : Pool) := P.2.2.2.2.2.2.2.1
def pA (P : Pool) := P.2.2.2.2.2.2.2.2.1
def pM (P : Pool) := P.2.2.2.2.2.2.2.2.2.1
/-- statics (0 COMPACT_STRINGS, 1 the formatter), a text's fields (0 value, 1 coder), calls on a text -/
def pG (P : Pool) := P.2.2.2.2.2.2.2.2.2.2.1
def pQ (P : Pool) := P.2.2.2.2.2.2.2.2.2.2.2.1
def pW (P : Pool) := P.2.2.2.2.2.2.2.2.2.2.2.2
def isS (k : Nat) : Bool := Nat.ble 1000 k && Nat.blt k 1061
theorem isS_ok {k : Nat} (h : isS k = true) : 1000 ≤ k ∧ k < 1061 := by
  simp only [isS, Bool.and_eq_true] at h; exact ⟨Nat.le_of_ble_eq_true h.1, Nat.le_of_ble_eq_true h.2⟩
theorem isS_of {k : Nat} (h1 : 1000 ≤ k) (h2 : k < 1061) : isS k = true := by
  simp only [isS, Bool.and_eq_true]; exact ⟨Nat.ble_eq_true_of_le h1, Nat.ble_eq_true_of_le h2⟩
def mabs (x : Int32) : Int32 := if 0 ≤ x then x else 0 - x
def mmax (x y : Int32) : Int32 := if x < y then y else x
def mmin (x y : Int32) : Int32 := if y < x then y else x
def mathB (own : String) (q : Nat × Nat × List Nat) : Bool := tbAt (q.2.2.getD 3 0, .initialized "java/lang/Math") && (match q.2.1 with
  | 0 => tbAt (q.2.2.getD 0 0, .methodLink own q.1 Lib.Math.abs.name) && tbAt (q.2.2.getD 1 0, .static Lib.Math.abs.name) && tbAt (q.2.2.getD 2 0, .code Lib.Math.abs.name Lib.Math.abs.code 1 (some .int))
  | 1 => tbAt (q.2.2.getD 0 0, .methodLink own q.1 Lib.Math.max.name) && tbAt (q.2.2.getD 1 0, .static Lib.Math.max.name) && tbAt (q.2.2.getD 2 0, .code Lib.Math.max.name Lib.Math.max.code 2 (some .int))
  | _ => tbAt (q.2.2.getD 0 0, .methodLink own q.1 Lib.Math.min.name) && tbAt (q.2.2.getD 1 0, .static Lib.Math.min.name) && tbAt (q.2.2.getD 2 0, .code Lib.Math.min.name Lib.Math.min.code 2 (some .int)))
/-- throws: at a pc, the class's index, the text's index, its place, the constructor's index, the kind, whether wide; handlers: from, to, handler, its class's index, kind, local, length -/
abbrev Thr : Type := Nat × Nat × Nat × Nat × Nat × Bool
abbrev Hdl : Type := Nat × Nat × Nat × Nat × Nat × Nat × Nat
abbrev MT : Type := List (Nat × Instr × Nat) × Pool × List (Nat × Thr) × List Hdl
def onI (f : Int32 → Mem → Prop) (x : Nat → Mem → Prop) : Out → Mem → Prop
  | .inl (some (.int r)), μ => f r μ
  | .inr e, μ => x e μ
  | _, _ => False
def onL (f : Int64 → Mem → Prop) (x : Nat → Mem → Prop) : Out → Mem → Prop
  | .inl (some (.long r)), μ => f r μ
  | .inr e, μ => x e μ
  | _, _ => False
def onV (f : Mem → Prop) (x : Nat → Mem → Prop) : Out → Mem → Prop
  | .inl none, μ => f μ
  | .inr e, μ => x e μ
  | _, _ => False
def onR (t : Option FieldType) (f : List Value → Mem → Prop) (x : Nat → Mem → Prop) : Out → Mem → Prop := match t with
  | none => onV (f []) x
  | some .long => onL (fun r => f [.long r]) x
  | some _ => onI (fun r => f [.int r]) x
def hx (K : Nat → Nat → Nat → Prop) (pc e : Nat) : List Hdl → Prop
  | [] => False
  | (a, b, hp, _, e', n, ln) :: t => match Nat.beq e' e with
    | true => match Nat.ble a pc && Nat.blt pc b with
      | true => K hp n ln
      | false => False
    | false => hx K pc e t
def spl : Nat → List Value → List Value → (List Value → List Value → Prop) → Prop
  | 0, st, acc, f => f acc st
  | n + 1, v :: st, acc, f => spl n st (v :: acc) f
  | _ + 1, [], _, _ => False
theorem spl_ok : ∀ {n : Nat} {st acc : List Value} {f : List Value → List Value → Prop}, spl n st acc f → ∃ As t, f As t ∧ As.reverse ++ t = acc.reverse ++ st ∧ As.length = n + acc.length := by
  intro n
  induction n with
  | zero => intro st acc f h; exact ⟨acc, st, h, rfl, by omega⟩
  | succ n ih =>
    intro st acc f h
    cases st with
    | nil => exact h.elim
    | cons v st =>
      obtain ⟨As, t, h1, h2, h3⟩ := ih h
      exact ⟨As, t, h1, by rw [h2]; simp, by rw [h3]; simp; omega⟩
def isK (k c : Nat) (X : Prop) : Prop := match Nat.blt k NC && Nat.beq (sh k).1 c with
  | true => X
  | false => False
theorem isK_ok {k c : Nat} {X : Prop} (h : isK k c X) : k < NC ∧ (sh k).1 = c ∧ X := by
  unfold isK at h
  cases hb : Nat.blt k NC && Nat.beq (sh k).1 c with
  | false => rw [hb] at h; exact h.elim
  | true =>
    rw [hb] at h
    simp only [Bool.and_eq_true] at hb
    exact ⟨Nat.le_of_ble_eq_true hb.1, Nat.eq_of_beq_eq_true hb.2, h⟩
theorem isK_of {k c : Nat} {X : Prop} (h1 : k < NC) (h2 : (sh k).1 = c) (h : X) : isK k c X := by
  unfold isK
  have : (Nat.blt k NC && Nat.beq (sh k).1 c) = true := by
    rw [Bool.and_eq_true]; exact ⟨Nat.ble_eq_true_of_le h1, by rw [h2]; exact Nat.beq_refl c⟩
  rw [this]; exact h
def isT (b : Bool) (X : Prop) : Prop := match b with
  | true => X
  | false => False
theorem isT_ok {b : Bool} {X : Prop} (h : isT b X) : b = true ∧ X := by cases b with
  | true => exact ⟨rfl, h⟩
  | false => exact h.elim
def kb (k : Nat) : Nat := k - 2000
theorem kb_add {k : Nat} (h : Nat.ble 3000 k = true) : k = kb k + 2000 := (Nat.sub_add_cancel (Nat.le_trans (Nat.le_of_ble_eq_true rfl) (Nat.le_of_ble_eq_true h))).symm
def if2 (b : Bool) (X Y : Prop) : Prop := match b with
  | true => X
  | false => Y
theorem if2_ok {b : Bool} {X Y : Prop} (h : if2 b X Y) : (b = true ∧ X) ∨ (b = false ∧ Y) := by
  cases b with
  | true => exact Or.inl ⟨rfl, h⟩
  | false => exact Or.inr ⟨rfl, h⟩
def rmB (R : Room) (mj : MI) (nc ns : Nat) : Bool := Nat.ble (miD mj + 1) R.frames && Nat.ble (59 + 100 * miD mj) R.locals && Nat.ble (nc + miK mj) R.cells && Nat.ble (ns + miS mj) R.slots
def callK (R : Room) (mj : MI) (rc : Bool) (nc ns : Nat) (S : Nat → Prop) : Prop := match rc with
  | false => isT (rmB R mj nc ns) (S 0)
  | true => ∃ dx, CallR R mj dx nc ns ∧ S dx
theorem callK_ok {R : Room} {mj : MI} {rc : Bool} {nc ns : Nat} {S : Nat → Prop} (h : callK R mj rc nc ns S) : ∃ dx, CallR R mj dx nc ns ∧ S dx := by
  cases rc with
  | true => exact h
  | false =>
    obtain ⟨h1, h2⟩ := isT_ok h
    simp only [rmB, Bool.and_eq_true] at h1
    obtain ⟨⟨⟨a1, a2⟩, a3⟩, a4⟩ := h1
    exact ⟨0, ⟨Nat.le_of_ble_eq_true a1, Nat.le_of_ble_eq_true a2, Nat.le_of_ble_eq_true a3, Nat.le_of_ble_eq_true a4⟩, h2⟩
def catS : List Value → Nat
  | [] => 0
  | v :: t => v.category + catS t
theorem catS_eq (st : List Value) : (st.map fun v => v.category).sum = catS st := by
  induction st with
  | nil => rfl
  | cons v t ih => rw [List.map_cons, List.sum_cons, ih]; rfl
/-- an int's return, as its type wants it -/
def rtI (t : Option FieldType) (v : Int32) (X : Prop) : Prop := match t with
  | some .int => X
  | some .boolean => (v = 0 ∨ v = 1) ∧ X
  | some ty => narrow ty (.int v) = .int v ∧ X
  | none => False
theorem rtI_ok {t : Option FieldType} {v : Int32} {X : Prop} (h : rtI t v X) : ∃ ty, t = some ty ∧ narrow ty (.int v) = .int v ∧ X := by
  unfold rtI at h
  split at h
  · exact ⟨_, rfl, rfl, h⟩
  · refine ⟨_, rfl, ?_, h.2⟩
    rcases h.1 with rfl | rfl <;> decide +kernel
  · exact ⟨_, rfl, h.1, h.2⟩
  · exact h.elim
def vI : Option Value → (Int32 → Prop) → Prop
  | some (.int x), f => f x
  | _, _ => False
def vL : Option Value → (Int64 → Prop) → Prop
  | some (.long x), f => f x
  | _, _ => False
def vA : Option Value → (Nat → Prop) → Prop
  | some (.ref x), f => f x
  | _, _ => False
def s1 : List Value → (Int32 → List Value → Prop) → Prop
  | .int x :: r, f => f x r
  | _, _ => False
def s2 : List Value → (Int32 → Int32 → List Value → Prop) → Prop
  | .int y :: .int x :: r, f => f x y r
  | _, _ => False
def j1 : List Value → (Int64 → List Value → Prop) → Prop
  | .long x :: r, f => f x r
  | _, _ => False
def j2 : List Value → (Int64 → Int64 → List Value → Prop) → Prop
  | .long y :: .long x :: r, f => f x y r
  | _, _ => False
def ji : List Value → (Int64 → Int32 → List Value → Prop) → Prop
  | .int y :: .long x :: r, f => f x y r
  | _, _ => False
def a1 : List Value → (Nat → List Value → Prop) → Prop
  | .ref k :: r, f => f k r
  | _, _ => False
def ai : List Value → (Nat → Int32 → List Value → Prop) → Prop
  | .int i :: .ref k :: r, f => f k i r
  | _, _ => False
def aii : List Value → (Nat → Int32 → Int32 → List Value → Prop) → Prop
  | .int x :: .int i :: .ref k :: r, f => f k i x r
  | _, _ => False
def aij : List Value → (Nat → Int32 → Int64 → List Value → Prop) → Prop
  | .long x :: .int i :: .ref k :: r, f => f k i x r
  | _, _ => False
def aia : List Value → (Nat → Int32 → Nat → List Value → Prop) → Prop
  | .ref v :: .int i :: .ref k :: r, f => f k i v r
  | _, _ => False
def c1 : List Value → (Value → List Value → Prop) → Prop
  | v :: r, f => isT (Nat.beq v.category 1) (f v r)
  | _, _ => False
def cp5 : List Value → (Nat → Int32 → Nat → Int32 → Int32 → Prop) → Prop
  | [.int n, .int dp, .ref k1, .int sp, .ref k0], f => f k0 sp k1 dp n
  | _, _ => False
/-- a field written -/
def putF (μ : Mem) (k j t : Nat) (v : Value) (X : Mem → Prop) : Prop := match t, v with
  | 0, .int x => X (sI μ k j x)
  | 3, .int x => (x = 0 ∨ x = 1) ∧ X (sI μ k j x)
  | 1, .long x => X (sL μ k j x)
  | _, _ => False
end
section
/-! one step, and its soundness -/
def mF {α : Type} : Option α → (α → Prop) → Prop
  | some a, f => f a
  | none, _ => False
theorem mF_ok {α : Type} {o : Option α} {f : α → Prop} (h : mF o f) : ∃ a, o = some a ∧ f a := by
  cases o with
  | some a => exact ⟨a, rfl, h⟩
  | none => exact h.elim
def c12 : List Value → (Value → List Value → Prop) → Prop
  | v :: r, f => f v r
  | _, _ => False
theorem c12_ok {st : List Value} {f : Value → List Value → Prop} (h : c12 st f) : ∃ v r, st = v :: r ∧ f v r := by
  cases st with
  | nil => exact h.elim
  | cons v r => exact ⟨v, r, rfl, h⟩
theorem c1_ok {st : List Value} {f : Value → List Value → Prop} (h : c1 st f) : ∃ v r, st = v :: r ∧ v.category = 1 ∧ f v r := by
  cases st with
  | nil => exact h.elim
  | cons v r => obtain ⟨h1, h2⟩ := isT_ok h; exact ⟨v, r, rfl, Nat.eq_of_beq_eq_true h1, h2⟩
theorem s1_ok {st : List Value} {f : Int32 → List Value → Prop} (h : s1 st f) : ∃ x r, st = .int x :: r ∧ f x r := by
  unfold s1 at h
  split at h
  · exact ⟨_, _, rfl, h⟩
  · exact h.elim
theorem s2_ok {st : List Value} {f : Int32 → Int32 → List Value → Prop} (h : s2 st f) : ∃ x y r, st = .int y :: .int x :: r ∧ f x y r := by
  unfold s2 at h
  split at h
  · exact ⟨_, _, _, rfl, h⟩
  · exact h.elim
theorem j1_ok {st : List Value} {f : Int64 → List Value → Prop} (h : j1 st f) : ∃ x r, st = .long x :: r ∧ f x r := by
  unfold j1 at h
  split at h
  · exact ⟨_, _, rfl, h⟩
  · exact h.elim
theorem j2_ok {st : List Value} {f : Int64 → Int64 → List Value → Prop} (h : j2 st f) : ∃ x y r, st = .long y :: .long x :: r ∧ f x y r := by
  unfold j2 at h
  split at h
  · exact ⟨_, _, _, rfl, h⟩
  · exact h.elim
theorem ji_ok {st : List Value} {f : Int64 → Int32 → List Value → Prop} (h : ji st f) : ∃ x y r, st = .int y :: .long x :: r ∧ f x y r := by
  unfold ji at h
  split at h
  · exact ⟨_, _, _, rfl, h⟩
  · exact h.elim
theorem a1_ok {st : List Value} {f : Nat → List Value → Prop} (h : a1 st f) : ∃ x r, st = .ref x :: r ∧ f x r := by
  unfold a1 at h
  split at h
  · exact ⟨_, _, rfl, h⟩
  · exact h.elim
theorem ai_ok {st : List Value} {f : Nat → Int32 → List Value → Prop} (h : ai st f) : ∃ k i r, st = .int i :: .ref k :: r ∧ f k i r := by
  unfold ai at h
  split at h
  · exact ⟨_, _, _, rfl, h⟩
  · exact h.elim
theorem aii_ok {st : List Value} {f : Nat → Int32 → Int32 → List Value → Prop} (h : aii st f) : ∃ k i x r, st = .int x :: .int i :: .ref k :: r ∧ f k i x r := by
  unfold aii at h
  split at h
  · exact ⟨_, _, _, _, rfl, h⟩
  · exact h.elim
theorem aij_ok {st : List Value} {f : Nat → Int32 → Int64 → List Value → Prop} (h : aij st f) : ∃ k i x r, st = .long x :: .int i :: .ref k :: r ∧ f k i x r := by
  unfold aij at h
  split at h
  · exact ⟨_, _, _, _, rfl, h⟩
  · exact h.elim
theorem aia_ok {st : List Value} {f : Nat → Int32 → Nat → List Value → Prop} (h : aia st f) : ∃ k i x r, st = .ref x :: .int i :: .ref k :: r ∧ f k i x r := by
  unfold aia at h
  split at h
  · exact ⟨_, _, _, _, rfl, h⟩
  · exact h.elim
theorem cp5_ok {st : List Value} {f : Nat → Int32 → Nat → Int32 → Int32 → Prop} (h : cp5 st f) : ∃ k0 sp k1 dp n, st = [.int n, .int dp, .ref k1, .int sp, .ref k0] ∧ f k0 sp k1 dp n := by
  unfold cp5 at h
  split at h
  · exact ⟨_, _, _, _, _, rfl, h⟩
  · exact h.elim
theorem vI_ok {o : Option Value} {f : Int32 → Prop} (h : vI o f) : ∃ x, o = some (.int x) ∧ f x := by
  unfold vI at h
  split at h
  · exact ⟨_, rfl, h⟩
  · exact h.elim
theorem vL_ok {o : Option Value} {f : Int64 → Prop} (h : vL o f) : ∃ x, o = some (.long x) ∧ f x := by
  unfold vL at h
  split at h
  · exact ⟨_, rfl, h⟩
  · exact h.elim
theorem vA_ok {o : Option Value} {f : Nat → Prop} (h : vA o f) : ∃ x, o = some (.ref x) ∧ f x := by
  unfold vA at h
  split at h
  · exact ⟨_, rfl, h⟩
  · exact h.elim
theorem putF_ok {μ : Mem} {k j t : Nat} {v : Value} {X : Mem → Prop} (h : putF μ k j t v X) : ∃ μ', ((∃ x, v = .int x ∧ μ' = sI μ k j x ∧ (t = 0 ∨ t = 3 ∧ (x = 0 ∨ x = 1))) ∨ ∃ x, v = .long x ∧ μ' = sL μ k j x ∧ t = 1) ∧ X μ' := by
  unfold putF at h
  split at h
  · exact ⟨_, Or.inl ⟨_, rfl, rfl, Or.inl rfl⟩, h⟩
  · exact ⟨_, Or.inl ⟨_, rfl, rfl, Or.inr ⟨rfl, h.1⟩⟩, h.2⟩
  · exact ⟨_, Or.inr ⟨_, rfl, rfl, rfl⟩, h⟩
  · exact h.elim
def lcv (v : Fin 2) : Int64 := match v with | 0 => 0 | 1 => 1
theorem am_lconst {g : Gl} {mi : MI} {R : Room} {Q : QT} {nc ns pc : Nat} {ls : List (Nat × Value)} {st : List Value} {μ : Mem} {v : Fin 2} (hd : decode (miC mi) pc = .ok (.lconst v, 1)) (k : Wm g mi R Q nc ns (pc + 1) ls (.long (lcv v) :: st) μ) : Wm g mi R Q nc ns pc ls st μ := fun p e s m args below meth c C H locs L hR hS hl =>
  lv_lconst C.1 C.2.1 hd (by match v with | 0 => rfl | 1 => rfl) (k p e s m args below meth c C H locs L hR hS hl)
def step (R : Room) (RET : Out → Nat → Nat → Mem → Prop) (g : Gl) (mi : MI) (M : MT) (i : Instr) (nc ns pc : Nat) (ls : Lo) (st : List Value) (μ : Mem) (K : Kt) : Prop := match i with
  | .iadd => s2 st fun x y r => K nc ns (pc + 1) ls (.int (x + y) :: r) μ
  | .isub => s2 st fun x y r => K nc ns (pc + 1) ls (.int (x - y) :: r) μ
  | .imul => s2 st fun x y r => K nc ns (pc + 1) ls (.int (x * y) :: r) μ
  | .iand => s2 st fun x y r => K nc ns (pc + 1) ls (.int (x &&& y) :: r) μ
  | .ior => s2 st fun x y r => K nc ns (pc + 1) ls (.int (x ||| y) :: r) μ
  | .ixor => s2 st fun x y r => K nc ns (pc + 1) ls (.int (x ^^^ y) :: r) μ
  | .ishl => s2 st fun x y r => K nc ns (pc + 1) ls (.int (x <<< (y &&& 31)) :: r) μ
  | .ishr => s2 st fun x y r => K nc ns (pc + 1) ls (.int (x >>> (y &&& 31)) :: r) μ
  | .iushr => s2 st fun x y r => K nc ns (pc + 1) ls (.int (ush x y) :: r) μ
  | .idiv => s2 st fun x y r => (¬ y = 0) ∧ K nc ns (pc + 1) ls (.int (x / y) :: r) μ
  | .irem => s2 st fun x y r => (¬ y = 0) ∧ K nc ns (pc + 1) ls (.int (x - x / y * y) :: r) μ
  | .ineg => s1 st fun x r => K nc ns (pc + 1) ls (.int (-x) :: r) μ
  | .ladd => j2 st fun x y r => K nc ns (pc + 1) ls (.long (x + y) :: r) μ
  | .lsub => j2 st fun x y r => K nc ns (pc + 1) ls (.long (x - y) :: r) μ
  | .land => j2 st fun x y r => K nc ns (pc + 1) ls (.long (x &&& y) :: r) μ
  | .lor => j2 st fun x y r => K nc ns (pc + 1) ls (.long (x ||| y) :: r) μ
  | .lxor => j2 st fun x y r => K nc ns (pc + 1) ls (.long (x ^^^ y) :: r) μ
  | .lushr => ji st fun x y r => K nc ns (pc + 1) ls (.long (lush x y) :: r) μ
  | .lshl => ji st fun x y r => K nc ns (pc + 1) ls (.long (x <<< (y.toInt64 &&& 63)) :: r) μ
  | .lshr => ji st fun x y r => K nc ns (pc + 1) ls (.long (x >>> (y.toInt64 &&& 63)) :: r) μ
  | .lcmp => j2 st fun x y r => K nc ns (pc + 1) ls (.int (lg_cmp x y) :: r) μ
  | .i2l => s1 st fun x r => K nc ns (pc + 1) ls (.long x.toInt64 :: r) μ
  | .l2i => j1 st fun x r => K nc ns (pc + 1) ls (.int x.toInt32 :: r) μ
  | .i2b => s1 st fun x r => K nc ns (pc + 1) ls (.int x.toInt8.toInt32 :: r) μ
  | .iconst v => K nc ns (pc + 1) ls (.int (iv v) :: st) μ
  | .bipush v => K nc ns (pc + 2) ls (.int (iv v) :: st) μ
  | .sipush v => K nc ns (pc + 3) ls (.int (iv v) :: st) μ
  | .lconst v => K nc ns (pc + 1) ls (.long (lcv v) :: st) μ
  | .iload_n v => vI (lk ls v) fun x => K nc ns (pc + 1) ls (.int x :: st) μ
  | .iload v => vI (lk ls v) fun x => K nc ns (pc + 2) ls (.int x :: st) μ
  | .lload_n v => vL (lk ls v) fun x => K nc ns (pc + 1) ls (.long x :: st) μ
  | .lload v => vL (lk ls v) fun x => K nc ns (pc + 2) ls (.long x :: st) μ
  | .aload_n v => vA (lk ls v) fun x => K nc ns (pc + 1) ls (.ref x :: st) μ
  | .aload v => vA (lk ls v) fun x => K nc ns (pc + 2) ls (.ref x :: st) μ
  | .istore_n v => s1 st fun x r => K nc ns (pc + 1) (lput ls v (.int x)) r μ
  | .istore v => s1 st fun x r => K nc ns (pc + 2) (lput ls v (.int x)) r μ
  | .lstore_n v => j1 st fun x r => K nc ns (pc + 1) (lput ls v (.long x)) r μ
  | .lstore v => j1 st fun x r => K nc ns (pc + 2) (lput ls v (.long x)) r μ
  | .astore_n v => a1 st fun x r => K nc ns (pc + 1) (lput ls v (.ref x)) r μ
  | .astore v => a1 st fun x r => K nc ns (pc + 2) (lput ls v (.ref x)) r μ
  | .iinc v w => vI (lk ls v) fun x => K nc ns (pc + 3) (lput ls v (.int (x + iv w))) st μ
  | .dup => c1 st fun v r => K nc ns (pc + 1) ls (v :: v :: r) μ
  | .pop => c1 st fun v r => K nc ns (pc + 1) ls r μ
  | .dup2 => c1 st fun v r => c1 r fun w r => K nc ns (pc + 1) ls (v :: w :: v :: w :: r) μ
  | .goto o => K nc ns (jt pc o) ls st μ
  | .ifCond .eq o => s1 st fun x r => (x = 0 → K nc ns (jt pc o) ls r μ) ∧ (¬ x = 0 → K nc ns (pc + 3) ls r μ)
  | .if_icmp .eq o => s2 st fun x y r => (x = y → K nc ns (jt pc o) ls r μ) ∧ (¬ x = y → K nc ns (pc + 3) ls r μ)
  | .ifCond .ne o => s1 st fun x r => (¬ x = 0 → K nc ns (jt pc o) ls r μ) ∧ (x = 0 → K nc ns (pc + 3) ls r μ)
  | .if_icmp .ne o => s2 st fun x y r => (¬ x = y → K nc ns (jt pc o) ls r μ) ∧ (x = y → K nc ns (pc + 3) ls r μ)
  | .ifCond .lt o => s1 st fun x r => (x < 0 → K nc ns (jt pc o) ls r μ) ∧ (¬ x < 0 → K nc ns (pc + 3) ls r μ)
  | .if_icmp .lt o => s2 st fun x y r => (x < y → K nc ns (jt pc o) ls r μ) ∧ (¬ x < y → K nc ns (pc + 3) ls r μ)
  | .ifCond .ge o => s1 st fun x r => (0 ≤ x → K nc ns (jt pc o) ls r μ) ∧ (¬ 0 ≤ x → K nc ns (pc + 3) ls r μ)
  | .if_icmp .ge o => s2 st fun x y r => (y ≤ x → K nc ns (jt pc o) ls r μ) ∧ (¬ y ≤ x → K nc ns (pc + 3) ls r μ)
  | .ifCond .gt o => s1 st fun x r => (0 < x → K nc ns (jt pc o) ls r μ) ∧ (¬ 0 < x → K nc ns (pc + 3) ls r μ)
  | .if_icmp .gt o => s2 st fun x y r => (y < x → K nc ns (jt pc o) ls r μ) ∧ (¬ y < x → K nc ns (pc + 3) ls r μ)
  | .ifCond .le o => s1 st fun x r => (x ≤ 0 → K nc ns (jt pc o) ls r μ) ∧ (¬ x ≤ 0 → K nc ns (pc + 3) ls r μ)
  | .if_icmp .le o => s2 st fun x y r => (x ≤ y → K nc ns (jt pc o) ls r μ) ∧ (¬ x ≤ y → K nc ns (pc + 3) ls r μ)
  | .tableswitch d lo hi os => s1 st fun x r => tsw x (fun o => K nc ns (jt pc o) ls r μ) d lo os.toList
  | .getfield v => match fnd (pQ M.2.1) v with | some q => a1 st fun k r => isT (isS k) (match q.1 with | 0 => K nc ns (pc + 3) ls (.ref (k + 2000) :: r) μ | _ => K nc ns (pc + 3) ls (.int 0 :: r) μ) | none => mF (fnd (pF M.2.1) v) fun q => a1 st fun k r => isK k q.1 (K nc ns (pc + 3) ls (gF μ k q.2.1 (ftc q.1 q.2.1) :: r) μ)
  | .putfield v => mF (fnd (pF M.2.1) v) fun q => c12 st fun x r => a1 r fun k r => isK k q.1 (isT (flW (v, q)) (putF μ k q.2.1 (ftc q.1 q.2.1) x fun μ => K nc ns (pc + 3) ls r μ))
  | .iaload => ai st fun k i r => match Nat.beq k 2000 with | true => vp_in i (gN g) ∧ K nc ns (pc + 1) ls (.int (gX g (nx i)) :: r) μ | false => isK k 100 (vp_in i (sh k).2 ∧ K nc ns (pc + 1) ls (.int (mI μ k (nx i)) :: r) μ)
  | .laload => ai st fun k i r => isK k 101 (vp_in i (sh k).2 ∧ K nc ns (pc + 1) ls (.long (mL μ k (nx i)) :: r) μ)
  | .baload => ai st fun k i r => if2 (Nat.ble 3000 k) (isT (isS (kb k)) (vp_in i (sby (kb k)).length ∧ K nc ns (pc + 1) ls (.int ((sby (kb k)).getD (nx i) 0) :: r) μ)) (match Nat.beq (sh k).1 102 with | true => isK k 102 (vp_in i (sh k).2 ∧ K nc ns (pc + 1) ls (.int (mI μ k (nx i)) :: r) μ) | false => isK k 103 (vp_in i (sh k).2 ∧ K nc ns (pc + 1) ls (.int (mI μ k (nx i)) :: r) μ))
  | .aaload => ai st fun k i r => isK k 104 (vp_in i (sh k).2 ∧ mP μ (nx i) < NC ∧ K nc ns (pc + 1) ls (.ref (mP μ (nx i)) :: r) μ)
  | .arraylength => a1 st fun k r => if2 (Nat.ble 3000 k) (isT (isS (kb k)) (K nc ns (pc + 1) ls (.int (nI (sby (kb k)).length) :: r) μ)) (match Nat.beq k 2000 with | true => K nc ns (pc + 1) ls (.int (nI (gN g)) :: r) μ | false => isT (Nat.blt k NC && Nat.ble 100 (sh k).1 && Nat.blt (sh k).1 105) (K nc ns (pc + 1) ls (.int (nI (sh k).2) :: r) μ))
  | .getstatic v => mF (fnd (pG M.2.1) v) fun q => match q.1 with | 0 => K nc ns (pc + 3) ls (.int 1 :: st) μ | _ => K nc ns (pc + 3) ls (szv g :: st) μ
  | .i2c => s1 st fun x r => K nc ns (pc + 1) ls (.int (x.toUInt32 % 65536).toInt32 :: r) μ
  | .iastore => aii st fun k i x r => isK k 100 (vp_in i (sh k).2 ∧ K nc ns (pc + 1) ls r (sI μ k (nx i) x))
  | .lastore => aij st fun k i x r => isK k 101 (vp_in i (sh k).2 ∧ K nc ns (pc + 1) ls r (sL μ k (nx i) x))
  | .bastore => aii st fun k i x r => match Nat.beq (sh k).1 102 with | true => isK k 102 (vp_in i (sh k).2 ∧ K nc ns (pc + 1) ls r (sI μ k (nx i) x.toInt8.toInt32)) | false => isK k 103 (vp_in i (sh k).2 ∧ (x = 0 ∨ x = 1) ∧ K nc ns (pc + 1) ls r (sI μ k (nx i) x))
  | .aastore => aia st fun k i v r => isK k 104 (vp_in i (sh k).2 ∧ isK v 8 (K nc ns (pc + 1) ls r (sP μ (nx i) v)))
  | .ldc v => match fnd (pC M.2.1) v with | some q => K nc ns (pc + 2) ls (.int q.1 :: st) μ | none => mF (fnd (pT M.2.1) v) fun j => K nc ns (pc + 2) ls (.ref (1000 + j) :: st) μ
  | .ldc_w v => mF (fnd (pC M.2.1) v) fun q => K nc ns (pc + 3) ls (.int q.1 :: st) μ
  | .ldc2_w v => mF (fnd (pJ M.2.1) v) fun q => K nc ns (pc + 3) ls (.long q.1 :: st) μ
  | .ireturn => s1 st fun v r => match r with | [] => rtI (miT mi) v (RET (.inl (some (.int v))) nc ns μ) | _ => False
  | .lreturn => j1 st fun v r => match r with | [] => RET (.inl (some (.long v))) nc ns μ | _ => False
  | .return_ => match st with | [] => RET (.inl none) nc ns μ | _ => False
  | .new v => match st with | [] => mF (fnd M.2.2.1 pc) fun q => isT (Nat.beq q.1 v && Nat.ble 6 R.frames && Nat.ble 100 R.locals && Nat.ble (nc + 1) R.cells && Nat.ble (ns + 6) R.slots && M.2.2.2.isEmpty) (RET (.inr q.2.2.2.2.1) (nc + 1) (ns + 6) μ) | _ => False
  | .invokevirtual v => match fnd (pW M.2.1) v with | some q => spl q.2.2.1 st [] fun As t => a1 t fun k r => isT (isS k) (isT (Nat.ble (catS r) 8) (callK R q.1 q.2.1 nc ns fun dx => Spec g q.1 dx (.ref k :: As) μ (onR (miT q.1) (fun vs μ => K (nc + miK q.1) (ns + miS q.1) (pc + 3) ls (vs ++ r) μ) fun _ _ => False))) | none => match fnd (pV M.2.1) v with | some q => spl q.2.2.1 st [] fun As t => a1 t fun k r => isK k (q.2.2.2.getD 4 0) (isT (Nat.ble (catS r) 8) (callK R q.1 q.2.1 nc ns fun dx => Spec g q.1 dx (.ref k :: As) μ (onR (miT q.1) (fun vs μ => K (nc + miK q.1) (ns + miS q.1) (pc + 3) ls (vs ++ r) μ) (fun e μ => match M.2.2.2 with | [] => RET (.inr e) (nc + miK q.1) (ns + miS q.1) μ | h :: t => hx (fun hp n ln => K (nc + miK q.1) (ns + miS q.1) (hp + ln) (ls.filter fun q => Nat.ble (q.1 + q.2.category) n) [] μ) pc e (h :: t))))) | none => mF (fnd (pU M.2.1) v) fun q => spl q.2.2.1 st [] fun As t => a1 t fun k r => isK k q.2.2.2.2.2.2 (isT (Nat.ble (catS r) 8) (callK R q.1 q.2.1 nc ns fun dx => Spec g q.1 dx (.ref k :: As) μ (onR (miT q.1) (fun vs μ => K (nc + miK q.1) (ns + miS q.1) (pc + 3) ls (vs ++ r) μ) fun _ _ => False)))
  | .invokestatic v => match fnd (pM M.2.1) v with | some q => isT (Nat.ble 1 R.frames && Nat.ble (catS st + 13) R.locals && Nat.ble nc R.cells && Nat.ble ns R.slots) (match q.1 with | 0 => s1 st fun x r => K nc ns (pc + 3) ls (.int (mabs x) :: r) μ | 1 => s2 st fun x y r => K nc ns (pc + 3) ls (.int (mmax x y) :: r) μ | _ => s2 st fun x y r => K nc ns (pc + 3) ls (.int (mmin x y) :: r) μ) | none => match fnd (pA M.2.1) v with | some q => cp5 st fun k0 sp k1 dp n => isT (Nat.blt k0 NC && Nat.blt k1 NC && Nat.ble 1 R.frames && Nat.ble 90 R.locals && Nat.beq (sh k0).1 (sh k1).1) (acpOK sp dp n k0 k1 ∧ (match (sh k0).1 with | 100 => K nc ns (pc + 3) ls [] (sRI μ k1 (va_cpy (mI μ k0) (mI μ k1) (nx sp) (nx dp) (nx n))) | 101 => K nc ns (pc + 3) ls [] (sRL μ k1 (va_cpy (mL μ k0) (mL μ k1) (nx sp) (nx dp) (nx n))) | 103 => (∀ i, i < nx n → mI μ k0 (nx sp + i) = 0 ∨ mI μ k0 (nx sp + i) = 1) ∧ K nc ns (pc + 3) ls [] (sRI μ k1 (va_cpy (mI μ k0) (mI μ k1) (nx sp) (nx dp) (nx n))) | _ => False)) | none => match fnd (pS M.2.1) v with | some q => spl q.2.2.1 st [] fun As r => isT (Nat.ble (catS r) 8) (callK R q.1 q.2.1 nc ns fun dx => Spec g q.1 dx As μ (onR (miT q.1) (fun vs μ => K (nc + miK q.1) (ns + miS q.1) (pc + 3) ls (vs ++ r) μ) (fun e μ => match M.2.2.2 with | [] => RET (.inr e) (nc + miK q.1) (ns + miS q.1) μ | h :: t => hx (fun hp n ln => K (nc + miK q.1) (ns + miS q.1) (hp + ln) (ls.filter fun q => Nat.ble (q.1 + q.2.category) n) [] μ) pc e (h :: t)))) | none => mF (fnd (pN M.2.1) v) fun q => spl q.2.2.1 st [] fun As r => isT (Nat.ble (catS r) 8) (callK R q.1 q.2.1 nc ns fun dx => Spec g q.1 dx As μ (onR (miT q.1) (fun vs μ => K (nc + miK q.1) (ns + miS q.1) (pc + 3) ls (vs ++ r) μ) fun _ _ => False))
  | _ => False
def okI (mi : MI) (pc : Nat) (i : Instr) (n : Nat) : Bool := match i with
  | .iadd => Nat.beq n 1
  | .isub => Nat.beq n 1
  | .imul => Nat.beq n 1
  | .iand => Nat.beq n 1
  | .ior => Nat.beq n 1
  | .ixor => Nat.beq n 1
  | .ishl => Nat.beq n 1
  | .ishr => Nat.beq n 1
  | .iushr => Nat.beq n 1
  | .idiv => Nat.beq n 1
  | .irem => Nat.beq n 1
  | .ineg => Nat.beq n 1
  | .ladd => Nat.beq n 1
  | .lsub => Nat.beq n 1
  | .land => Nat.beq n 1
  | .lor => Nat.beq n 1
  | .lxor => Nat.beq n 1
  | .lushr => Nat.beq n 1
  | .lshl => Nat.beq n 1
  | .lshr => Nat.beq n 1
  | .lcmp => Nat.beq n 1
  | .i2l => Nat.beq n 1
  | .l2i => Nat.beq n 1
  | .i2b => Nat.beq n 1
  | .iconst v => Nat.beq n 1
  | .bipush v => Nat.beq n 2 && decide ((Int8.ofInt v).toInt32 = iv v)
  | .sipush v => Nat.beq n 3 && decide ((Int16.ofInt v).toInt32 = iv v)
  | .lconst v => Nat.beq n 1
  | .iload_n v => Nat.beq n 1
  | .iload v => Nat.beq n 2
  | .lload_n v => Nat.beq n 1
  | .lload v => Nat.beq n 2
  | .aload_n v => Nat.beq n 1
  | .aload v => Nat.beq n 2
  | .istore_n v => Nat.beq n 1 && Nat.blt (v : Nat) (miN mi)
  | .istore v => Nat.beq n 2 && Nat.blt (v : Nat) (miN mi)
  | .lstore_n v => Nat.beq n 1 && Nat.blt ((v : Nat) + 1) (miN mi)
  | .lstore v => Nat.beq n 2 && Nat.blt ((v : Nat) + 1) (miN mi)
  | .astore_n v => Nat.beq n 1 && Nat.blt (v : Nat) (miN mi)
  | .astore v => Nat.beq n 2 && Nat.blt (v : Nat) (miN mi)
  | .iinc v w => Nat.beq n 3 && Nat.blt v (miN mi)
  | .dup => Nat.beq n 1
  | .pop => Nat.beq n 1
  | .dup2 => Nat.beq n 1
  | .goto o => Nat.beq n 3 && decide (0 ≤ (pc : Int) + o)
  | .ifCond .eq o => Nat.beq n 3 && decide (0 ≤ (pc : Int) + o)
  | .if_icmp .eq o => Nat.beq n 3 && decide (0 ≤ (pc : Int) + o)
  | .ifCond .ne o => Nat.beq n 3 && decide (0 ≤ (pc : Int) + o)
  | .if_icmp .ne o => Nat.beq n 3 && decide (0 ≤ (pc : Int) + o)
  | .ifCond .lt o => Nat.beq n 3 && decide (0 ≤ (pc : Int) + o)
  | .if_icmp .lt o => Nat.beq n 3 && decide (0 ≤ (pc : Int) + o)
  | .ifCond .ge o => Nat.beq n 3 && decide (0 ≤ (pc : Int) + o)
  | .if_icmp .ge o => Nat.beq n 3 && decide (0 ≤ (pc : Int) + o)
  | .ifCond .gt o => Nat.beq n 3 && decide (0 ≤ (pc : Int) + o)
  | .if_icmp .gt o => Nat.beq n 3 && decide (0 ≤ (pc : Int) + o)
  | .ifCond .le o => Nat.beq n 3 && decide (0 ≤ (pc : Int) + o)
  | .if_icmp .le o => Nat.beq n 3 && decide (0 ≤ (pc : Int) + o)
  | .tableswitch d lo hi os => decide (-2147483648 ≤ lo) && decide (hi < 2147483648) && decide (lo + os.toList.length = hi + 1) && decide (0 ≤ (pc : Int) + d) && decide (∀ o ∈ os.toList, 0 ≤ (pc : Int) + o)
  | .getfield v => Nat.beq n 3
  | .putfield v => Nat.beq n 3
  | .iaload => Nat.beq n 1
  | .laload => Nat.beq n 1
  | .baload => Nat.beq n 1
  | .aaload => Nat.beq n 1
  | .arraylength => Nat.beq n 1
  | .getstatic v => Nat.beq n 3
  | .i2c => Nat.beq n 1
  | .iastore => Nat.beq n 1
  | .lastore => Nat.beq n 1
  | .bastore => Nat.beq n 1
  | .aastore => Nat.beq n 1
  | .ldc v => Nat.beq n 2
  | .ldc_w v => Nat.beq n 3
  | .ldc2_w v => Nat.beq n 3
  | .ireturn => Nat.beq n 1
  | .lreturn => Nat.beq n 1 && decide (miT mi = some .long)
  | .return_ => Nat.beq n 1 && decide (miT mi = none)
  | .new v => Nat.beq n 3
  | .invokevirtual v => Nat.beq n 3
  | .invokestatic v => Nat.beq n 3
  | _ => true
end
section
/-! soundness of a step -/
def pvOK (own : String) (q : Nat × Mth) : Prop := MOK q.2.1 q.2.2.2.1 ∧ miH q.2.1 = [] ∧ Cond.methodLink own q.1 (miY q.2.1) ∈ TB ∧ Cond.instanceMethod (miY q.2.1) ∈ TB ∧ Cond.selects (miY q.2.1).cls (miY q.2.1) (miY q.2.1) ∈ TB ∧ Cond.initialized (miY q.2.1).cls ∈ TB ∧ ∃ r, cls[q.2.2.2.2.getD 4 0]? = some r ∧ r.1 = (miY q.2.1).cls
def psOK (own : String) (q : Nat × Mth) : Prop := MOK q.2.1 q.2.2.2.1 ∧ Cond.methodLink own q.1 (miY q.2.1) ∈ TB ∧ Cond.static (miY q.2.1) ∈ TB ∧ Cond.initialized (miY q.2.1).cls ∈ TB
def pnOK (own : String) (q : Nat × Mth) : Prop := MOK q.2.1 q.2.2.2.1 ∧ miH q.2.1 = [] ∧ Cond.methodLinkNest own q.1 (miY q.2.1) "SaidOnce" ∈ NW ∧ Cond.static (miY q.2.1) ∈ TB ∧ Cond.initialized (miY q.2.1).cls ∈ TB
def puOK (own : String) (q : Nat × MthU) : Prop := MOK q.2.1 q.2.2.2.1 ∧ miH q.2.1 = [] ∧ Cond.methodLink own q.1 q.2.2.2.2.2.1 ∈ TB ∧ Cond.sameMethod q.2.2.2.2.2.1.cls q.2.2.2.2.2.2.1 q.2.2.2.2.2.1.name q.2.2.2.2.2.1.desc ∈ TB ∧ (∃ r, cls[q.2.2.2.2.2.2.2]? = some r ∧ Cond.selects r.1 q.2.2.2.2.2.1 (miY q.2.1) ∈ TB) ∧ Cond.instanceMethod (miY q.2.1) ∈ TB ∧ Cond.initialized (miY q.2.1).cls ∈ TB ∧ Cond.declares ⟨q.2.2.2.2.2.2.1, q.2.2.2.2.2.1.name, q.2.2.2.2.2.1.desc⟩ ∈ NW ∧
  (q.2.2.2.2.2.2.1 ≠ "java/lang/invoke/MethodHandle" ∧ q.2.2.2.2.2.2.1 ≠ "java/lang/invoke/VarHandle" ∧ (parseMethodDescriptor q.2.2.2.2.2.1.desc).map (fun d => d.parameters.length) = some q.2.2.2.1)
def gsB (own : String) (q : Nat × Nat × Nat) : Bool := match q.2.1 with
  | 0 => tbAt (q.2.2, .fieldLink own q.1 "java/lang/String" "COMPACT_STRINGS" "Z")
  | _ => tbAt (q.2.2, .fieldLink own q.1 "jdk/internal/util/Preconditions" "SIOOBE_FORMATTER" "Ljava/util/function/BiFunction;")
def qsB (own : String) (q : Nat × Nat × Nat) : Bool := match q.2.1 with
  | 0 => tbAt (q.2.2, .fieldLink own q.1 "java/lang/String" "value" "[B")
  | _ => tbAt (q.2.2, .fieldLink own q.1 "java/lang/String" "coder" "B")
def pwOK (own : String) (q : Nat × Mth) : Prop := MOK q.2.1 q.2.2.2.1 ∧ miH q.2.1 = [] ∧ (miY q.2.1).cls = "java/lang/String" ∧ Cond.methodLink own q.1 (miY q.2.1) ∈ TB ∧ Cond.instanceMethod (miY q.2.1) ∈ TB ∧ Cond.selects (miY q.2.1).cls (miY q.2.1) (miY q.2.1) ∈ TB ∧ Cond.initialized (miY q.2.1).cls ∈ TB
def PoolOK (own : String) (P : Pool) : Prop := (∀ q ∈ pF P, flB own q = true) ∧ (∀ q ∈ pC P, tbAt (q.2.2, .constant own q.1 q.2.1) = true) ∧ (∀ q ∈ pJ P, tbAt (q.2.2, .constantLong own q.1 q.2.1) = true) ∧ (∀ q ∈ pT P, strB own q = true) ∧ (∀ q ∈ pV P, pvOK own q) ∧ (∀ q ∈ pS P, psOK own q) ∧ (∀ q ∈ pN P, pnOK own q) ∧ (∀ q ∈ pU P, puOK own q) ∧ (∀ q ∈ pA P, acpB own q = true) ∧ (∀ q ∈ pM P, mathB own q = true) ∧ (∀ q ∈ pG P, gsB own q = true) ∧ (∀ q ∈ pQ P, qsB own q = true) ∧ ∀ q ∈ pW P, pwOK own q
def RetOK (g : Gl) (mi : MI) (M : MT) (R : Room) (Q : QT) (RET : Out → Nat → Nat → Mem → Prop) : Prop :=
  (∀ {v : Int32} {nc ns pc : Nat} {ls : Lo} {μ : Mem} {ty : FieldType}, decode (miC mi) pc = .ok (.ireturn, 1) → miT mi = some ty → narrow ty (.int v) = .int v → RET (.inl (some (.int v))) nc ns μ → Wm g mi R Q nc ns pc ls [.int v] μ) ∧
  (∀ {v : Int64} {nc ns pc : Nat} {ls : Lo} {μ : Mem}, decode (miC mi) pc = .ok (.lreturn, 1) → miT mi = some .long → RET (.inl (some (.long v))) nc ns μ → Wm g mi R Q nc ns pc ls [.long v] μ) ∧
  (∀ {nc ns pc : Nat} {ls : Lo} {μ : Mem}, decode (miC mi) pc = .ok (.return_, 1) → miT mi = none → RET (.inl none) nc ns μ → Wm g mi R Q nc ns pc ls [] μ) ∧
  (∀ {v nc ns pc : Nat} {q : Thr} {ls : Lo} {μ : Mem}, decode (miC mi) pc = .ok (.new v, 3) → (pc, q) ∈ M.2.2.1 → (Nat.beq q.1 v && Nat.ble 6 R.frames && Nat.ble 100 R.locals && Nat.ble (nc + 1) R.cells && Nat.ble (ns + 6) R.slots && M.2.2.2.isEmpty) = true → RET (.inr q.2.2.2.2.1) (nc + 1) (ns + 6) μ → Wm g mi R Q nc ns pc ls [] μ) ∧
  (∀ {e nc ns pc : Nat} {ls : Lo} {μ : Mem}, M.2.2.2 = [] → e < 5 → RET (.inr e) nc ns μ → WX g mi R Q nc ns pc ls e μ) ∧
  (∀ {e nc ns pc : Nat} {ls : Lo} {μ : Mem}, e < 5 → hx (fun hp n ln => Wm g mi R Q nc ns (hp + ln) (ls.filter fun q => Nat.ble (q.1 + q.2.category) n) [] μ) pc e M.2.2.2 → WX g mi R Q nc ns pc ls e μ)
theorem onR_l {g : Gl} {t : Option FieldType} {f : List Value → Mem → Prop} {x : Nat → Mem → Prop} {v : Option Value} {μ : Mem} (h : onR t f x (.inl v) μ) : v.toList.map (tv g) = v.toList ∧ f v.toList μ := by
  unfold onR at h
  split at h
  · unfold onV at h
    split at h
    · rename_i q; cases q; exact ⟨rfl, h⟩
    · rename_i q; cases q
    · exact h.elim
  · unfold onL at h
    split at h
    · rename_i q; cases q; exact ⟨rfl, h⟩
    · rename_i q; cases q
    · exact h.elim
  · unfold onI at h
    split at h
    · rename_i q; cases q; exact ⟨rfl, h⟩
    · rename_i q; cases q
    · exact h.elim
theorem onR_r {t : Option FieldType} {f : List Value → Mem → Prop} {x : Nat → Mem → Prop} {e : Nat} {μ : Mem} (h : onR t f x (.inr e) μ) : x e μ := by
  unfold onR at h
  split at h <;> exact h
section AM13
variable {g : Gl} {mi : MI} {R : Room} {Q : QT} {nc ns pc : Nat} {ls : Lo} {st : List Value} {μ : Mem} {M : MT} {RET : Out → Nat → Nat → Mem → Prop} {K : Kt}
theorem tsw_mono {x : Int32} {K1 K2 : Int → Prop} {d : Int} (hK : ∀ o, K1 o → K2 o) : ∀ {os : List Int} {lo : Int}, tsw x K1 d lo os → tsw x K2 d lo os := by
  intro os
  induction os with
  | nil => intro lo h; exact hK _ h
  | cons o os ih => intro lo h; exact ⟨fun z => hK _ (h.1 z), fun z => ih (h.2 z)⟩
theorem hx_mono {K1 K2 : Nat → Nat → Nat → Prop} {pc e : Nat} (hK : ∀ a b c, K1 a b c → K2 a b c) : ∀ {l : List Hdl}, hx K1 pc e l → hx K2 pc e l := by
  intro l
  induction l with
  | nil => intro h; exact h
  | cons q t ih =>
    obtain ⟨a, b, hp, ct, e9, n, ln⟩ := q
    intro h
    unfold hx at h ⊢
    revert h
    cases Nat.beq e9 e with
    | false => exact fun h => ih h
    | true =>
      dsimp only
      cases (Nat.ble a pc && Nat.blt pc b) with
      | false => exact fun h => h
      | true => exact fun h => hK _ _ _ h
theorem thr_X (hRET : RetOK g mi M R Q RET) (hK : ∀ {nc ns pc : Nat} {ls : Lo} {st : List Value} {μ : Mem}, K nc ns pc ls st μ → Wm g mi R Q nc ns pc ls st μ) {e : Nat} {q : MI} (h5 : e < 5) (h : match M.2.2.2 with | [] => RET (.inr e) (nc + miK q) (ns + miS q) μ | h :: t => hx (fun hp n ln => K (nc + miK q) (ns + miS q) (hp + ln) (ls.filter fun q => Nat.ble (q.1 + q.2.category) n) [] μ) pc e (h :: t)) : WX g mi R Q (nc + miK q) (ns + miS q) pc ls e μ := by
  split at h
  · rename_i hn; exact hRET.2.2.2.2.1 hn h5 h
  · rename_i hn; exact hRET.2.2.2.2.2 h5 (by rw [hn]; exact hx_mono (fun _ _ _ z => hK z) h)
theorem step_V {v : Nat} (hP : PoolOK (miY mi).cls M.2.1) (hRET : RetOK g mi M R Q RET) (hK : ∀ {nc ns pc : Nat} {ls : Lo} {st : List Value} {μ : Mem}, K nc ns pc ls st μ → Wm g mi R Q nc ns pc ls st μ) (hd : decode (miC mi) pc = .ok (.invokevirtual v, 3)) (h : step R RET g mi M (.invokevirtual v) nc ns pc ls st μ K) : Wm g mi R Q nc ns pc ls st μ := by
  unfold step at h
  dsimp only at h
  split at h
  · rename_i q e
    obtain ⟨h1, h2, h0, h3, h4, h5, h6⟩ := hP.2.2.2.2.2.2.2.2.2.2.2.2 _ (fnd_mem e)
    obtain ⟨As, t, h, e1, e2⟩ := spl_ok h
    obtain ⟨k, r, rfl, h⟩ := a1_ok h
    obtain ⟨hk, h⟩ := isT_ok h
    obtain ⟨hr, h⟩ := isT_ok h
    obtain ⟨dx, hR, hS⟩ := callK_ok h
    rw [List.reverse_nil, List.nil_append] at e1
    rw [← e1]
    exact am_callW h1 h2 h0 h3 h4 h5 h6 (isS_ok hk).1 (isS_ok hk).2 (by simpa using e2) (by rw [catS_eq]; exact Nat.le_of_ble_eq_true hr) hR hd hS (fun v μ' hv => ⟨(onR_l hv).1, hK (onR_l (g := g) hv).2⟩) (fun e μ' _ hv => (onR_r hv : False).elim)
  · split at h
    · rename_i q e
      obtain ⟨h1, h2, h3, h4, h5, h6, r9, h7, h8⟩ := hP.2.2.2.2.1 _ (fnd_mem e)
      obtain ⟨As, t, h, e1, e2⟩ := spl_ok h
      obtain ⟨k, r, rfl, h⟩ := a1_ok h
      obtain ⟨hk, hc, h⟩ := isK_ok h
      obtain ⟨hr, h⟩ := isT_ok h
      obtain ⟨dx, hR, hS⟩ := callK_ok h
      rw [List.reverse_nil, List.nil_append] at e1
      rw [← e1]
      exact am_callV h1 h2 h3 h4 h5 h6 hk (by rw [hc]; exact h7) h8 (by simpa using e2) (by rw [catS_eq]; exact Nat.le_of_ble_eq_true hr) hR hd hS (fun v μ' hv => ⟨(onR_l hv).1, hK (onR_l (g := g) hv).2⟩) (fun ex μ' hx5 hv => thr_X hRET hK hx5 (onR_r hv))
    · obtain ⟨q, e, h⟩ := mF_ok h
      obtain ⟨h1, h2, h3, h4, ⟨r9, h7, h8⟩, h9, h10, h11, h12⟩ := hP.2.2.2.2.2.2.2.1 _ (fnd_mem e)
      obtain ⟨As, t, h, e1, e2⟩ := spl_ok h
      obtain ⟨k, r, rfl, h⟩ := a1_ok h
      obtain ⟨hk, hc, h⟩ := isK_ok h
      obtain ⟨hr, h⟩ := isT_ok h
      obtain ⟨dx, hR, hS⟩ := callK_ok h
      rw [List.reverse_nil, List.nil_append] at e1
      rw [← e1]
      exact am_callU h1 h2 h3 h4 h8 h9 h10 h11 h12 hk (by rw [hc]; exact h7) (by simpa using e2) (by rw [catS_eq]; exact Nat.le_of_ble_eq_true hr) hR hd hS (fun e μ' hv => onR_r hv) (fun v μ' hv => ⟨(onR_l hv).1, hK (onR_l (g := g) hv).2⟩)
theorem step_S {v : Nat} (hP : PoolOK (miY mi).cls M.2.1) (hRET : RetOK g mi M R Q RET) (hK : ∀ {nc ns pc : Nat} {ls : Lo} {st : List Value} {μ : Mem}, K nc ns pc ls st μ → Wm g mi R Q nc ns pc ls st μ) (hd : decode (miC mi) pc = .ok (.invokestatic v, 3)) (h : step R RET g mi M (.invokestatic v) nc ns pc ls st μ K) : Wm g mi R Q nc ns pc ls st μ := by
  unfold step at h
  dsimp only at h
  split at h
  · rename_i q e
    have hq := hP.2.2.2.2.2.2.2.2.2.1 _ (fnd_mem e)
    obtain ⟨hb, h⟩ := isT_ok h
    simp only [Bool.and_eq_true] at hb
    obtain ⟨⟨⟨b1, b2⟩, b3⟩, b4⟩ := hb
    have b2 := Nat.le_of_ble_eq_true b2
    simp only [mathB, Bool.and_eq_true] at hq
    obtain ⟨q0, hq⟩ := hq
    split at h
    · rename_i w; rw [w] at hq; simp only [Bool.and_eq_true] at hq
      obtain ⟨x, r, rfl, h⟩ := s1_ok h
      intro p e s m args below meth c C H locs L hR hS hl
      exact va_mabs C.1 C.2.1 (C.2.2.1.trans hl.1.symm) C.2.2.2.2.2.1 (C.2.2.2.2.2.2.1 _ (tb_of hq.1.1)) (C.2.2.2.2.2.2.1 _ (tb_of hq.1.2)) (C.2.2.2.2.2.2.1 _ (tb_of q0)) (C.2.2.2.2.2.2.1 _ (tb_of hq.2)) (Nat.le_of_ble_eq_true b1) (by rw [cat_map, catS_eq]; have : catS (Value.int x :: r) = 1 + catS r := rfl; omega) (Nat.le_of_ble_eq_true b3) (Nat.le_of_ble_eq_true b4) hd (hK h p e s m args below meth c C H locs L hR hS hl)
    · rename_i w; rw [w] at hq; simp only [Bool.and_eq_true] at hq
      obtain ⟨x, y, r, rfl, h⟩ := s2_ok h
      intro p e s m args below meth c C H locs L hR hS hl
      exact va_mmax C.1 C.2.1 (C.2.2.1.trans hl.1.symm) C.2.2.2.2.2.1 (C.2.2.2.2.2.2.1 _ (tb_of hq.1.1)) (C.2.2.2.2.2.2.1 _ (tb_of hq.1.2)) (C.2.2.2.2.2.2.1 _ (tb_of q0)) (C.2.2.2.2.2.2.1 _ (tb_of hq.2)) (Nat.le_of_ble_eq_true b1) (by rw [cat_map, catS_eq]; have : catS (Value.int y :: Value.int x :: r) = 1 + (1 + catS r) := rfl; omega) (Nat.le_of_ble_eq_true b3) (Nat.le_of_ble_eq_true b4) hd (hK h p e s m args below meth c C H locs L hR hS hl)
    · rename_i w1 w2
      split at hq
      · rename_i w; exact absurd w w1
      · rename_i w; exact absurd w w2
      · simp only [Bool.and_eq_true] at hq
        obtain ⟨x, y, r, rfl, h⟩ := s2_ok h
        intro p e s m args below meth c C H locs L hR hS hl
        exact va_mmin C.1 C.2.1 (C.2.2.1.trans hl.1.symm) C.2.2.2.2.2.1 (C.2.2.2.2.2.2.1 _ (tb_of hq.1.1)) (C.2.2.2.2.2.2.1 _ (tb_of hq.1.2)) (C.2.2.2.2.2.2.1 _ (tb_of q0)) (C.2.2.2.2.2.2.1 _ (tb_of hq.2)) (Nat.le_of_ble_eq_true b1) (by rw [cat_map, catS_eq]; have : catS (Value.int y :: Value.int x :: r) = 1 + (1 + catS r) := rfl; omega) (Nat.le_of_ble_eq_true b3) (Nat.le_of_ble_eq_true b4) hd (hK h p e s m args below meth c C H locs L hR hS hl)
  · split at h
    · rename_i q e
      have hq := hP.2.2.2.2.2.2.2.2.1 _ (fnd_mem e)
      obtain ⟨k0, sp, k1, dp, n, rfl, h⟩ := cp5_ok h
      obtain ⟨hb, hn, h⟩ := isT_ok h
      simp only [Bool.and_eq_true] at hb
      obtain ⟨⟨⟨⟨b1, b2⟩, b3⟩, b4⟩, b5⟩ := hb
      have b5 := Nat.eq_of_beq_eq_true b5
      split at h
      · rename_i hk; exact am_acpI hq (Nat.le_of_ble_eq_true b3) (Nat.le_of_ble_eq_true b4) (Nat.le_of_ble_eq_true b1) (Nat.le_of_ble_eq_true b2) hk (b5.symm.trans hk) hn hd (hK h)
      · rename_i hk; exact am_acpL hq (Nat.le_of_ble_eq_true b3) (Nat.le_of_ble_eq_true b4) (Nat.le_of_ble_eq_true b1) (Nat.le_of_ble_eq_true b2) hk (b5.symm.trans hk) hn hd (hK h)
      · rename_i hk; exact am_acpZ hq (Nat.le_of_ble_eq_true b3) (Nat.le_of_ble_eq_true b4) (Nat.le_of_ble_eq_true b1) (Nat.le_of_ble_eq_true b2) hk (b5.symm.trans hk) hn h.1 hd (hK h.2)
      · exact h.elim
    · split at h
      · rename_i q e
        obtain ⟨h1, h3, h4, h6⟩ := hP.2.2.2.2.2.1 _ (fnd_mem e)
        obtain ⟨As, r, h, e1, e2⟩ := spl_ok h
        obtain ⟨hr, h⟩ := isT_ok h
        obtain ⟨dx, hR, hS⟩ := callK_ok h
        rw [List.reverse_nil, List.nil_append] at e1
        rw [← e1]
        cases hH : miH q.1 with
        | nil => exact am_callS h1 hH h3 h4 h6 (by simpa using e2) (by rw [catS_eq]; exact Nat.le_of_ble_eq_true hr) hR hd hS (fun v μ' hv => ⟨(onR_l hv).1, hK (onR_l (g := g) hv).2⟩) (fun ex μ' hx5 hv => thr_X hRET hK hx5 (onR_r hv))
        | cons a b => exact am_callSH h1 hH h3 h4 h6 (by simpa using e2) (by rw [catS_eq]; exact Nat.le_of_ble_eq_true hr) hR hd hS (fun v μ' hv => ⟨(onR_l hv).1, hK (onR_l (g := g) hv).2⟩) (fun ex μ' hx5 hv => thr_X hRET hK hx5 (onR_r hv))
      · obtain ⟨q, e, h⟩ := mF_ok h
        obtain ⟨h1, h2, h3, h4, h6⟩ := hP.2.2.2.2.2.2.1 _ (fnd_mem e)
        obtain ⟨As, r, h, e1, e2⟩ := spl_ok h
        obtain ⟨hr, h⟩ := isT_ok h
        obtain ⟨dx, hR, hS⟩ := callK_ok h
        rw [List.reverse_nil, List.nil_append] at e1
        rw [← e1]
        exact am_callSN h1 h2 h3 h4 h6 (by simpa using e2) (by rw [catS_eq]; exact Nat.le_of_ble_eq_true hr) hR hd hS (fun e μ' hv => onR_r hv) (fun v μ' hv => ⟨(onR_l hv).1, hK (onR_l (g := g) hv).2⟩)
set_option maxRecDepth 100000 in
theorem step_sound {i : Instr} {n : Nat} (hP : PoolOK (miY mi).cls M.2.1) (hRET : RetOK g mi M R Q RET) (hK : ∀ {nc ns pc : Nat} {ls : Lo} {st : List Value} {μ : Mem}, K nc ns pc ls st μ → Wm g mi R Q nc ns pc ls st μ) (hd : decode (miC mi) pc = .ok (i, n)) (hi : okI mi pc i n = true) (h : step R RET g mi M i nc ns pc ls st μ K) : Wm g mi R Q nc ns pc ls st μ := by
  cases i with
  | iadd  =>
    cases (Nat.eq_of_beq_eq_true hi : n = 1)
    unfold step at h; dsimp only at h
    obtain ⟨x, y, r, rfl, h⟩ := s2_ok h; exact am_iadd hd (hK h)
  | isub  =>
    cases (Nat.eq_of_beq_eq_true hi : n = 1)
    unfold step at h; dsimp only at h
    obtain ⟨x, y, r, rfl, h⟩ := s2_ok h; exact am_isub hd (hK h)
  | imul  =>
    cases (Nat.eq_of_beq_eq_true hi : n = 1)
    unfold step at h; dsimp only at h
    obtain ⟨x, y, r, rfl, h⟩ := s2_ok h; exact am_imul hd (hK h)
  | iand  =>
    cases (Nat.eq_of_beq_eq_true hi : n = 1)
    unfold step at h; dsimp only at h
    obtain ⟨x, y, r, rfl, h⟩ := s2_ok h; exact am_iand hd (hK h)
  | ior  =>
    cases (Nat.eq_of_beq_eq_true hi : n = 1)
    unfold step at h; dsimp only at h
    obtain ⟨x, y, r, rfl, h⟩ := s2_ok h; exact am_ior hd (hK h)
  | ixor  =>
    cases (Nat.eq_of_beq_eq_true hi : n = 1)
    unfold step at h; dsimp only at h
    obtain ⟨x, y, r, rfl, h⟩ := s2_ok h; exact am_ixor hd (hK h)
  | ishl  =>
    cases (Nat.eq_of_beq_eq_true hi : n = 1)
    unfold step at h; dsimp only at h
    obtain ⟨x, y, r, rfl, h⟩ := s2_ok h; exact am_ishl hd (hK h)
  | ishr  =>
    cases (Nat.eq_of_beq_eq_true hi : n = 1)
    unfold step at h; dsimp only at h
    obtain ⟨x, y, r, rfl, h⟩ := s2_ok h; exact am_ishr hd (hK h)
  | iushr  =>
    cases (Nat.eq_of_beq_eq_true hi : n = 1)
    unfold step at h; dsimp only at h
    obtain ⟨x, y, r, rfl, h⟩ := s2_ok h; exact am_iushr hd (hK h)
  | idiv  =>
    cases (Nat.eq_of_beq_eq_true hi : n = 1)
    unfold step at h; dsimp only at h
    obtain ⟨x, y, r, rfl, h⟩ := s2_ok h; exact am_idiv h.1 hd (hK h.2)
  | irem  =>
    cases (Nat.eq_of_beq_eq_true hi : n = 1)
    unfold step at h; dsimp only at h
    obtain ⟨x, y, r, rfl, h⟩ := s2_ok h; exact am_irem h.1 hd (hK h.2)
  | ineg  =>
    cases (Nat.eq_of_beq_eq_true hi : n = 1)
    unfold step at h; dsimp only at h
    obtain ⟨x, r, rfl, h⟩ := s1_ok h; exact am_ineg hd (hK h)
  | ladd  =>
    cases (Nat.eq_of_beq_eq_true hi : n = 1)
    unfold step at h; dsimp only at h
    obtain ⟨x, y, r, rfl, h⟩ := j2_ok h; exact am_ladd hd (hK h)
  | lsub  =>
    cases (Nat.eq_of_beq_eq_true hi : n = 1)
    unfold step at h; dsimp only at h
    obtain ⟨x, y, r, rfl, h⟩ := j2_ok h; exact am_lsub hd (hK h)
  | land  =>
    cases (Nat.eq_of_beq_eq_true hi : n = 1)
    unfold step at h; dsimp only at h
    obtain ⟨x, y, r, rfl, h⟩ := j2_ok h; exact am_land hd (hK h)
  | lor  =>
    cases (Nat.eq_of_beq_eq_true hi : n = 1)
    unfold step at h; dsimp only at h
    obtain ⟨x, y, r, rfl, h⟩ := j2_ok h; exact am_lor hd (hK h)
  | lxor  =>
    cases (Nat.eq_of_beq_eq_true hi : n = 1)
    unfold step at h; dsimp only at h
    obtain ⟨x, y, r, rfl, h⟩ := j2_ok h; exact am_lxor hd (hK h)
  | lushr  =>
    cases (Nat.eq_of_beq_eq_true hi : n = 1)
    unfold step at h; dsimp only at h
    obtain ⟨x, y, r, rfl, h⟩ := ji_ok h; exact am_lushr hd (hK h)
  | lshl  =>
    cases (Nat.eq_of_beq_eq_true hi : n = 1)
    unfold step at h; dsimp only at h
    obtain ⟨x, y, r, rfl, h⟩ := ji_ok h; exact am_lshl hd (hK h)
  | lshr  =>
    cases (Nat.eq_of_beq_eq_true hi : n = 1)
    unfold step at h; dsimp only at h
    obtain ⟨x, y, r, rfl, h⟩ := ji_ok h; exact am_lshr hd (hK h)
  | lcmp  =>
    cases (Nat.eq_of_beq_eq_true hi : n = 1)
    unfold step at h; dsimp only at h
    obtain ⟨x, y, r, rfl, h⟩ := j2_ok h; exact am_lcmp hd (hK h)
  | i2l  =>
    cases (Nat.eq_of_beq_eq_true hi : n = 1)
    unfold step at h; dsimp only at h
    obtain ⟨x, r, rfl, h⟩ := s1_ok h; exact am_i2l hd (hK h)
  | l2i  =>
    cases (Nat.eq_of_beq_eq_true hi : n = 1)
    unfold step at h; dsimp only at h
    obtain ⟨x, r, rfl, h⟩ := j1_ok h; exact am_l2i hd (hK h)
  | i2b  =>
    cases (Nat.eq_of_beq_eq_true hi : n = 1)
    unfold step at h; dsimp only at h
    obtain ⟨x, r, rfl, h⟩ := s1_ok h; exact am_i2b hd (hK h)
  | iconst v =>
    cases (Nat.eq_of_beq_eq_true hi : n = 1)
    unfold step at h; dsimp only at h
    exact am_iconst hd (hK h)
  | bipush v =>
    simp only [okI, Bool.and_eq_true] at hi
    cases (Nat.eq_of_beq_eq_true hi.1 : n = 2)
    unfold step at h; dsimp only at h
    exact am_bipush (of_decide_eq_true hi.2) hd (hK h)
  | sipush v =>
    simp only [okI, Bool.and_eq_true] at hi
    cases (Nat.eq_of_beq_eq_true hi.1 : n = 3)
    unfold step at h; dsimp only at h
    exact am_sipush (of_decide_eq_true hi.2) hd (hK h)
  | lconst v =>
    cases (Nat.eq_of_beq_eq_true hi : n = 1)
    unfold step at h; dsimp only at h
    exact am_lconst hd (hK h)
  | iload_n v =>
    cases (Nat.eq_of_beq_eq_true hi : n = 1)
    unfold step at h; dsimp only at h
    obtain ⟨x, e, h⟩ := vI_ok h; exact am_iload_n e hd (hK h)
  | iload v =>
    cases (Nat.eq_of_beq_eq_true hi : n = 2)
    unfold step at h; dsimp only at h
    obtain ⟨x, e, h⟩ := vI_ok h; exact am_iload e hd (hK h)
  | lload_n v =>
    cases (Nat.eq_of_beq_eq_true hi : n = 1)
    unfold step at h; dsimp only at h
    obtain ⟨x, e, h⟩ := vL_ok h; exact am_lload_n e hd (hK h)
  | lload v =>
    cases (Nat.eq_of_beq_eq_true hi : n = 2)
    unfold step at h; dsimp only at h
    obtain ⟨x, e, h⟩ := vL_ok h; exact am_lload e hd (hK h)
  | aload_n v =>
    cases (Nat.eq_of_beq_eq_true hi : n = 1)
    unfold step at h; dsimp only at h
    obtain ⟨x, e, h⟩ := vA_ok h; exact am_aload_n e hd (hK h)
  | aload v =>
    cases (Nat.eq_of_beq_eq_true hi : n = 2)
    unfold step at h; dsimp only at h
    obtain ⟨x, e, h⟩ := vA_ok h; exact am_aload e hd (hK h)
  | istore_n v =>
    simp only [okI, Bool.and_eq_true] at hi
    cases (Nat.eq_of_beq_eq_true hi.1 : n = 1)
    unfold step at h; dsimp only at h
    obtain ⟨x, r, rfl, h⟩ := s1_ok h; exact am_istore_n (Nat.le_of_ble_eq_true hi.2) hd (hK h)
  | istore v =>
    simp only [okI, Bool.and_eq_true] at hi
    cases (Nat.eq_of_beq_eq_true hi.1 : n = 2)
    unfold step at h; dsimp only at h
    obtain ⟨x, r, rfl, h⟩ := s1_ok h; exact am_istore (Nat.le_of_ble_eq_true hi.2) hd (hK h)
  | lstore_n v =>
    simp only [okI, Bool.and_eq_true] at hi
    cases (Nat.eq_of_beq_eq_true hi.1 : n = 1)
    unfold step at h; dsimp only at h
    obtain ⟨x, r, rfl, h⟩ := j1_ok h; exact am_lstore_n (Nat.le_of_ble_eq_true hi.2) hd (hK h)
  | lstore v =>
    simp only [okI, Bool.and_eq_true] at hi
    cases (Nat.eq_of_beq_eq_true hi.1 : n = 2)
    unfold step at h; dsimp only at h
    obtain ⟨x, r, rfl, h⟩ := j1_ok h; exact am_lstore (Nat.le_of_ble_eq_true hi.2) hd (hK h)
  | astore_n v =>
    simp only [okI, Bool.and_eq_true] at hi
    cases (Nat.eq_of_beq_eq_true hi.1 : n = 1)
    unfold step at h; dsimp only at h
    obtain ⟨x, r, rfl, h⟩ := a1_ok h; exact am_astore_n (Nat.le_of_ble_eq_true hi.2) hd (hK h)
  | astore v =>
    simp only [okI, Bool.and_eq_true] at hi
    cases (Nat.eq_of_beq_eq_true hi.1 : n = 2)
    unfold step at h; dsimp only at h
    obtain ⟨x, r, rfl, h⟩ := a1_ok h; exact am_astore (Nat.le_of_ble_eq_true hi.2) hd (hK h)
  | iinc v w =>
    simp only [okI, Bool.and_eq_true] at hi
    cases (Nat.eq_of_beq_eq_true hi.1 : n = 3)
    unfold step at h; dsimp only at h
    obtain ⟨x, e, h⟩ := vI_ok h; exact am_iinc (Nat.le_of_ble_eq_true hi.2) e hd (hK h)
  | dup  =>
    cases (Nat.eq_of_beq_eq_true hi : n = 1)
    unfold step at h; dsimp only at h
    obtain ⟨v, r, rfl, e, h⟩ := c1_ok h; exact am_dup e hd (hK h)
  | pop  =>
    cases (Nat.eq_of_beq_eq_true hi : n = 1)
    unfold step at h; dsimp only at h
    obtain ⟨v, r, rfl, e, h⟩ := c1_ok h; exact am_pop e hd (hK h)
  | dup2  =>
    cases (Nat.eq_of_beq_eq_true hi : n = 1)
    unfold step at h; dsimp only at h
    obtain ⟨v, r, rfl, e, h⟩ := c1_ok h; obtain ⟨w, r, rfl, e2, h⟩ := c1_ok h; exact am_dup2 e e2 hd (hK h)
  | goto o =>
    simp only [okI, Bool.and_eq_true] at hi
    cases (Nat.eq_of_beq_eq_true hi.1 : n = 3)
    unfold step at h; dsimp only at h
    exact am_goto (of_decide_eq_true hi.2) hd (hK h)
  | tableswitch d lo hi os =>
    simp only [okI, Bool.and_eq_true] at hi
    obtain ⟨x, r, rfl, h⟩ := s1_ok h; exact am_tsw (of_decide_eq_true hi.1.1.1.1) (of_decide_eq_true hi.1.1.1.2) (of_decide_eq_true hi.1.1.2) (of_decide_eq_true hi.1.2) (of_decide_eq_true hi.2) hd (tsw_mono (fun o z => hK z) h)
  | getfield v =>
    cases (Nat.eq_of_beq_eq_true hi : n = 3)
    unfold step at h; dsimp only at h
    split at h
    · rename_i q e; obtain ⟨k, r, e0, h9⟩ := a1_ok h; subst e0; obtain ⟨h1, h9⟩ := isT_ok h9; have h2 := hP.2.2.2.2.2.2.2.2.2.2.2.1 _ (fnd_mem e); unfold qsB at h2
      split at h9
      · rename_i w; rw [w] at h2; exact am_sval h2 (isS_ok h1).1 (isS_ok h1).2 hd (hK h9)
      · rename_i w; split at h2
        · rename_i w2; exact absurd w2 w
        · exact am_scod h2 (isS_ok h1).1 (isS_ok h1).2 hd (hK h9)
    · obtain ⟨q, e, h⟩ := mF_ok h; obtain ⟨k, r, rfl, h⟩ := a1_ok h; obtain ⟨hk, hc, h⟩ := isK_ok h; exact am_get (hP.1 _ (fnd_mem e)) hk hc hd (hK h)
  | putfield v =>
    cases (Nat.eq_of_beq_eq_true hi : n = 3)
    unfold step at h; dsimp only at h
    obtain ⟨q, e, h⟩ := mF_ok h; obtain ⟨x, r, rfl, h⟩ := c12_ok h; obtain ⟨k, r, rfl, h⟩ := a1_ok h; obtain ⟨hk, hc, h⟩ := isK_ok h; obtain ⟨hw, h⟩ := isT_ok h; obtain ⟨μ', h1, h⟩ := putF_ok h; exact am_put (hP.1 _ (fnd_mem e)) hw hk hc h1 hd (hK h)
  | iaload  =>
    cases (Nat.eq_of_beq_eq_true hi : n = 1)
    unfold step at h; dsimp only at h
    obtain ⟨k, i, r, e0, h9⟩ := ai_ok h; subst e0
    split at h9
    · rename_i hb; rw [Nat.eq_of_beq_eq_true hb]; exact am_sald h9.1 hd (hK h9.2)
    · obtain ⟨hk, hc, h9⟩ := isK_ok h9; exact am_iald hk hc h9.1 hd (hK h9.2)
  | laload  =>
    cases (Nat.eq_of_beq_eq_true hi : n = 1)
    unfold step at h; dsimp only at h
    obtain ⟨k, i, r, rfl, h⟩ := ai_ok h; obtain ⟨hk, hc, h⟩ := isK_ok h; exact am_lald hk hc h.1 hd (hK h.2)
  | baload  =>
    cases (Nat.eq_of_beq_eq_true hi : n = 1)
    unfold step at h; dsimp only at h
    obtain ⟨k, i, r, e0, h9⟩ := ai_ok h; subst e0
    rcases if2_ok h9 with ⟨hb, h9⟩ | ⟨-, h9⟩
    · obtain ⟨h1, h9⟩ := isT_ok h9; rw [kb_add hb]; exact am_sbald (k := kb k) (isS_ok h1).1 (isS_ok h1).2 h9.1 hd (hK h9.2)
    · split at h9
      · obtain ⟨hk, hc, h9⟩ := isK_ok h9; exact am_bald hk hc h9.1 hd (hK h9.2)
      · obtain ⟨hk, hc, h9⟩ := isK_ok h9; exact am_zald hk hc h9.1 hd (hK h9.2)
  | aaload  =>
    cases (Nat.eq_of_beq_eq_true hi : n = 1)
    unfold step at h; dsimp only at h
    obtain ⟨k, i, r, rfl, h⟩ := ai_ok h; obtain ⟨hk, hc, h⟩ := isK_ok h; exact am_aald hk hc h.1 h.2.1 hd (hK h.2.2)
  | arraylength  =>
    cases (Nat.eq_of_beq_eq_true hi : n = 1)
    unfold step at h; dsimp only at h
    obtain ⟨k, r, e0, h9⟩ := a1_ok h; subst e0
    rcases if2_ok h9 with ⟨hb, h9⟩ | ⟨-, h9⟩
    · obtain ⟨h1, h9⟩ := isT_ok h9; rw [kb_add hb]; exact am_slenB (k := kb k) (isS_ok h1).1 (isS_ok h1).2 hd (hK h9)
    · split at h9
      · rename_i hb; rw [Nat.eq_of_beq_eq_true hb]; exact am_slen hd (hK h9)
      · obtain ⟨h1, h9⟩ := isT_ok h9; simp only [Bool.and_eq_true] at h1; exact am_len (Nat.le_of_ble_eq_true h1.1.1) (Nat.le_of_ble_eq_true h1.1.2) (Nat.le_of_ble_eq_true h1.2) hd (hK h9)
  | getstatic v =>
    cases (Nat.eq_of_beq_eq_true hi : n = 3)
    unfold step at h; dsimp only at h
    obtain ⟨q, e, h⟩ := mF_ok h; have h2 := hP.2.2.2.2.2.2.2.2.2.2.1 _ (fnd_mem e); unfold gsB at h2
    split at h
    · rename_i w; rw [w] at h2; exact am_gcs h2 hd (hK h)
    · rename_i w; split at h2
      · rename_i w2; exact absurd w2 w
      · exact am_gsz h2 hd (hK h)
  | i2c  =>
    cases (Nat.eq_of_beq_eq_true hi : n = 1)
    unfold step at h; dsimp only at h
    obtain ⟨x, r, rfl, h⟩ := s1_ok h; exact am_i2c hd (hK h)
  | iastore  =>
    cases (Nat.eq_of_beq_eq_true hi : n = 1)
    unfold step at h; dsimp only at h
    obtain ⟨k, i, x, r, rfl, h⟩ := aii_ok h; obtain ⟨hk, hc, h⟩ := isK_ok h; exact am_iast hk hc h.1 hd (hK h.2)
  | lastore  =>
    cases (Nat.eq_of_beq_eq_true hi : n = 1)
    unfold step at h; dsimp only at h
    obtain ⟨k, i, x, r, rfl, h⟩ := aij_ok h; obtain ⟨hk, hc, h⟩ := isK_ok h; exact am_last hk hc h.1 hd (hK h.2)
  | bastore  =>
    cases (Nat.eq_of_beq_eq_true hi : n = 1)
    unfold step at h; dsimp only at h
    obtain ⟨k, i, x, r, e0, h9⟩ := aii_ok h; subst e0
    split at h9
    · obtain ⟨hk, hc, h9⟩ := isK_ok h9; exact am_bast hk hc h9.1 hd (hK h9.2)
    · obtain ⟨hk, hc, h9⟩ := isK_ok h9; exact am_zast hk hc h9.1 h9.2.1 hd (hK h9.2.2)
  | aastore  =>
    cases (Nat.eq_of_beq_eq_true hi : n = 1)
    unfold step at h; dsimp only at h
    obtain ⟨k, i, v, r, rfl, h⟩ := aia_ok h; obtain ⟨hk, hc, h⟩ := isK_ok h; obtain ⟨hv, hs, h2⟩ := isK_ok h.2; exact am_aast hk hc h.1 hv hs hd (hK h2)
  | ldc v =>
    cases (Nat.eq_of_beq_eq_true hi : n = 2)
    unfold step at h; dsimp only at h
    split at h
    · rename_i q e; exact am_ldc (hP.2.1 _ (fnd_mem e)) hd (hK h)
    · obtain ⟨j, e, h⟩ := mF_ok h; exact am_ldcS (hP.2.2.2.1 _ (fnd_mem e)) hd (hK h)
  | ldc_w v =>
    cases (Nat.eq_of_beq_eq_true hi : n = 3)
    unfold step at h; dsimp only at h
    obtain ⟨q, e, h⟩ := mF_ok h; exact am_ldcw (hP.2.1 _ (fnd_mem e)) hd (hK h)
  | ldc2_w v =>
    cases (Nat.eq_of_beq_eq_true hi : n = 3)
    unfold step at h; dsimp only at h
    obtain ⟨q, e, h⟩ := mF_ok h; exact am_ldc2 (hP.2.2.1 _ (fnd_mem e)) hd (hK h)
  | ireturn  =>
    cases (Nat.eq_of_beq_eq_true hi : n = 1)
    unfold step at h; dsimp only at h
    obtain ⟨v, r, e0, h9⟩ := s1_ok h; subst e0
    split at h9
    · obtain ⟨ty, e, h1, h2⟩ := rtI_ok h9; exact hRET.1 hd e h1 h2
    · exact h9.elim
  | lreturn  =>
    simp only [okI, Bool.and_eq_true] at hi
    cases (Nat.eq_of_beq_eq_true hi.1 : n = 1)
    unfold step at h; dsimp only at h
    obtain ⟨v, r, e0, h9⟩ := j1_ok h; subst e0
    split at h9
    · exact hRET.2.1 hd (of_decide_eq_true hi.2) h9
    · exact h9.elim
  | return_  =>
    simp only [okI, Bool.and_eq_true] at hi
    cases (Nat.eq_of_beq_eq_true hi.1 : n = 1)
    unfold step at h; dsimp only at h
    split at h
    · exact hRET.2.2.1 hd (of_decide_eq_true hi.2) h
    · exact h.elim
  | new v =>
    cases (Nat.eq_of_beq_eq_true hi : n = 3)
    unfold step at h; dsimp only at h
    split at h
    · obtain ⟨q, e, h⟩ := mF_ok h; obtain ⟨h1, h⟩ := isT_ok h; exact hRET.2.2.2.1 hd (fnd_mem e) h1 h
    · exact h.elim
  | invokevirtual v =>
    cases (Nat.eq_of_beq_eq_true hi : n = 3)
    exact step_V hP hRET hK hd h
  | invokestatic v =>
    cases (Nat.eq_of_beq_eq_true hi : n = 3)
    exact step_S hP hRET hK hd h
  | ifCond c o =>
    cases c with
    | eq =>
      simp only [okI, Bool.and_eq_true] at hi
      cases (Nat.eq_of_beq_eq_true hi.1 : n = 3)
      unfold step at h; dsimp only at h
      obtain ⟨x, r, rfl, h⟩ := s1_ok h; exact am_if_eq (of_decide_eq_true hi.2) hd ⟨fun z => hK (h.1 z), fun z => hK (h.2 z)⟩
    | ne =>
      simp only [okI, Bool.and_eq_true] at hi
      cases (Nat.eq_of_beq_eq_true hi.1 : n = 3)
      unfold step at h; dsimp only at h
      obtain ⟨x, r, rfl, h⟩ := s1_ok h; exact am_if_ne (of_decide_eq_true hi.2) hd ⟨fun z => hK (h.1 z), fun z => hK (h.2 z)⟩
    | lt =>
      simp only [okI, Bool.and_eq_true] at hi
      cases (Nat.eq_of_beq_eq_true hi.1 : n = 3)
      unfold step at h; dsimp only at h
      obtain ⟨x, r, rfl, h⟩ := s1_ok h; exact am_if_lt (of_decide_eq_true hi.2) hd ⟨fun z => hK (h.1 z), fun z => hK (h.2 z)⟩
    | ge =>
      simp only [okI, Bool.and_eq_true] at hi
      cases (Nat.eq_of_beq_eq_true hi.1 : n = 3)
      unfold step at h; dsimp only at h
      obtain ⟨x, r, rfl, h⟩ := s1_ok h; exact am_if_ge (of_decide_eq_true hi.2) hd ⟨fun z => hK (h.1 z), fun z => hK (h.2 z)⟩
    | gt =>
      simp only [okI, Bool.and_eq_true] at hi
      cases (Nat.eq_of_beq_eq_true hi.1 : n = 3)
      unfold step at h; dsimp only at h
      obtain ⟨x, r, rfl, h⟩ := s1_ok h; exact am_if_gt (of_decide_eq_true hi.2) hd ⟨fun z => hK (h.1 z), fun z => hK (h.2 z)⟩
    | le =>
      simp only [okI, Bool.and_eq_true] at hi
      cases (Nat.eq_of_beq_eq_true hi.1 : n = 3)
      unfold step at h; dsimp only at h
      obtain ⟨x, r, rfl, h⟩ := s1_ok h; exact am_if_le (of_decide_eq_true hi.2) hd ⟨fun z => hK (h.1 z), fun z => hK (h.2 z)⟩
  | if_icmp c o =>
    cases c with
    | eq =>
      simp only [okI, Bool.and_eq_true] at hi
      cases (Nat.eq_of_beq_eq_true hi.1 : n = 3)
      unfold step at h; dsimp only at h
      obtain ⟨x, y, r, rfl, h⟩ := s2_ok h; exact am_icmp_eq (of_decide_eq_true hi.2) hd ⟨fun z => hK (h.1 z), fun z => hK (h.2 z)⟩
    | ne =>
      simp only [okI, Bool.and_eq_true] at hi
      cases (Nat.eq_of_beq_eq_true hi.1 : n = 3)
      unfold step at h; dsimp only at h
      obtain ⟨x, y, r, rfl, h⟩ := s2_ok h; exact am_icmp_ne (of_decide_eq_true hi.2) hd ⟨fun z => hK (h.1 z), fun z => hK (h.2 z)⟩
    | lt =>
      simp only [okI, Bool.and_eq_true] at hi
      cases (Nat.eq_of_beq_eq_true hi.1 : n = 3)
      unfold step at h; dsimp only at h
      obtain ⟨x, y, r, rfl, h⟩ := s2_ok h; exact am_icmp_lt (of_decide_eq_true hi.2) hd ⟨fun z => hK (h.1 z), fun z => hK (h.2 z)⟩
    | ge =>
      simp only [okI, Bool.and_eq_true] at hi
      cases (Nat.eq_of_beq_eq_true hi.1 : n = 3)
      unfold step at h; dsimp only at h
      obtain ⟨x, y, r, rfl, h⟩ := s2_ok h; exact am_icmp_ge (of_decide_eq_true hi.2) hd ⟨fun z => hK (h.1 z), fun z => hK (h.2 z)⟩
    | gt =>
      simp only [okI, Bool.and_eq_true] at hi
      cases (Nat.eq_of_beq_eq_true hi.1 : n = 3)
      unfold step at h; dsimp only at h
      obtain ⟨x, y, r, rfl, h⟩ := s2_ok h; exact am_icmp_gt (of_decide_eq_true hi.2) hd ⟨fun z => hK (h.1 z), fun z => hK (h.2 z)⟩
    | le =>
      simp only [okI, Bool.and_eq_true] at hi
      cases (Nat.eq_of_beq_eq_true hi.1 : n = 3)
      unfold step at h; dsimp only at h
      obtain ⟨x, y, r, rfl, h⟩ := s2_ok h; exact am_icmp_le (of_decide_eq_true hi.2) hd ⟨fun z => hK (h.1 z), fun z => hK (h.2 z)⟩
  | _ => exact h.elim
end AM13
end
section
/-! regions: from a cut to the next -/
def reg (R : Room) (RET : Out → Nat → Nat → Mem → Prop) (g : Gl) (mi : MI) (M : MT) (cs : List (Nat × List Nat)) (W : Kt) : Nat → Kt
  | 0 => W
  | f + 1 => fun nc ns pc ls st μ => match fnd cs pc with
    | some ks => W nc ns pc (lpick ls ks) st μ
    | none => mF (fnd M.1 pc) fun q => step R RET g mi M q.1 nc ns pc ls st μ (reg R RET g mi M cs W f)
def reg1 (R : Room) (RET : Out → Nat → Nat → Mem → Prop) (g : Gl) (mi : MI) (M : MT) (cs : List (Nat × List Nat)) (W : Kt) (f : Nat) : Kt := fun nc ns pc ls st μ => mF (fnd M.1 pc) fun q => step R RET g mi M q.1 nc ns pc ls st μ (reg R RET g mi M cs W f)
def TabOK (mi : MI) (M : MT) : Prop := ∀ q ∈ M.1, decode (miC mi) q.1 = .ok q.2 ∧ okI mi q.1 q.2.1 q.2.2 = true
section AM14
variable {g : Gl} {mi : MI} {R : Room} {Q : QT} {M : MT} {RET : Out → Nat → Nat → Mem → Prop} {cs : List (Nat × List Nat)}
theorem reg_sound (hT : TabOK mi M) (hP : PoolOK (miY mi).cls M.2.1) (hRET : RetOK g mi M R Q RET) : ∀ (f : Nat) {nc ns pc : Nat} {ls : Lo} {st : List Value} {μ : Mem}, reg R RET g mi M cs (Wm g mi R Q) f nc ns pc ls st μ → Wm g mi R Q nc ns pc ls st μ := by
  intro f
  induction f with
  | zero => intro nc ns pc ls st μ h; exact h
  | succ f ih =>
    intro nc ns pc ls st μ h
    unfold reg at h
    split at h
    · exact Wm.pick lpick_sub h
    · obtain ⟨q, e, h⟩ := mF_ok h
      obtain ⟨h1, h2⟩ := hT _ (fnd_mem e)
      exact step_sound hP hRET ih h1 h2 h
theorem reg1_sound (hT : TabOK mi M) (hP : PoolOK (miY mi).cls M.2.1) (hRET : RetOK g mi M R Q RET) (f : Nat) {nc ns pc : Nat} {ls : Lo} {st : List Value} {μ : Mem} (h : reg1 R RET g mi M cs (Wm g mi R Q) f nc ns pc ls st μ) : Wm g mi R Q nc ns pc ls st μ := by
  unfold reg1 at h
  obtain ⟨q, e, h⟩ := mF_ok h
  obtain ⟨h1, h2⟩ := hT _ (fnd_mem e)
  exact step_sound hP hRET (reg_sound hT hP hRET f) h1 h2 h
end AM14
/-- a method's end, as its contract wants it -/
def rtM (mi : MI) (Φ : Out → Mem → Prop) : Out → Nat → Nat → Mem → Prop := fun o nc ns μ => match Nat.ble nc (miK mi) && Nat.ble ns (miS mi) with
  | true => Φ o μ
  | false => False
/-- throws and handlers of a method stand in its code -/
def ThrOK (mi : MI) (M : MT) : Prop := (∀ q ∈ M.2.2.1, miH mi = [] ∧ thrW (miY mi).cls q.2.1 q.2.2.2.2.1 q.2.2.2.2.2.1 ∧ strB (miY mi).cls (q.2.2.1, q.2.2.2.1) = true ∧ decode (miC mi) (q.1 + 3) = .ok (.dup, 1) ∧ ((decode (miC mi) (q.1 + 4) = .ok (.ldc q.2.2.1, 2) ∧ decode (miC mi) (q.1 + 6) = .ok (.invokespecial q.2.2.2.2.1, 3) ∧ decode (miC mi) (q.1 + 9) = .ok (.athrow, 1)) ∨ (decode (miC mi) (q.1 + 4) = .ok (.ldc_w q.2.2.1, 3) ∧ decode (miC mi) (q.1 + 7) = .ok (.invokespecial q.2.2.2.2.1, 3) ∧ decode (miC mi) (q.1 + 10) = .ok (.athrow, 1)))) ∧
  (miH mi = M.2.2.2.map (fun h => (h.1, h.2.1, h.2.2.1, h.2.2.2.1))) ∧
  ∀ h ∈ M.2.2.2, h.2.2.2.1 ≠ 0 ∧ h.2.2.2.2.1 < 5 ∧ Cond.classLink (miY mi).cls h.2.2.2.1 (EN h.2.2.2.2.1) ∈ TB ∧ Cond.castable (EN h.2.2.2.2.1) (EN h.2.2.2.2.1) ∈ NW ∧ h.2.2.2.2.2.1 < miN mi ∧ ((∃ k : Fin 4, (k : Nat) = h.2.2.2.2.2.1 ∧ h.2.2.2.2.2.2 = 1 ∧ decode (miC mi) h.2.2.1 = .ok (.astore_n k, 1)) ∨ (h.2.2.2.2.2.2 = 2 ∧ decode (miC mi) h.2.2.1 = .ok (.astore h.2.2.2.2.2.1, 2)))
theorem hdl_ok {g : Gl} {mi : MI} {M : MT} {R : Room} {Q : QT} (hT : ThrOK mi M) {e nc ns pc : Nat} {ls : Lo} {μ : Mem} (h5 : e < 5) : ∀ (pre suf : List Hdl), M.2.2.2 = pre ++ suf → (∀ z ∈ pre, z.2.2.2.2.1 ≠ e) → hx (fun hp n ln => Wm g mi R Q nc ns (hp + ln) (ls.filter fun q => Nat.ble (q.1 + q.2.category) n) [] μ) pc e suf → WX g mi R Q nc ns pc ls e μ := by
  intro pre suf
  induction suf generalizing pre with
  | nil => intro _ _ h; exact h.elim
  | cons q t ih =>
    intro hM hpre h
    obtain ⟨a, b, hp, ct, e9, n, ln⟩ := q
    unfold hx at h
    cases hb : Nat.beq e9 e with
    | false =>
      rw [hb] at h
      have hne : e9 ≠ e := fun q => by rw [q, Nat.beq_refl] at hb; cases hb
      refine ih (pre ++ [(a, b, hp, ct, e9, n, ln)]) (by rw [hM]; simp) (fun z hz => ?_) h
      rcases List.mem_append.mp hz with h1 | h1
      · exact hpre z h1
      · simp only [List.mem_cons, List.not_mem_nil, or_false] at h1
        rw [h1]; exact hne
    | true =>
      rw [hb] at h
      have heq : e9 = e := Nat.eq_of_beq_eq_true hb
      subst heq
      dsimp only at h
      cases hc : (Nat.ble a pc && Nat.blt pc b) with
      | false => rw [hc] at h; exact h.elim
      | true =>
        rw [hc] at h
        simp only [Bool.and_eq_true] at hc
        obtain ⟨-, h2, h3⟩ := hT
        obtain ⟨k1, k2, k3, k4, k5, k6⟩ := h3 (a, b, hp, ct, e9, n, ln) (by rw [hM]; simp)
        refine WX.catch (pre := pre.map (fun h => (h.1, h.2.1, h.2.2.1, h.2.2.2.1))) (suf := t.map (fun h => (h.1, h.2.1, h.2.2.1, h.2.2.2.1))) (a := a) (b := b) (hp := hp) (ct := ct) (n := n) (ln := ln) (by rw [h2, hM]; simp) (fun z hz => ?_) h5 ⟨Nat.le_of_ble_eq_true hc.1, Nat.le_of_ble_eq_true hc.2⟩ k1 k3 k4 k5 k6 h
        obtain ⟨w, hw, rfl⟩ := List.mem_map.mp hz
        obtain ⟨j1, j2, j3, -⟩ := h3 w (by rw [hM]; simp [hw])
        exact ⟨j1, w.2.2.2.2.1, j2, hpre w hw, j3⟩
theorem rtM_ok {g : Gl} {mi : MI} {M : MT} {R : Room} {Φ : Out → Mem → Prop} (hT : ThrOK mi M) : RetOK g mi M R (QM g mi Φ) (rtM mi Φ) := by
  have key : ∀ {o : Out} {nc ns : Nat} {μ : Mem}, rtM mi Φ o nc ns μ → nc ≤ miK mi ∧ ns ≤ miS mi ∧ Φ o μ := by
    intro o nc ns μ h
    unfold rtM at h
    cases hb : (Nat.ble nc (miK mi) && Nat.ble ns (miS mi)) with
    | false => rw [hb] at h; exact h.elim
    | true =>
      rw [hb] at h
      simp only [Bool.and_eq_true] at hb
      exact ⟨Nat.le_of_ble_eq_true hb.1, Nat.le_of_ble_eq_true hb.2, h⟩
  refine ⟨fun hd hT hn h => ?_, fun hd hT h => ?_, fun hd hT h => ?_, fun hd hq hb h => ?_, fun hM h5 h => ?_, fun h5 h => hdl_ok hT h5 [] _ rfl (fun z hz => by cases hz) h⟩
  · obtain ⟨h1, h2, h3⟩ := key h; exact am_ret hT hn h1 h2 hd h3
  · obtain ⟨h1, h2, h3⟩ := key h; exact am_lret hT h1 h2 hd h3
  · obtain ⟨h1, h2, h3⟩ := key h; exact am_vret hT h1 h2 hd h3
  · obtain ⟨h1, h2, h3⟩ := key h
    obtain ⟨k1, k2, k3, k4, k5⟩ := hT.1 _ hq
    simp only [Bool.and_eq_true] at hb
    obtain ⟨⟨⟨⟨⟨b1, b2⟩, b3⟩, b4⟩, b5⟩, b6⟩ := hb
    rw [Nat.eq_of_beq_eq_true b1] at k2
    exact am_throw k1 k2 k3 (Nat.le_of_ble_eq_true b2) (Nat.le_of_ble_eq_true b3) (Nat.le_of_ble_eq_true b4) (Nat.le_of_ble_eq_true b5) hd k4 k5 h1 h2 h3
  · obtain ⟨h1, h2, h3⟩ := key h
    refine WX.out ?_ h5 h1 h2 h3
    rw [hT.2.1, hM]; rfl
end
section
/-! methods, by program (wip/whole/gen_meth.py) -/
def miB2 (mi : MI) (n : Nat) : Bool := goodWord (codeW mi) && plainName (miY mi).cls && decide ((miY mi).cls ≠ "java/lang/invoke/MethodHandle") && decide ((miY mi).cls ≠ "java/lang/invoke/VarHandle") && decide ((parseMethodDescriptor (miY mi).desc).map (fun d => d.parameters.length) = some n) && Nat.ble (miN mi) 40
theorem mok_of {mi : MI} {pl n : Nat} (h0 : (tbl (pl / 1000))[pl % 1000]? = some (codeW mi)) (h : miB2 mi n = true) : MOK mi n := by
  simp only [miB2, Bool.and_eq_true, decide_eq_true_eq] at h
  obtain ⟨⟨⟨⟨⟨h1, h2⟩, h3⟩, h4⟩, h5⟩, h6⟩ := h
  exact ⟨List.mem_filter.mpr ⟨tbl_in (List.mem_of_getElem? h0), h1⟩, h2, ⟨h3, h4, h5⟩, Nat.le_of_ble_eq_true h6⟩
def i_SO_feed : MI := (⟨"SaidOnce", "feed", "(IIIII)I"⟩, prog_1_method_2_code, 6, (some .int), [], 3, 0, 0)
theorem o_SO_feed : MOK i_SO_feed 5 := mok_of (pl := 12198) (by rfl) (by decide +kernel)
def i_Tape_put : MI := (⟨"SaidOnce$Tape", "put", "(I)V"⟩, prog_12_method_2_code, 3, none, [], 2, 0, 0)
theorem o_Tape_put : MOK i_Tape_put 1 := mok_of (pl := 12202) (by rfl) (by decide +kernel)
def i_SO_end : MI := (⟨"SaidOnce", "end", "(I)Z"⟩, prog_1_method_3_code, 2, (some .boolean), [], 2, 0, 0)
theorem o_SO_end : MOK i_SO_end 1 := mok_of (pl := 12206) (by rfl) (by decide +kernel)
def i_SO_fault : MI := (⟨"SaidOnce", "fault", "()I"⟩, prog_1_method_6_code, 1, (some .int), [], 2, 0, 0)
theorem o_SO_fault : MOK i_SO_fault 0 := mok_of (pl := 12210) (by rfl) (by decide +kernel)
def i_SO_store : MI := (⟨"SaidOnce", "store", "()J"⟩, prog_1_method_10_code, 1, (some .long), [], 2, 0, 0)
theorem o_SO_store : MOK i_SO_store 0 := mok_of (pl := 12214) (by rfl) (by decide +kernel)
def i_SO_day : MI := (⟨"SaidOnce", "day", "()I"⟩, prog_1_method_18_code, 2, (some .int), [], 4, 0, 0)
theorem o_SO_day : MOK i_SO_day 0 := mok_of (pl := 12218) (by rfl) (by decide +kernel)
def i_SO_remember : MI := (⟨"SaidOnce", "remember", "()V"⟩, prog_1_method_56_code, 3, none, [], 3, 0, 0)
theorem o_SO_remember : MOK i_SO_remember 0 := mok_of (pl := 12222) (by rfl) (by decide +kernel)
def i_Sta_copyFrom : MI := (⟨"SaidOnce$State", "copyFrom", "(LSaidOnce$State;)V"⟩, prog_11_method_2_code, 2, none, [], 2, 0, 0)
theorem o_Sta_copyFrom : MOK i_Sta_copyFrom 1 := mok_of (pl := 12226) (by rfl) (by decide +kernel)
def i_Int_bitCount : MI := (⟨"java/lang/Integer", "bitCount", "(I)I"⟩, prog_22_method_49_code, 1, (some .int), [], 2, 0, 0)
theorem o_Int_bitCount : MOK i_Int_bitCount 1 := mok_of (pl := 12232) (by rfl) (by decide +kernel)
def i_SO_sayable : MI := (⟨"SaidOnce", "sayable", "()I"⟩, prog_1_method_20_code, 1, (some .int), [], 5, 0, 0)
theorem o_SO_sayable : MOK i_SO_sayable 0 := mok_of (pl := 12239) (by rfl) (by decide +kernel)
def i_Sch_present : MI := (⟨"SaidOnce$School", "present", "()I"⟩, prog_7_method_4_code, 1, (some .int), [], 2, 0, 0)
theorem o_Sch_present : MOK i_Sch_present 0 := mok_of (pl := 13003) (by rfl) (by decide +kernel)
def i_Sch_knownBy : MI := (⟨"SaidOnce$School", "knownBy", "(I)I"⟩, prog_7_method_13_code, 4, (some .int), [], 2, 0, 0)
theorem o_Sch_knownBy : MOK i_Sch_knownBy 1 := mok_of (pl := 13007) (by rfl) (by decide +kernel)
def i_Sch_leftThings : MI := (⟨"SaidOnce$School", "leftThings", "()I"⟩, prog_7_method_10_code, 3, (some .int), [], 4, 0, 0)
theorem o_Sch_leftThings : MOK i_Sch_leftThings 0 := mok_of (pl := 13011) (by rfl) (by decide +kernel)
def i_Sch_leftWordings : MI := (⟨"SaidOnce$School", "leftWordings", "(I)I"⟩, prog_7_method_6_code, 2, (some .int), [], 3, 0, 0)
theorem o_Sch_leftWordings : MOK i_Sch_leftWordings 1 := mok_of (pl := 13015) (by rfl) (by decide +kernel)
def i_Sch_saidWordings : MI := (⟨"SaidOnce$School", "saidWordings", "(I)I"⟩, prog_7_method_5_code, 2, (some .int), [], 2, 0, 0)
theorem o_Sch_saidWordings : MOK i_Sch_saidWordings 1 := mok_of (pl := 13019) (by rfl) (by decide +kernel)
def i_SO_dumb : MI := (⟨"SaidOnce", "dumb", "()I"⟩, prog_1_method_21_code, 3, (some .int), [], 5, 0, 0)
theorem o_SO_dumb : MOK i_SO_dumb 0 := mok_of (pl := 13023) (by rfl) (by decide +kernel)
def i_Sta_isAbsent : MI := (⟨"SaidOnce$State", "isAbsent", "(I)Z"⟩, prog_11_method_3_code, 2, (some .boolean), [], 2, 0, 0)
theorem o_Sta_isAbsent : MOK i_Sta_isAbsent 1 := mok_of (pl := 13027) (by rfl) (by decide +kernel)
def i_SO_silent : MI := (⟨"SaidOnce", "silent", "()I"⟩, prog_1_method_22_code, 1, (some .int), [], 5, 0, 0)
theorem o_SO_silent : MOK i_SO_silent 0 := mok_of (pl := 13031) (by rfl) (by decide +kernel)
def i_Sch_allThings : MI := (⟨"SaidOnce$School", "allThings", "()I"⟩, prog_7_method_3_code, 1, (some .int), [], 2, 0, 0)
theorem o_Sch_allThings : MOK i_Sch_allThings 0 := mok_of (pl := 13035) (by rfl) (by decide +kernel)
def i_SO_exam : MI := (⟨"SaidOnce", "exam", "()I"⟩, prog_1_method_27_code, 3, (some .int), [], 4, 0, 0)
theorem o_SO_exam : MOK i_SO_exam 0 := mok_of (pl := 13039) (by rfl) (by decide +kernel)
def i_Set_following : MI := (⟨"SaidOnce$Setup", "following", "(I)I"⟩, prog_10_method_3_code, 7, (some .int), [], 2, 0, 0)
theorem o_Set_following : MOK i_Set_following 1 := mok_of (pl := 13043) (by rfl) (by decide +kernel)
def i_Sch_saidThings : MI := (⟨"SaidOnce$School", "saidThings", "()I"⟩, prog_7_method_11_code, 3, (some .int), [], 3, 0, 0)
theorem o_Sch_saidThings : MOK i_Sch_saidThings 0 := mok_of (pl := 13047) (by rfl) (by decide +kernel)
def i_SO_last : MI := (⟨"SaidOnce", "last", "()I"⟩, prog_1_method_28_code, 1, (some .int), [], 8, 0, 0)
theorem o_SO_last : MOK i_SO_last 0 := mok_of (pl := 13051) (by rfl) (by decide +kernel)
def i_Sch_countLast : MI := (⟨"SaidOnce$School", "countLast", "()I"⟩, prog_7_method_22_code, 4, (some .int), [], 7, 0, 0)
theorem o_Sch_countLast : MOK i_Sch_countLast 0 := mok_of (pl := 13055) (by rfl) (by decide +kernel)
def i_Sch_tellAll : MI := (⟨"SaidOnce$School", "tellAll", "(I)Z"⟩, prog_7_method_23_code, 5, (some .boolean), [], 6, 0, 0)
theorem o_Sch_tellAll : MOK i_Sch_tellAll 1 := mok_of (pl := 13061) (by rfl) (by decide +kernel)
def i_Sch_isLeft : MI := (⟨"SaidOnce$School", "isLeft", "(II)Z"⟩, prog_7_method_7_code, 3, (some .boolean), [], 4, 0, 0)
theorem o_Sch_isLeft : MOK i_Sch_isLeft 2 := mok_of (pl := 13065) (by rfl) (by decide +kernel)
def i_Sch_tellOne : MI := (⟨"SaidOnce$School", "tellOne", "(III)Z"⟩, prog_7_method_24_code, 7, (some .boolean), [], 5, 0, 0)
theorem o_Sch_tellOne : MOK i_Sch_tellOne 3 := mok_of (pl := 13069) (by rfl) (by decide +kernel)
def i_Sch_taken : MI := (⟨"SaidOnce$School", "taken", "(IIIIZ)I"⟩, prog_7_method_15_code, 8, (some .int), [], 4, 0, 0)
theorem o_Sch_taken : MOK i_Sch_taken 5 := mok_of (pl := 13073) (by rfl) (by decide +kernel)
def i_Sta_distance : MI := (⟨"SaidOnce$State", "distance", "(II)I"⟩, prog_11_method_5_code, 3, (some .int), [], 2, 0, 0)
theorem o_Sta_distance : MOK i_Sta_distance 2 := mok_of (pl := 13077) (by rfl) (by decide +kernel)
def i_Law_tell : MI := (⟨"SaidOnce$Law", "tell", "(IIII)V"⟩, prog_2_method_6_code, 5, none, [], 2, 0, 0)
theorem o_Law_tell : MOK i_Law_tell 4 := mok_of (pl := 13087) (by rfl) (by decide +kernel)
def i_Law_judge : MI := (⟨"SaidOnce$Law", "judge", "(IIIZ)V"⟩, prog_2_method_7_code, 6, none, [], 3, 0, 0)
theorem o_Law_judge : MOK i_Law_judge 4 := mok_of (pl := 13091) (by rfl) (by decide +kernel)
def i_Law_holds : MI := (⟨"SaidOnce$Law", "holds", "(I)Z"⟩, prog_2_method_8_code, 7, (some .boolean), [], 2, 0, 0)
theorem o_Law_holds : MOK i_Law_holds 1 := mok_of (pl := 13095) (by rfl) (by decide +kernel)
def i_Sch_countLeftOf : MI := (⟨"SaidOnce$School", "countLeftOf", "(I)I"⟩, prog_7_method_9_code, 4, (some .int), [], 5, 0, 0)
theorem o_Sch_countLeftOf : MOK i_Sch_countLeftOf 1 := mok_of (pl := 13099) (by rfl) (by decide +kernel)
def i_Sch_countLeft : MI := (⟨"SaidOnce$School", "countLeft", "(I)I"⟩, prog_7_method_8_code, 2, (some .int), [], 4, 0, 0)
theorem o_Sch_countLeft : MOK i_Sch_countLeft 1 := mok_of (pl := 13103) (by rfl) (by decide +kernel)
def i_SO_groups : MI := (⟨"SaidOnce", "groups", "(Z)I"⟩, prog_1_method_31_code, 8, (some .int), [], 2, 0, 0)
theorem o_SO_groups : MOK i_SO_groups 1 := mok_of (pl := 13108) (by rfl) (by decide +kernel)
def i_SO_teacher : MI := (⟨"SaidOnce", "teacher", "()I"⟩, prog_1_method_38_code, 5, (some .int), [], 4, 0, 0)
theorem o_SO_teacher : MOK i_SO_teacher 0 := mok_of (pl := 13113) (by rfl) (by decide +kernel)
def i_Log_taughtBy : MI := (⟨"SaidOnce$Log", "taughtBy", "(II)I"⟩, prog_5_method_5_code, 5, (some .int), [], 3, 0, 0)
theorem o_Log_taughtBy : MOK i_Log_taughtBy 2 := mok_of (pl := 13117) (by rfl) (by decide +kernel)
def i_SO_seed : MI := (⟨"SaidOnce", "seed", "(I)I"⟩, prog_1_method_46_code, 3, (some .int), [], 2, 0, 0)
theorem o_SO_seed : MOK i_SO_seed 1 := mok_of (pl := 13122) (by rfl) (by decide +kernel)
def i_SO_undo : MI := (⟨"SaidOnce", "undo", "()Z"⟩, prog_1_method_47_code, 1, (some .boolean), [], 3, 0, 0)
theorem o_SO_undo : MOK i_SO_undo 0 := mok_of (pl := 13126) (by rfl) (by decide +kernel)
def i_SO_image : MI := (⟨"SaidOnce", "image", "()V"⟩, prog_1_method_48_code, 1, none, [], 4, 0, 0)
theorem o_SO_image : MOK i_SO_image 0 := mok_of (pl := 13130) (by rfl) (by decide +kernel)
def i_Sch_copyFrom : MI := (⟨"SaidOnce$School", "copyFrom", "(LSaidOnce$School;)V"⟩, prog_7_method_2_code, 2, none, [], 3, 0, 0)
theorem o_Sch_copyFrom : MOK i_Sch_copyFrom 1 := mok_of (pl := 13134) (by rfl) (by decide +kernel)
def i_Set_copyFrom : MI := (⟨"SaidOnce$Setup", "copyFrom", "(LSaidOnce$Setup;)V"⟩, prog_10_method_2_code, 2, none, [], 2, 0, 0)
theorem o_Set_copyFrom : MOK i_Set_copyFrom 1 := mok_of (pl := 13138) (by rfl) (by decide +kernel)
def i_Law_copyFrom : MI := (⟨"SaidOnce$Law", "copyFrom", "(LSaidOnce$Law;)V"⟩, prog_2_method_5_code, 2, none, [], 2, 0, 0)
theorem o_Law_copyFrom : MOK i_Law_copyFrom 1 := mok_of (pl := 13144) (by rfl) (by decide +kernel)
def i_Log_copyFrom : MI := (⟨"SaidOnce$Log", "copyFrom", "(LSaidOnce$Log;)V"⟩, prog_5_method_2_code, 2, none, [], 2, 0, 0)
theorem o_Log_copyFrom : MOK i_Log_copyFrom 1 := mok_of (pl := 13149) (by rfl) (by decide +kernel)
def i_SO_back : MI := (⟨"SaidOnce", "back", "()Z"⟩, prog_1_method_49_code, 1, (some .boolean), [], 4, 0, 0)
theorem o_SO_back : MOK i_SO_back 0 := mok_of (pl := 13154) (by rfl) (by decide +kernel)
def i_SO_count : MI := (⟨"SaidOnce", "count", "(I)I"⟩, prog_1_method_50_code, 2, (some .int), [], 6, 0, 0)
theorem o_SO_count : MOK i_SO_count 1 := mok_of (pl := 13158) (by rfl) (by decide +kernel)
def i_Lng_bitCount : MI := (⟨"java/lang/Long", "bitCount", "(J)I"⟩, prog_23_method_50_code, 2, (some .int), [], 2, 0, 0)
theorem o_Lng_bitCount : MOK i_Lng_bitCount 1 := mok_of (pl := 13161) (by rfl) (by decide +kernel)
def i_L_school : MI := (⟨"SaidOnceLaw", "school", "(LSaidOnce;[J)I"⟩, method_3_code, 3, (some .int), [(0, 8, 11, 13), (0, 8, 14, 15)], 13, 1, 6)
theorem o_L_school : MOK i_L_school 2 := mok_of (pl := 13168) (by rfl) (by decide +kernel)
def i_SO_school : MI := (⟨"SaidOnce", "school", "()I"⟩, prog_1_method_4_code, 2, (some .int), [], 12, 1, 6)
theorem o_SO_school : MOK i_SO_school 0 := mok_of (pl := 13174) (by rfl) (by decide +kernel)
def i_SchR_begin : MI := (⟨"SaidOnce$SchoolReader", "begin", "(LSaidOnce$School;)V"⟩, prog_8_method_2_code, 2, none, [], 3, 0, 0)
theorem o_SchR_begin : MOK i_SchR_begin 1 := mok_of (pl := 13178) (by rfl) (by decide +kernel)
def i_LineR_readLines : MI := (⟨"SaidOnce$LineReader", "readLines", "(I)I"⟩, prog_4_method_3_code, 3, (some .int), [], 11, 0, 0)
theorem o_LineR_readLines : MOK i_LineR_readLines 1 := mok_of (pl := 13186) (by rfl) (by decide +kernel)
def i_Tape_open : MI := (⟨"SaidOnce$Tape", "open", "()V"⟩, prog_12_method_5_code, 1, none, [], 4, 0, 0)
theorem o_Tape_open : MOK i_Tape_open 0 := mok_of (pl := 13190) (by rfl) (by decide +kernel)
def i_Tape_next : MI := (⟨"SaidOnce$Tape", "next", "()V"⟩, prog_12_method_6_code, 2, none, [], 3, 0, 0)
theorem o_Tape_next : MOK i_Tape_next 0 := mok_of (pl := 13194) (by rfl) (by decide +kernel)
def i_Tape_isWithin : MI := (⟨"SaidOnce$Tape", "isWithin", "(ICC)Z"⟩, prog_12_method_7_code, 4, (some .boolean), [], 2, 0, 0)
theorem o_Tape_isWithin : MOK i_Tape_isWithin 3 := mok_of (pl := 13198) (by rfl) (by decide +kernel)
def i_Tape_atEnd : MI := (⟨"SaidOnce$Tape", "atEnd", "()Z"⟩, prog_12_method_8_code, 1, (some .boolean), [], 2, 0, 0)
theorem o_Tape_atEnd : MOK i_Tape_atEnd 0 := mok_of (pl := 13202) (by rfl) (by decide +kernel)
def i_LawR_readLine : MI := (⟨"SaidOnce$LawReader", "readLine", "()Z"⟩, prog_3_method_3_code, 3, (some .boolean), [], 10, 0, 0)
theorem o_LawR_readLine : MOK i_LawR_readLine 0 := mok_of (pl := 13208) (by rfl) (by decide +kernel)
def i_Tape_atWord : MI := (⟨"SaidOnce$Tape", "atWord", "(Ljava/lang/String;)Z"⟩, prog_12_method_11_code, 3, (some .boolean), [], 6, 0, 0)
theorem o_Tape_atWord : MOK i_Tape_atWord 1 := mok_of (pl := 13213) (by rfl) (by decide +kernel)
def i_Str_length : MI := (⟨"java/lang/String", "length", "()I"⟩, prog_26_method_54_code, 1, (some .int), [], 3, 0, 0)
theorem o_Str_length : MOK i_Str_length 0 := mok_of (pl := 13217) (by rfl) (by decide +kernel)
def i_Str_coder : MI := (⟨"java/lang/String", "coder", "()B"⟩, prog_26_method_152_code, 1, (some .byte), [], 2, 0, 0)
theorem o_Str_coder : MOK i_Str_coder 0 := mok_of (pl := 13221) (by rfl) (by decide +kernel)
def i_Str_charAt : MI := (⟨"java/lang/String", "charAt", "(I)C"⟩, prog_26_method_56_code, 2, (some .char), [], 5, 0, 0)
theorem o_Str_charAt : MOK i_Str_charAt 1 := mok_of (pl := 13227) (by rfl) (by decide +kernel)
def i_Str_isLatin1 : MI := (⟨"java/lang/String", "isLatin1", "()Z"⟩, prog_26_method_154_code, 1, (some .boolean), [], 2, 0, 0)
theorem o_Str_isLatin1 : MOK i_Str_isLatin1 0 := mok_of (pl := 13231) (by rfl) (by decide +kernel)
def i_StrL_charAt : MI := (⟨"java/lang/StringLatin1", "charAt", "([BI)C"⟩, prog_27_method_2_code, 2, (some .char), [], 4, 0, 0)
theorem o_StrL_charAt : MOK i_StrL_charAt 2 := mok_of (pl := 13234) (by rfl) (by decide +kernel)
def i_Str_checkIndex : MI := (⟨"java/lang/String", "checkIndex", "(II)V"⟩, prog_26_method_155_code, 2, none, [], 3, 0, 0)
theorem o_Str_checkIndex : MOK i_Str_checkIndex 2 := mok_of (pl := 13237) (by rfl) (by decide +kernel)
def i_Pre_checkIndex : MI := (⟨"jdk/internal/util/Preconditions", "checkIndex", "(IILjava/util/function/BiFunction;)I"⟩, prog_36_method_11_code, 3, (some .int), [], 2, 0, 0)
theorem o_Pre_checkIndex : MOK i_Pre_checkIndex 3 := mok_of (pl := 14002) (by rfl) (by decide +kernel)
def i_Tape_takeNumber : MI := (⟨"SaidOnce$Tape", "takeNumber", "(II)I"⟩, prog_12_method_12_code, 4, (some .int), [], 4, 0, 0)
theorem o_Tape_takeNumber : MOK i_Tape_takeNumber 2 := mok_of (pl := 14028) (by rfl) (by decide +kernel)
def i_Tape_atNumber : MI := (⟨"SaidOnce$Tape", "atNumber", "(II)Z"⟩, prog_12_method_9_code, 3, (some .boolean), [], 2, 0, 0)
theorem o_Tape_atNumber : MOK i_Tape_atNumber 2 := mok_of (pl := 14032) (by rfl) (by decide +kernel)
def i_Tape_takeWord : MI := (⟨"SaidOnce$Tape", "takeWord", "(Ljava/lang/String;)Z"⟩, prog_12_method_14_code, 2, (some .boolean), [], 7, 0, 0)
theorem o_Tape_takeWord : MOK i_Tape_takeWord 1 := mok_of (pl := 14037) (by rfl) (by decide +kernel)
def i_LawR_readCondition : MI := (⟨"SaidOnce$LawReader", "readCondition", "()Z"⟩, prog_3_method_4_code, 3, (some .boolean), [], 9, 0, 0)
theorem o_LawR_readCondition : MOK i_LawR_readCondition 0 := mok_of (pl := 14042) (by rfl) (by decide +kernel)
def i_LawR_readOpenings : MI := (⟨"SaidOnce$LawReader", "readOpenings", "()Z"⟩, prog_3_method_5_code, 3, (some .boolean), [], 7, 0, 0)
theorem o_LawR_readOpenings : MOK i_LawR_readOpenings 0 := mok_of (pl := 14046) (by rfl) (by decide +kernel)
def i_Tape_atSign : MI := (⟨"SaidOnce$Tape", "atSign", "(C)Z"⟩, prog_12_method_10_code, 2, (some .boolean), [], 2, 0, 0)
theorem o_Tape_atSign : MOK i_Tape_atSign 1 := mok_of (pl := 14050) (by rfl) (by decide +kernel)
def i_LawR_await : MI := (⟨"SaidOnce$LawReader", "await", "(I)V"⟩, prog_3_method_9_code, 2, none, [], 2, 0, 0)
theorem o_LawR_await : MOK i_LawR_await 1 := mok_of (pl := 14055) (by rfl) (by decide +kernel)
def i_LawR_readFact : MI := (⟨"SaidOnce$LawReader", "readFact", "()Z"⟩, prog_3_method_7_code, 5, (some .boolean), [], 8, 0, 0)
theorem o_LawR_readFact : MOK i_LawR_readFact 0 := mok_of (pl := 14059) (by rfl) (by decide +kernel)
def i_Law_addCode : MI := (⟨"SaidOnce$Law", "addCode", "(I)V"⟩, prog_2_method_4_code, 2, none, [], 2, 0, 0)
theorem o_Law_addCode : MOK i_Law_addCode 1 := mok_of (pl := 14064) (by rfl) (by decide +kernel)
def i_LawR_partHere : MI := (⟨"SaidOnce$LawReader", "partHere", "()I"⟩, prog_3_method_8_code, 1, (some .int), [], 7, 0, 0)
theorem o_LawR_partHere : MOK i_LawR_partHere 0 := mok_of (pl := 14068) (by rfl) (by decide +kernel)
def i_LawR_readClosings : MI := (⟨"SaidOnce$LawReader", "readClosings", "()V"⟩, prog_3_method_6_code, 2, none, [], 5, 0, 0)
theorem o_LawR_readClosings : MOK i_LawR_readClosings 0 := mok_of (pl := 14080) (by rfl) (by decide +kernel)
def i_LawR_settle : MI := (⟨"SaidOnce$LawReader", "settle", "(I)V"⟩, prog_3_method_10_code, 3, none, [], 3, 0, 0)
theorem o_LawR_settle : MOK i_LawR_settle 1 := mok_of (pl := 14084) (by rfl) (by decide +kernel)
def i_Tape_takeSign : MI := (⟨"SaidOnce$Tape", "takeSign", "(C)Z"⟩, prog_12_method_13_code, 2, (some .boolean), [], 4, 0, 0)
theorem o_Tape_takeSign : MOK i_Tape_takeSign 1 := mok_of (pl := 14088) (by rfl) (by decide +kernel)
def i_Law_addLine : MI := (⟨"SaidOnce$Law", "addLine", "(II)V"⟩, prog_2_method_3_code, 3, none, [], 2, 0, 0)
theorem o_Law_addLine : MOK i_Law_addLine 2 := mok_of (pl := 14095) (by rfl) (by decide +kernel)
def i_SchR_readLine : MI := (⟨"SaidOnce$SchoolReader", "readLine", "()Z"⟩, prog_8_method_4_code, 1, (some .boolean), [], 9, 0, 0)
theorem o_SchR_readLine : MOK i_SchR_readLine 0 := mok_of (pl := 14098) (by rfl) (by decide +kernel)
def i_SchR_readThing : MI := (⟨"SaidOnce$SchoolReader", "readThing", "()Z"⟩, prog_8_method_5_code, 2, (some .boolean), [], 5, 0, 0)
theorem o_SchR_readThing : MOK i_SchR_readThing 0 := mok_of (pl := 14104) (by rfl) (by decide +kernel)
def i_SchR_readPerson : MI := (⟨"SaidOnce$SchoolReader", "readPerson", "()Z"⟩, prog_8_method_6_code, 7, (some .boolean), [], 8, 0, 0)
theorem o_SchR_readPerson : MOK i_SchR_readPerson 0 := mok_of (pl := 14111) (by rfl) (by decide +kernel)
def i_Sta_seatedAt : MI := (⟨"SaidOnce$State", "seatedAt", "(III)I"⟩, prog_11_method_8_code, 5, (some .int), [], 2, 0, 0)
theorem o_Sta_seatedAt : MOK i_Sta_seatedAt 3 := mok_of (pl := 14116) (by rfl) (by decide +kernel)
def i_SchR_readThings : MI := (⟨"SaidOnce$SchoolReader", "readThings", "()I"⟩, prog_8_method_7_code, 4, (some .int), [], 5, 0, 0)
theorem o_SchR_readThings : MOK i_SchR_readThings 0 := mok_of (pl := 14124) (by rfl) (by decide +kernel)
def i_Sta_seat : MI := (⟨"SaidOnce$State", "seat", "(III)V"⟩, prog_11_method_6_code, 4, none, [], 2, 0, 0)
theorem o_Sta_seat : MOK i_Sta_seat 3 := mok_of (pl := 14128) (by rfl) (by decide +kernel)
def i_SchR_readRule : MI := (⟨"SaidOnce$SchoolReader", "readRule", "()Z"⟩, prog_8_method_8_code, 4, (some .boolean), [], 5, 0, 0)
theorem o_SchR_readRule : MOK i_SchR_readRule 0 := mok_of (pl := 14133) (by rfl) (by decide +kernel)
def i_SchR_readSaid : MI := (⟨"SaidOnce$SchoolReader", "readSaid", "()Z"⟩, prog_8_method_9_code, 3, (some .boolean), [], 5, 0, 0)
theorem o_SchR_readSaid : MOK i_SchR_readSaid 0 := mok_of (pl := 14138) (by rfl) (by decide +kernel)
def i_SO_numberOf : MI := (⟨"SaidOnce", "numberOf", "(II)I"⟩, prog_1_method_60_code, 2, (some .int), [], 2, 0, 0)
theorem o_SO_numberOf : MOK i_SO_numberOf 2 := mok_of (pl := 14141) (by rfl) (by decide +kernel)
def i_SchR_readAbsent : MI := (⟨"SaidOnce$SchoolReader", "readAbsent", "()Z"⟩, prog_8_method_10_code, 2, (some .boolean), [], 5, 0, 0)
theorem o_SchR_readAbsent : MOK i_SchR_readAbsent 0 := mok_of (pl := 14146) (by rfl) (by decide +kernel)
def i_SchR_readLoud : MI := (⟨"SaidOnce$SchoolReader", "readLoud", "()Z"⟩, prog_8_method_11_code, 2, (some .boolean), [], 5, 0, 0)
theorem o_SchR_readLoud : MOK i_SchR_readLoud 0 := mok_of (pl := 14151) (by rfl) (by decide +kernel)
def i_Tape_useUp : MI := (⟨"SaidOnce$Tape", "useUp", "()I"⟩, prog_12_method_3_code, 2, (some .int), [], 2, 0, 0)
theorem o_Tape_useUp : MOK i_Tape_useUp 0 := mok_of (pl := 14156) (by rfl) (by decide +kernel)
def i_SchR_deliver : MI := (⟨"SaidOnce$SchoolReader", "deliver", "(LSaidOnce$School;)V"⟩, prog_8_method_3_code, 2, none, [], 3, 0, 0)
theorem o_SchR_deliver : MOK i_SchR_deliver 1 := mok_of (pl := 15005) (by rfl) (by decide +kernel)
def i_L_law : MI := (⟨"SaidOnceLaw", "law", "(LSaidOnce;[J)I"⟩, method_4_code, 3, (some .int), [(0, 8, 11, 13)], 13, 1, 6)
theorem o_L_law : MOK i_L_law 2 := mok_of (pl := 15008) (by rfl) (by decide +kernel)
def i_SO_law : MI := (⟨"SaidOnce", "law", "()I"⟩, prog_1_method_5_code, 2, (some .int), [], 12, 1, 6)
theorem o_SO_law : MOK i_SO_law 0 := mok_of (pl := 15012) (by rfl) (by decide +kernel)
def i_LawR_begin : MI := (⟨"SaidOnce$LawReader", "begin", "()V"⟩, prog_3_method_2_code, 1, none, [], 3, 0, 0)
theorem o_LawR_begin : MOK i_LawR_begin 0 := mok_of (pl := 15016) (by rfl) (by decide +kernel)
def i_Law_clear : MI := (⟨"SaidOnce$Law", "clear", "()V"⟩, prog_2_method_2_code, 1, none, [], 2, 0, 0)
theorem o_Law_clear : MOK i_Law_clear 0 := mok_of (pl := 15020) (by rfl) (by decide +kernel)
def i_L_thing : MI := (⟨"SaidOnceLaw", "thing", "(LSaidOnce;II[J)I"⟩, method_5_code, 5, (some .int), [(0, 10, 13, 24), (0, 10, 17, 26)], 10, 2, 12)
theorem o_L_thing : MOK i_L_thing 4 := mok_of (pl := 15028) (by rfl) (by decide +kernel)
def i_SO_thing : MI := (⟨"SaidOnce", "thing", "(II)I"⟩, prog_1_method_7_code, 3, (some .int), [], 9, 2, 12)
theorem o_SO_thing : MOK i_SO_thing 2 := mok_of (pl := 15034) (by rfl) (by decide +kernel)
def i_SO_needThing : MI := (⟨"SaidOnce", "needThing", "(I)V"⟩, prog_1_method_51_code, 2, none, [], 8, 1, 6)
theorem o_SO_needThing : MOK i_SO_needThing 1 := mok_of (pl := 15038) (by rfl) (by decide +kernel)
def i_Sch_knowers : MI := (⟨"SaidOnce$School", "knowers", "(I)I"⟩, prog_7_method_12_code, 4, (some .int), [], 3, 0, 0)
theorem o_Sch_knowers : MOK i_Sch_knowers 1 := mok_of (pl := 15059) (by rfl) (by decide +kernel)
def i_Sta_isKnown : MI := (⟨"SaidOnce$State", "isKnown", "(II)Z"⟩, prog_11_method_4_code, 3, (some .boolean), [], 2, 0, 0)
theorem o_Sta_isKnown : MOK i_Sta_isKnown 2 := mok_of (pl := 15063) (by rfl) (by decide +kernel)
def i_Se_sources : MI := (⟨"SaidOnce$Search", "sources", "(I)I"⟩, prog_9_method_2_code, 5, (some .int), [], 4, 0, 0)
theorem o_Se_sources : MOK i_Se_sources 1 := mok_of (pl := 15067) (by rfl) (by decide +kernel)
def i_Se_isFewer : MI := (⟨"SaidOnce$Search", "isFewer", "(II)Z"⟩, prog_9_method_5_code, 2, (some .boolean), [], 3, 0, 0)
theorem o_Se_isFewer : MOK i_Se_isFewer 2 := mok_of (pl := 15071) (by rfl) (by decide +kernel)
def i_L_person : MI := (⟨"SaidOnceLaw", "person", "(LSaidOnce;II[J)I"⟩, method_6_code, 5, (some .int), [(0, 10, 13, 24), (0, 10, 17, 26)], 10, 2, 12)
theorem o_L_person : MOK i_L_person 4 := mok_of (pl := 15092) (by rfl) (by decide +kernel)
def i_SO_person : MI := (⟨"SaidOnce", "person", "(II)I"⟩, prog_1_method_8_code, 3, (some .int), [], 9, 2, 12)
theorem o_SO_person : MOK i_SO_person 2 := mok_of (pl := 15096) (by rfl) (by decide +kernel)
def i_SO_needPerson : MI := (⟨"SaidOnce", "needPerson", "(I)V"⟩, prog_1_method_53_code, 2, none, [], 8, 1, 6)
theorem o_SO_needPerson : MOK i_SO_needPerson 1 := mok_of (pl := 15100) (by rfl) (by decide +kernel)
def i_L_rule : MI := (⟨"SaidOnceLaw", "rule", "(LSaidOnce;II[J)I"⟩, method_7_code, 5, (some .int), [(0, 10, 13, 26)], 9, 1, 6)
theorem o_L_rule : MOK i_L_rule 4 := mok_of (pl := 15105) (by rfl) (by decide +kernel)
def i_SO_rule : MI := (⟨"SaidOnce", "rule", "(II)I"⟩, prog_1_method_9_code, 3, (some .int), [], 8, 1, 6)
theorem o_SO_rule : MOK i_SO_rule 2 := mok_of (pl := 15109) (by rfl) (by decide +kernel)
def i_L_apart : MI := (⟨"SaidOnceLaw", "apart", "(LSaidOnce;II[J)I"⟩, method_8_code, 5, (some .int), [(0, 10, 13, 24), (0, 10, 17, 13)], 11, 3, 18)
theorem o_L_apart : MOK i_L_apart 4 := mok_of (pl := 15113) (by rfl) (by decide +kernel)
def i_SO_apart : MI := (⟨"SaidOnce", "apart", "(II)I"⟩, prog_1_method_11_code, 3, (some .int), [], 10, 3, 18)
theorem o_SO_apart : MOK i_SO_apart 2 := mok_of (pl := 15117) (by rfl) (by decide +kernel)
def i_SO_needTwo : MI := (⟨"SaidOnce", "needTwo", "(II)V"⟩, prog_1_method_54_code, 3, none, [], 9, 3, 18)
theorem o_SO_needTwo : MOK i_SO_needTwo 2 := mok_of (pl := 15121) (by rfl) (by decide +kernel)
def i_L_hears : MI := (⟨"SaidOnceLaw", "hears", "(LSaidOnce;IIII[J)I"⟩, method_9_code, 7, (some .int), [(0, 14, 17, 24), (0, 14, 21, 13)], 11, 5, 30)
theorem o_L_hears : MOK i_L_hears 6 := mok_of (pl := 15126) (by rfl) (by decide +kernel)
def i_SO_hears : MI := (⟨"SaidOnce", "hears", "(IIII)I"⟩, prog_1_method_12_code, 5, (some .int), [], 10, 5, 30)
theorem o_SO_hears : MOK i_SO_hears 4 := mok_of (pl := 15130) (by rfl) (by decide +kernel)
def i_SO_needSaying : MI := (⟨"SaidOnce", "needSaying", "(II)V"⟩, prog_1_method_52_code, 3, none, [], 9, 2, 12)
theorem o_SO_needSaying : MOK i_SO_needSaying 2 := mok_of (pl := 15134) (by rfl) (by decide +kernel)
def i_Sch_takenNow : MI := (⟨"SaidOnce$School", "takenNow", "(IIII)I"⟩, prog_7_method_16_code, 5, (some .int), [], 5, 0, 0)
theorem o_Sch_takenNow : MOK i_Sch_takenNow 4 := mok_of (pl := 15139) (by rfl) (by decide +kernel)
def i_L_audience : MI := (⟨"SaidOnceLaw", "audience", "(LSaidOnce;IIIZ[J)I"⟩, method_10_code, 7, (some .int), [(0, 14, 17, 24)], 11, 3, 18)
theorem o_L_audience : MOK i_L_audience 6 := mok_of (pl := 15142) (by rfl) (by decide +kernel)
def i_SO_audience : MI := (⟨"SaidOnce", "audience", "(IIIZ)I"⟩, prog_1_method_13_code, 5, (some .int), [], 10, 3, 18)
theorem o_SO_audience : MOK i_SO_audience 4 := mok_of (pl := 15146) (by rfl) (by decide +kernel)
def i_Sch_takers : MI := (⟨"SaidOnce$School", "takers", "(IIII)I"⟩, prog_7_method_17_code, 7, (some .int), [], 5, 0, 0)
theorem o_Sch_takers : MOK i_Sch_takers 4 := mok_of (pl := 15150) (by rfl) (by decide +kernel)
def i_Sch_hearers : MI := (⟨"SaidOnce$School", "hearers", "(III)I"⟩, prog_7_method_18_code, 4, (some .int), [], 6, 0, 0)
theorem o_Sch_hearers : MOK i_Sch_hearers 3 := mok_of (pl := 15154) (by rfl) (by decide +kernel)
def i_L_say : MI := (⟨"SaidOnceLaw", "say", "(LSaidOnce;III[J)I"⟩, method_11_code, 6, (some .int), [(0, 12, 15, 24), (0, 12, 19, 49)], 11, 4, 24)
theorem o_L_say : MOK i_L_say 5 := mok_of (pl := 15158) (by rfl) (by decide +kernel)
def i_SO_say : MI := (⟨"SaidOnce", "say", "(III)I"⟩, prog_1_method_14_code, 4, (some .int), [], 10, 4, 24)
theorem o_SO_say : MOK i_SO_say 3 := mok_of (pl := 15163) (by rfl) (by decide +kernel)
def i_Sch_canTell : MI := (⟨"SaidOnce$School", "canTell", "(II)Z"⟩, prog_7_method_14_code, 3, (some .boolean), [], 3, 0, 0)
theorem o_Sch_canTell : MOK i_Sch_canTell 2 := mok_of (pl := 15167) (by rfl) (by decide +kernel)
def i_Sch_speak : MI := (⟨"SaidOnce$School", "speak", "(III)I"⟩, prog_7_method_19_code, 10, (some .int), [], 5, 0, 0)
theorem o_Sch_speak : MOK i_Sch_speak 3 := mok_of (pl := 15188) (by rfl) (by decide +kernel)
def i_Sta_draw : MI := (⟨"SaidOnce$State", "draw", "()I"⟩, prog_11_method_9_code, 1, (some .int), [], 2, 0, 0)
theorem o_Sta_draw : MOK i_Sta_draw 0 := mok_of (pl := 15193) (by rfl) (by decide +kernel)
def i_L_think : MI := (⟨"SaidOnceLaw", "think", "(LSaidOnce;I[J)I"⟩, method_12_code, 4, (some .int), [(0, 9, 12, 24)], 10, 1, 6)
theorem o_L_think : MOK i_L_think 3 := mok_of (pl := 15197) (by rfl) (by decide +kernel)
def i_SO_think : MI := (⟨"SaidOnce", "think", "(I)I"⟩, prog_1_method_15_code, 3, (some .int), [], 9, 1, 6)
theorem o_SO_think : MOK i_SO_think 1 := mok_of (pl := 15201) (by rfl) (by decide +kernel)
def i_L_away : MI := (⟨"SaidOnceLaw", "away", "(LSaidOnce;IZ[J)I"⟩, method_13_code, 5, (some .int), [(0, 17, 20, 24)], 10, 1, 6)
theorem o_L_away : MOK i_L_away 4 := mok_of (pl := 15204) (by rfl) (by decide +kernel)
def i_SO_away : MI := (⟨"SaidOnce", "away", "(IZ)Z"⟩, prog_1_method_16_code, 4, (some .boolean), [], 9, 1, 6)
theorem o_SO_away : MOK i_SO_away 2 := mok_of (pl := 15208) (by rfl) (by decide +kernel)
def i_L_change : MI := (⟨"SaidOnceLaw", "change", "(LSaidOnce;II[J)I"⟩, method_14_code, 5, (some .int), [(0, 10, 13, 24), (0, 10, 17, 13)], 11, 3, 18)
theorem o_L_change : MOK i_L_change 4 := mok_of (pl := 15211) (by rfl) (by decide +kernel)
def i_SO_change : MI := (⟨"SaidOnce", "change", "(II)I"⟩, prog_1_method_17_code, 3, (some .int), [], 10, 3, 18)
theorem o_SO_change : MOK i_SO_change 2 := mok_of (pl := 15215) (by rfl) (by decide +kernel)
def i_Sta_swapSeats : MI := (⟨"SaidOnce$State", "swapSeats", "(II)V"⟩, prog_11_method_7_code, 5, none, [], 3, 0, 0)
theorem o_Sta_swapSeats : MOK i_Sta_swapSeats 2 := mok_of (pl := 15219) (by rfl) (by decide +kernel)
def i_L_term : MI := (⟨"SaidOnceLaw", "term", "(LSaidOnce;I[J)I"⟩, method_15_code, 4, (some .int), [(0, 9, 12, 13)], 10, 1, 6)
theorem o_L_term : MOK i_L_term 3 := mok_of (pl := 15223) (by rfl) (by decide +kernel)
def i_SO_term : MI := (⟨"SaidOnce", "term", "(I)I"⟩, prog_1_method_19_code, 2, (some .int), [], 9, 1, 6)
theorem o_SO_term : MOK i_SO_term 1 := mok_of (pl := 15227) (by rfl) (by decide +kernel)
def i_SO_needTerm : MI := (⟨"SaidOnce", "needTerm", "(I)V"⟩, prog_1_method_55_code, 1, none, [], 8, 1, 6)
theorem o_SO_needTerm : MOK i_SO_needTerm 1 := mok_of (pl := 15230) (by rfl) (by decide +kernel)
def i_Sch_runTerm : MI := (⟨"SaidOnce$School", "runTerm", "(I)I"⟩, prog_7_method_20_code, 7, (some .int), [], 6, 0, 0)
theorem o_Sch_runTerm : MOK i_Sch_runTerm 1 := mok_of (pl := 15235) (by rfl) (by decide +kernel)
def i_Int_numberOfTrailingZeros : MI := (⟨"java/lang/Integer", "numberOfTrailingZeros", "(I)I"⟩, prog_22_method_48_code, 2, (some .int), [], 2, 0, 0)
theorem o_Int_numberOfTrailingZeros : MOK i_Int_numberOfTrailingZeros 1 := mok_of (pl := 15239) (by rfl) (by decide +kernel)
def i_L_plan : MI := (⟨"SaidOnceLaw", "plan", "(LSaidOnce;IZ[J)I"⟩, method_16_code, 5, (some .int), [(0, 10, 13, 24)], 10, 1, 6)
theorem o_L_plan : MOK i_L_plan 4 := mok_of (pl := 16004) (by rfl) (by decide +kernel)
def i_SO_plan : MI := (⟨"SaidOnce", "plan", "(IZ)I"⟩, prog_1_method_23_code, 3, (some .int), [], 9, 1, 6)
theorem o_SO_plan : MOK i_SO_plan 2 := mok_of (pl := 16008) (by rfl) (by decide +kernel)
def i_Pl_firstSaying : MI := (⟨"SaidOnce$Planner", "firstSaying", "(I)I"⟩, prog_6_method_3_code, 7, (some .int), [], 8, 0, 0)
theorem o_Pl_firstSaying : MOK i_Pl_firstSaying 1 := mok_of (pl := 16012) (by rfl) (by decide +kernel)
def i_Pl_fewestSayings : MI := (⟨"SaidOnce$Planner", "fewestSayings", "(I)I"⟩, prog_6_method_2_code, 6, (some .int), [], 7, 0, 0)
theorem o_Pl_fewestSayings : MOK i_Pl_fewestSayings 1 := mok_of (pl := 16016) (by rfl) (by decide +kernel)
def i_Pl_prepare : MI := (⟨"SaidOnce$Planner", "prepare", "(I)V"⟩, prog_6_method_4_code, 4, none, [], 6, 0, 0)
theorem o_Pl_prepare : MOK i_Pl_prepare 1 := mok_of (pl := 16020) (by rfl) (by decide +kernel)
def i_Arr_fill : MI := (⟨"java/util/Arrays", "fill", "([JJ)V"⟩, prog_34_method_101_code, 5, none, [], 2, 0, 0)
theorem o_Arr_fill : MOK i_Arr_fill 2 := mok_of (pl := 16027) (by rfl) (by decide +kernel)
def i_Pl_mark : MI := (⟨"SaidOnce$Planner", "mark", "(II)V"⟩, prog_6_method_9_code, 3, none, [], 2, 0, 0)
theorem o_Pl_mark : MOK i_Pl_mark 2 := mok_of (pl := 16031) (by rfl) (by decide +kernel)
def i_Pl_isBlank : MI := (⟨"SaidOnce$Planner", "isBlank", "(II)Z"⟩, prog_6_method_8_code, 3, (some .boolean), [], 2, 0, 0)
theorem o_Pl_isBlank : MOK i_Pl_isBlank 2 := mok_of (pl := 16036) (by rfl) (by decide +kernel)
def i_Pl_isMarked : MI := (⟨"SaidOnce$Planner", "isMarked", "(II)Z"⟩, prog_6_method_7_code, 3, (some .boolean), [], 2, 0, 0)
theorem o_Pl_isMarked : MOK i_Pl_isMarked 2 := mok_of (pl := 16040) (by rfl) (by decide +kernel)
def i_Pl_spread : MI := (⟨"SaidOnce$Planner", "spread", "(II)Z"⟩, prog_6_method_11_code, 8, (some .boolean), [], 3, 0, 0)
theorem o_Pl_spread : MOK i_Pl_spread 2 := mok_of (pl := 16044) (by rfl) (by decide +kernel)
def i_Pl_sayableBy : MI := (⟨"SaidOnce$Planner", "sayableBy", "(III)I"⟩, prog_6_method_5_code, 4, (some .int), [], 2, 0, 0)
theorem o_Pl_sayableBy : MOK i_Pl_sayableBy 3 := mok_of (pl := 16048) (by rfl) (by decide +kernel)
def i_Pl_afterwards : MI := (⟨"SaidOnce$Planner", "afterwards", "(III)I"⟩, prog_6_method_6_code, 4, (some .int), [], 2, 0, 0)
theorem o_Pl_afterwards : MOK i_Pl_afterwards 3 := mok_of (pl := 16052) (by rfl) (by decide +kernel)
def i_Pl_keepOnlyWhatLeadsThere : MI := (⟨"SaidOnce$Planner", "keepOnlyWhatLeadsThere", "(I)V"⟩, prog_6_method_12_code, 6, none, [], 4, 0, 0)
theorem o_Pl_keepOnlyWhatLeadsThere : MOK i_Pl_keepOnlyWhatLeadsThere 1 := mok_of (pl := 16056) (by rfl) (by decide +kernel)
def i_Pl_leadsOn : MI := (⟨"SaidOnce$Planner", "leadsOn", "(II)Z"⟩, prog_6_method_13_code, 7, (some .boolean), [], 3, 0, 0)
theorem o_Pl_leadsOn : MOK i_Pl_leadsOn 2 := mok_of (pl := 16060) (by rfl) (by decide +kernel)
def i_Pl_unmark : MI := (⟨"SaidOnce$Planner", "unmark", "(II)V"⟩, prog_6_method_10_code, 3, none, [], 2, 0, 0)
theorem o_Pl_unmark : MOK i_Pl_unmark 2 := mok_of (pl := 16064) (by rfl) (by decide +kernel)
def i_L_kept : MI := (⟨"SaidOnceLaw", "kept", "(LSaidOnce;II[J)I"⟩, method_17_code, 5, (some .int), [(0, 10, 13, 24)], 10, 2, 12)
theorem o_L_kept : MOK i_L_kept 4 := mok_of (pl := 16069) (by rfl) (by decide +kernel)
def i_SO_kept : MI := (⟨"SaidOnce", "kept", "(II)I"⟩, prog_1_method_24_code, 3, (some .int), [], 9, 2, 12)
theorem o_SO_kept : MOK i_SO_kept 2 := mok_of (pl := 16073) (by rfl) (by decide +kernel)
def i_Se_keptFrom : MI := (⟨"SaidOnce$Search", "keptFrom", "(II)I"⟩, prog_9_method_3_code, 8, (some .int), [], 7, 0, 0)
theorem o_Se_keptFrom : MOK i_Se_keptFrom 2 := mok_of (pl := 16077) (by rfl) (by decide +kernel)
def i_Se_hearFromEach : MI := (⟨"SaidOnce$Search", "hearFromEach", "(II)V"⟩, prog_9_method_6_code, 5, none, [], 6, 0, 0)
theorem o_Se_hearFromEach : MOK i_Se_hearFromEach 2 := mok_of (pl := 16082) (by rfl) (by decide +kernel)
def i_Se_spreadAmong : MI := (⟨"SaidOnce$Search", "spreadAmong", "(II)I"⟩, prog_9_method_8_code, 5, (some .int), [], 3, 0, 0)
theorem o_Se_spreadAmong : MOK i_Se_spreadAmong 2 := mok_of (pl := 16089) (by rfl) (by decide +kernel)
def i_Se_heardFromAll : MI := (⟨"SaidOnce$Search", "heardFromAll", "(I)I"⟩, prog_9_method_7_code, 4, (some .int), [], 2, 0, 0)
theorem o_Se_heardFromAll : MOK i_Se_heardFromAll 1 := mok_of (pl := 16093) (by rfl) (by decide +kernel)
def i_L_seats : MI := (⟨"SaidOnceLaw", "seats", "(LSaidOnce;IIIZ[J)I"⟩, method_18_code, 7, (some .int), [(0, 14, 17, 24)], 11, 3, 18)
theorem o_L_seats : MOK i_L_seats 6 := mok_of (pl := 16096) (by rfl) (by decide +kernel)
def i_SO_seats : MI := (⟨"SaidOnce", "seats", "(IIIZ)I"⟩, prog_1_method_25_code, 6, (some .int), [], 10, 3, 18)
theorem o_SO_seats : MOK i_SO_seats 4 := mok_of (pl := 16100) (by rfl) (by decide +kernel)
def i_Se_bestSwap : MI := (⟨"SaidOnce$Search", "bestSwap", "(III)I"⟩, prog_9_method_9_code, 9, (some .int), [], 8, 0, 0)
theorem o_Se_bestSwap : MOK i_Se_bestSwap 3 := mok_of (pl := 16104) (by rfl) (by decide +kernel)
def i_Se_hearersIfSwapped : MI := (⟨"SaidOnce$Search", "hearersIfSwapped", "(IIIII)I"⟩, prog_9_method_10_code, 7, (some .int), [], 7, 0, 0)
theorem o_Se_hearersIfSwapped : MOK i_Se_hearersIfSwapped 5 := mok_of (pl := 16109) (by rfl) (by decide +kernel)
def i_L_what : MI := (⟨"SaidOnceLaw", "what", "(LSaidOnce;I[J)I"⟩, method_19_code, 4, (some .int), [(0, 8, 11, 24), (0, 8, 14, 13)], 10, 2, 12)
theorem o_L_what : MOK i_L_what 3 := mok_of (pl := 16114) (by rfl) (by decide +kernel)
def i_SO_what : MI := (⟨"SaidOnce", "what", "(I)J"⟩, prog_1_method_26_code, 7, (some .long), [], 9, 2, 12)
theorem o_SO_what : MOK i_SO_what 1 := mok_of (pl := 16118) (by rfl) (by decide +kernel)
def i_Tape_byteAt : MI := (⟨"SaidOnce$Tape", "byteAt", "(I)I"⟩, prog_12_method_4_code, 2, (some .int), [], 2, 0, 0)
theorem o_Tape_byteAt : MOK i_Tape_byteAt 1 := mok_of (pl := 16123) (by rfl) (by decide +kernel)
def i_SO_comesAsTold : MI := (⟨"SaidOnce", "comesAsTold", "(III)Z"⟩, prog_1_method_58_code, 6, (some .boolean), [], 6, 0, 0)
theorem o_SO_comesAsTold : MOK i_SO_comesAsTold 3 := mok_of (pl := 16128) (by rfl) (by decide +kernel)
def i_L_alike : MI := (⟨"SaidOnceLaw", "alike", "(LSaidOnce;II[J)I"⟩, method_20_code, 5, (some .int), [(0, 10, 13, 24), (0, 10, 17, 13)], 11, 3, 18)
theorem o_L_alike : MOK i_L_alike 4 := mok_of (pl := 16132) (by rfl) (by decide +kernel)
def i_SO_alike : MI := (⟨"SaidOnce", "alike", "(II)I"⟩, prog_1_method_29_code, 3, (some .int), [], 10, 3, 18)
theorem o_SO_alike : MOK i_SO_alike 2 := mok_of (pl := 16136) (by rfl) (by decide +kernel)
def i_L_ask : MI := (⟨"SaidOnceLaw", "ask", "(LSaidOnce;II[J)I"⟩, method_21_code, 5, (some .int), [(0, 10, 13, 24), (0, 10, 17, 13)], 11, 3, 18)
theorem o_L_ask : MOK i_L_ask 4 := mok_of (pl := 16139) (by rfl) (by decide +kernel)
def i_SO_ask : MI := (⟨"SaidOnce", "ask", "(II)I"⟩, prog_1_method_30_code, 4, (some .int), [], 10, 3, 18)
theorem o_SO_ask : MOK i_SO_ask 2 := mok_of (pl := 16143) (by rfl) (by decide +kernel)
def i_L_keeps : MI := (⟨"SaidOnceLaw", "keeps", "(LSaidOnce;II[J)I"⟩, method_22_code, 5, (some .int), [(0, 17, 20, 24), (0, 17, 24, 13)], 11, 3, 18)
theorem o_L_keeps : MOK i_L_keeps 4 := mok_of (pl := 16147) (by rfl) (by decide +kernel)
def i_SO_keeps : MI := (⟨"SaidOnce", "keeps", "(II)Z"⟩, prog_1_method_32_code, 3, (some .boolean), [], 10, 3, 18)
theorem o_SO_keeps : MOK i_SO_keeps 2 := mok_of (pl := 16151) (by rfl) (by decide +kernel)
def i_SO_lead : MI := (⟨"SaidOnce", "lead", "(II)I"⟩, prog_1_method_59_code, 6, (some .int), [], 6, 0, 0)
theorem o_SO_lead : MOK i_SO_lead 2 := mok_of (pl := 16155) (by rfl) (by decide +kernel)
def i_L_margin : MI := (⟨"SaidOnceLaw", "margin", "(LSaidOnce;II[J)I"⟩, method_23_code, 5, (some .int), [(0, 10, 13, 24), (0, 10, 17, 13)], 11, 3, 18)
theorem o_L_margin : MOK i_L_margin 4 := mok_of (pl := 16158) (by rfl) (by decide +kernel)
def i_SO_margin : MI := (⟨"SaidOnce", "margin", "(II)I"⟩, prog_1_method_33_code, 3, (some .int), [], 10, 3, 18)
theorem o_SO_margin : MOK i_SO_margin 2 := mok_of (pl := 16162) (by rfl) (by decide +kernel)
def i_L_call : MI := (⟨"SaidOnceLaw", "call", "(LSaidOnce;IZ[J)I"⟩, method_24_code, 5, (some .int), [(0, 10, 13, 24)], 10, 1, 6)
theorem o_L_call : MOK i_L_call 4 := mok_of (pl := 16165) (by rfl) (by decide +kernel)
def i_SO_call : MI := (⟨"SaidOnce", "call", "(IZ)I"⟩, prog_1_method_34_code, 4, (some .int), [], 9, 1, 6)
theorem o_SO_call : MOK i_SO_call 2 := mok_of (pl := 16169) (by rfl) (by decide +kernel)
def i_Se_bestCaller : MI := (⟨"SaidOnce$Search", "bestCaller", "(I)I"⟩, prog_9_method_11_code, 6, (some .int), [], 7, 0, 0)
theorem o_Se_bestCaller : MOK i_Se_bestCaller 1 := mok_of (pl := 16173) (by rfl) (by decide +kernel)
def i_Se_worthOfCalling : MI := (⟨"SaidOnce$Search", "worthOfCalling", "(II)I"⟩, prog_9_method_12_code, 7, (some .int), [], 6, 0, 0)
theorem o_Se_worthOfCalling : MOK i_Se_worthOfCalling 2 := mok_of (pl := 16179) (by rfl) (by decide +kernel)
def i_L_trial : MI := (⟨"SaidOnceLaw", "trial", "(LSaidOnce;II[J)I"⟩, method_25_code, 5, (some .int), [(0, 10, 13, 24), (0, 10, 17, 13)], 10, 2, 12)
theorem o_L_trial : MOK i_L_trial 4 := mok_of (pl := 16185) (by rfl) (by decide +kernel)
def i_SO_trial : MI := (⟨"SaidOnce", "trial", "(II)I"⟩, prog_1_method_35_code, 3, (some .int), [], 9, 2, 12)
theorem o_SO_trial : MOK i_SO_trial 2 := mok_of (pl := 16189) (by rfl) (by decide +kernel)
def i_Sch_tryTerm : MI := (⟨"SaidOnce$School", "tryTerm", "(III)I"⟩, prog_7_method_21_code, 6, (some .int), [], 7, 0, 0)
theorem o_Sch_tryTerm : MOK i_Sch_tryTerm 3 := mok_of (pl := 16193) (by rfl) (by decide +kernel)
def i_L_span : MI := (⟨"SaidOnceLaw", "span", "(LSaidOnce;IZ[J)I"⟩, method_26_code, 5, (some .int), [(0, 10, 13, 13)], 10, 1, 6)
theorem o_L_span : MOK i_L_span 4 := mok_of (pl := 16198) (by rfl) (by decide +kernel)
def i_SO_span : MI := (⟨"SaidOnce", "span", "(IZ)I"⟩, prog_1_method_36_code, 6, (some .int), [], 9, 1, 6)
theorem o_SO_span : MOK i_SO_span 2 := mok_of (pl := 16202) (by rfl) (by decide +kernel)
def i_L_how : MI := (⟨"SaidOnceLaw", "how", "(LSaidOnce;II[J)I"⟩, method_27_code, 5, (some .int), [(0, 10, 13, 24)], 10, 2, 12)
theorem o_L_how : MOK i_L_how 4 := mok_of (pl := 16208) (by rfl) (by decide +kernel)
def i_SO_how : MI := (⟨"SaidOnce", "how", "(II)I"⟩, prog_1_method_37_code, 4, (some .int), [], 9, 2, 12)
theorem o_SO_how : MOK i_SO_how 2 := mok_of (pl := 16212) (by rfl) (by decide +kernel)
def i_Log_rowBefore : MI := (⟨"SaidOnce$Log", "rowBefore", "(III)I"⟩, prog_5_method_4_code, 5, (some .int), [], 3, 0, 0)
theorem o_Log_rowBefore : MOK i_Log_rowBefore 3 := mok_of (pl := 16216) (by rfl) (by decide +kernel)
def i_Log_learntBy : MI := (⟨"SaidOnce$Log", "learntBy", "(II)I"⟩, prog_5_method_3_code, 3, (some .int), [], 2, 0, 0)
theorem o_Log_learntBy : MOK i_Log_learntBy 2 := mok_of (pl := 16220) (by rfl) (by decide +kernel)
def i_L_chain : MI := (⟨"SaidOnceLaw", "chain", "(LSaidOnce;IIZ[J)I"⟩, method_28_code, 6, (some .int), [(0, 12, 15, 24)], 10, 2, 12)
theorem o_L_chain : MOK i_L_chain 5 := mok_of (pl := 16223) (by rfl) (by decide +kernel)
def i_SO_chain : MI := (⟨"SaidOnce", "chain", "(IIZ)I"⟩, prog_1_method_39_code, 4, (some .int), [], 9, 2, 12)
theorem o_SO_chain : MOK i_SO_chain 3 := mok_of (pl := 16227) (by rfl) (by decide +kernel)
def i_Log_chainBegin : MI := (⟨"SaidOnce$Log", "chainBegin", "(III)I"⟩, prog_5_method_7_code, 7, (some .int), [], 4, 0, 0)
theorem o_Log_chainBegin : MOK i_Log_chainBegin 3 := mok_of (pl := 16232) (by rfl) (by decide +kernel)
def i_Log_chainLength : MI := (⟨"SaidOnce$Log", "chainLength", "(III)I"⟩, prog_5_method_6_code, 6, (some .int), [], 4, 0, 0)
theorem o_Log_chainLength : MOK i_Log_chainLength 3 := mok_of (pl := 16237) (by rfl) (by decide +kernel)
def i_L_spot : MI := (⟨"SaidOnceLaw", "spot", "(LSaidOnce;IIII[J)I"⟩, method_29_code, 7, (some .int), [(0, 14, 17, 24), (0, 14, 21, 13)], 11, 5, 30)
theorem o_L_spot : MOK i_L_spot 6 := mok_of (pl := 17000) (by rfl) (by decide +kernel)
def i_SO_spot : MI := (⟨"SaidOnce", "spot", "(IIII)I"⟩, prog_1_method_40_code, 5, (some .int), [], 10, 5, 30)
theorem o_SO_spot : MOK i_SO_spot 4 := mok_of (pl := 17004) (by rfl) (by decide +kernel)
def i_Se_spotFor : MI := (⟨"SaidOnce$Search", "spotFor", "(IIII)I"⟩, prog_9_method_13_code, 10, (some .int), [], 6, 0, 0)
theorem o_Se_spotFor : MOK i_Se_spotFor 4 := mok_of (pl := 17008) (by rfl) (by decide +kernel)
def i_L_speakers : MI := (⟨"SaidOnceLaw", "speakers", "(LSaidOnce;I[J)I"⟩, method_30_code, 4, (some .int), [(0, 9, 12, 24)], 10, 1, 6)
theorem o_L_speakers : MOK i_L_speakers 3 := mok_of (pl := 17014) (by rfl) (by decide +kernel)
def i_SO_speakers : MI := (⟨"SaidOnce", "speakers", "(I)I"⟩, prog_1_method_41_code, 2, (some .int), [], 9, 1, 6)
theorem o_SO_speakers : MOK i_SO_speakers 1 := mok_of (pl := 17018) (by rfl) (by decide +kernel)
def i_Se_fewestSpeakers : MI := (⟨"SaidOnce$Search", "fewestSpeakers", "(I)I"⟩, prog_9_method_4_code, 6, (some .int), [], 7, 0, 0)
theorem o_Se_fewestSpeakers : MOK i_Se_fewestSpeakers 1 := mok_of (pl := 17022) (by rfl) (by decide +kernel)
def i_L_between : MI := (⟨"SaidOnceLaw", "between", "(LSaidOnce;II[J)I"⟩, method_31_code, 5, (some .int), [(0, 10, 13, 24), (0, 10, 17, 13)], 11, 3, 18)
theorem o_L_between : MOK i_L_between 4 := mok_of (pl := 17026) (by rfl) (by decide +kernel)
def i_SO_between : MI := (⟨"SaidOnce", "between", "(II)I"⟩, prog_1_method_42_code, 7, (some .int), [], 10, 3, 18)
theorem o_SO_between : MOK i_SO_between 2 := mok_of (pl := 17030) (by rfl) (by decide +kernel)
def i_L_echo : MI := (⟨"SaidOnceLaw", "echo", "(LSaidOnce;IIIZ[J)I"⟩, method_32_code, 7, (some .int), [(0, 14, 17, 24)], 11, 3, 18)
theorem o_L_echo : MOK i_L_echo 6 := mok_of (pl := 17033) (by rfl) (by decide +kernel)
def i_SO_echo : MI := (⟨"SaidOnce", "echo", "(IIIZ)I"⟩, prog_1_method_43_code, 10, (some .int), [], 10, 3, 18)
theorem o_SO_echo : MOK i_SO_echo 4 := mok_of (pl := 17037) (by rfl) (by decide +kernel)
def i_L_learnt : MI := (⟨"SaidOnceLaw", "learnt", "(LSaidOnce;II[J)I"⟩, method_33_code, 5, (some .int), [(0, 10, 13, 24)], 10, 1, 6)
theorem o_L_learnt : MOK i_L_learnt 4 := mok_of (pl := 17040) (by rfl) (by decide +kernel)
def i_SO_learnt : MI := (⟨"SaidOnce", "learnt", "(II)I"⟩, prog_1_method_44_code, 4, (some .int), [], 9, 1, 6)
theorem o_SO_learnt : MOK i_SO_learnt 2 := mok_of (pl := 17044) (by rfl) (by decide +kernel)
def i_SO_rowAgo : MI := (⟨"SaidOnce", "rowAgo", "(I)I"⟩, prog_1_method_57_code, 2, (some .int), [], 2, 0, 0)
theorem o_SO_rowAgo : MOK i_SO_rowAgo 1 := mok_of (pl := 17048) (by rfl) (by decide +kernel)
def i_L_log : MI := (⟨"SaidOnceLaw", "log", "(LSaidOnce;II[J)I"⟩, method_34_code, 5, (some .int), [(0, 10, 13, 26)], 9, 1, 6)
theorem o_L_log : MOK i_L_log 4 := mok_of (pl := 17052) (by rfl) (by decide +kernel)
def i_SO_log : MI := (⟨"SaidOnce", "log", "(II)I"⟩, prog_1_method_45_code, 4, (some .int), [], 8, 1, 6)
theorem o_SO_log : MOK i_SO_log 2 := mok_of (pl := 17056) (by rfl) (by decide +kernel)
def i_Mo_thrown : MI := (⟨"SaidOnceModel", "thrown", "()I"⟩, prog_14_method_1_code, 1, (some .int), [], 2, 0, 0)
theorem o_Mo_thrown : MOK i_Mo_thrown 0 := mok_of (pl := 17061) (by rfl) (by decide +kernel)
def i_Mo_image : MI := (⟨"SaidOnceModel", "image", "()V"⟩, prog_14_method_6_code, 2, none, [], 2, 0, 0)
theorem o_Mo_image : MOK i_Mo_image 0 := mok_of (pl := 17154) (by rfl) (by decide +kernel)
def i_Mo_back : MI := (⟨"SaidOnceModel", "back", "()Z"⟩, prog_14_method_7_code, 2, (some .boolean), [], 2, 0, 0)
theorem o_Mo_back : MOK i_Mo_back 0 := mok_of (pl := 17158) (by rfl) (by decide +kernel)
def i_Mo_undo : MI := (⟨"SaidOnceModel", "undo", "()Z"⟩, prog_14_method_9_code, 2, (some .boolean), [], 2, 0, 0)
theorem o_Mo_undo : MOK i_Mo_undo 0 := mok_of (pl := 17162) (by rfl) (by decide +kernel)
def i_Mo_feed : MI := (⟨"SaidOnceModel", "feed", "(IIIII)I"⟩, prog_14_method_24_code, 7, (some .int), [], 2, 0, 0)
theorem o_Mo_feed : MOK i_Mo_feed 5 := mok_of (pl := 17166) (by rfl) (by decide +kernel)
def i_Mo_end : MI := (⟨"SaidOnceModel", "end", "(I)Z"⟩, prog_14_method_25_code, 2, (some .boolean), [], 2, 0, 0)
theorem o_Mo_end : MOK i_Mo_end 1 := mok_of (pl := 17170) (by rfl) (by decide +kernel)
def i_Mo_fault : MI := (⟨"SaidOnceModel", "fault", "()I"⟩, prog_14_method_35_code, 1, (some .int), [], 2, 0, 0)
theorem o_Mo_fault : MOK i_Mo_fault 0 := mok_of (pl := 17174) (by rfl) (by decide +kernel)
def i_Mo_school : MI := (⟨"SaidOnceModel", "school", "()I"⟩, prog_14_method_53_code, 3, (some .int), [], 52, 0, 0)
theorem o_Mo_school : MOK i_Mo_school 0 := mok_of (pl := 17178) (by rfl) (by decide +kernel)
def i_Mo_readAll : MI := (⟨"SaidOnceModel", "readAll", "(Z)I"⟩, prog_14_method_52_code, 3, (some .int), [], 51, 0, 0)
theorem o_Mo_readAll : MOK i_Mo_readAll 1 := mok_of (pl := 17182) (by rfl) (by decide +kernel)
def i_Mo_uses : MI := (⟨"SaidOnceModel", "uses", "()V"⟩, prog_14_method_36_code, 1, none, [], 2, 0, 0)
theorem o_Mo_uses : MOK i_Mo_uses 0 := mok_of (pl := 17186) (by rfl) (by decide +kernel)
def i_Mo_blanks : MI := (⟨"SaidOnceModel", "blanks", "()V"⟩, prog_14_method_27_code, 1, none, [], 3, 0, 0)
theorem o_Mo_blanks : MOK i_Mo_blanks 0 := mok_of (pl := 17190) (by rfl) (by decide +kernel)
def i_Mo_isAt : MI := (⟨"SaidOnceModel", "isAt", "(II)Z"⟩, prog_14_method_26_code, 3, (some .boolean), [], 2, 0, 0)
theorem o_Mo_isAt : MOK i_Mo_isAt 2 := mok_of (pl := 17194) (by rfl) (by decide +kernel)
def i_Mo_readLine : MI := (⟨"SaidOnceModel", "readLine", "(ZI)Z"⟩, prog_14_method_51_code, 3, (some .boolean), [], 50, 0, 0)
theorem o_Mo_readLine : MOK i_Mo_readLine 2 := mok_of (pl := 17198) (by rfl) (by decide +kernel)
def i_Mo_letters : MI := (⟨"SaidOnceModel", "letters", "()V"⟩, prog_14_method_28_code, 1, none, [], 4, 0, 0)
theorem o_Mo_letters : MOK i_Mo_letters 0 := mok_of (pl := 17202) (by rfl) (by decide +kernel)
def i_Mo_readSchoolLine : MI := (⟨"SaidOnceModel", "readSchoolLine", "()Z"⟩, prog_14_method_43_code, 3, (some .boolean), [], 9, 0, 0)
theorem o_Mo_readSchoolLine : MOK i_Mo_readSchoolLine 0 := mok_of (pl := 17206) (by rfl) (by decide +kernel)
def i_Mo_isWord : MI := (⟨"SaidOnceModel", "isWord", "(Ljava/lang/String;)Z"⟩, prog_14_method_29_code, 4, (some .boolean), [], 6, 0, 0)
theorem o_Mo_isWord : MOK i_Mo_isWord 1 := mok_of (pl := 17211) (by rfl) (by decide +kernel)
def i_Mo_readThing : MI := (⟨"SaidOnceModel", "readThing", "()Z"⟩, prog_14_method_39_code, 2, (some .boolean), [], 5, 0, 0)
theorem o_Mo_readThing : MOK i_Mo_readThing 0 := mok_of (pl := 17217) (by rfl) (by decide +kernel)
def i_Mo_things : MI := (⟨"SaidOnceModel", "things", "()I"⟩, prog_14_method_10_code, 1, (some .int), [], 2, 0, 0)
theorem o_Mo_things : MOK i_Mo_things 0 := mok_of (pl := 17221) (by rfl) (by decide +kernel)
def i_Mo_number : MI := (⟨"SaidOnceModel", "number", "(II)I"⟩, prog_14_method_32_code, 4, (some .int), [], 4, 0, 0)
theorem o_Mo_number : MOK i_Mo_number 2 := mok_of (pl := 17225) (by rfl) (by decide +kernel)
def i_Mo_readPerson : MI := (⟨"SaidOnceModel", "readPerson", "()Z"⟩, prog_14_method_40_code, 7, (some .boolean), [], 8, 0, 0)
theorem o_Mo_readPerson : MOK i_Mo_readPerson 0 := mok_of (pl := 17230) (by rfl) (by decide +kernel)
def i_Mo_people : MI := (⟨"SaidOnceModel", "people", "()I"⟩, prog_14_method_11_code, 1, (some .int), [], 2, 0, 0)
theorem o_Mo_people : MOK i_Mo_people 0 := mok_of (pl := 17234) (by rfl) (by decide +kernel)
def i_Mo_sitter : MI := (⟨"SaidOnceModel", "sitter", "(II)I"⟩, prog_14_method_38_code, 5, (some .int), [], 4, 0, 0)
theorem o_Mo_sitter : MOK i_Mo_sitter 2 := mok_of (pl := 17238) (by rfl) (by decide +kernel)
def i_Mo_of : MI := (⟨"SaidOnceModel", "of", "(II)I"⟩, prog_14_method_15_code, 3, (some .int), [], 3, 0, 0)
theorem o_Mo_of : MOK i_Mo_of 2 := mok_of (pl := 18002) (by rfl) (by decide +kernel)
def i_Mo_at : MI := (⟨"SaidOnceModel", "at", "(II)I"⟩, prog_14_method_14_code, 2, (some .int), [], 2, 0, 0)
theorem o_Mo_at : MOK i_Mo_at 2 := mok_of (pl := 18005) (by rfl) (by decide +kernel)
def i_Mo_after : MI := (⟨"SaidOnceModel", "after", "(Ljava/lang/String;II)I"⟩, prog_14_method_33_code, 4, (some .int), [], 7, 0, 0)
theorem o_Mo_after : MOK i_Mo_after 3 := mok_of (pl := 18010) (by rfl) (by decide +kernel)
def i_Mo_passes : MI := (⟨"SaidOnceModel", "passes", "(Ljava/lang/String;)Z"⟩, prog_14_method_30_code, 2, (some .boolean), [], 7, 0, 0)
theorem o_Mo_passes : MOK i_Mo_passes 1 := mok_of (pl := 18016) (by rfl) (by decide +kernel)
def i_Mo_thingTold : MI := (⟨"SaidOnceModel", "thingTold", "()I"⟩, prog_14_method_37_code, 1, (some .int), [], 5, 0, 0)
theorem o_Mo_thingTold : MOK i_Mo_thingTold 0 := mok_of (pl := 18020) (by rfl) (by decide +kernel)
def i_Mo_isFigure : MI := (⟨"SaidOnceModel", "isFigure", "()Z"⟩, prog_14_method_34_code, 1, (some .boolean), [], 4, 0, 0)
theorem o_Mo_isFigure : MOK i_Mo_isFigure 0 := mok_of (pl := 18024) (by rfl) (by decide +kernel)
def i_Mo_readRule : MI := (⟨"SaidOnceModel", "readRule", "()Z"⟩, prog_14_method_41_code, 3, (some .boolean), [], 6, 0, 0)
theorem o_Mo_readRule : MOK i_Mo_readRule 0 := mok_of (pl := 18029) (by rfl) (by decide +kernel)
def i_Mo_rules : MI := (⟨"SaidOnceModel", "rules", "()I"⟩, prog_14_method_12_code, 1, (some .int), [], 2, 0, 0)
theorem o_Mo_rules : MOK i_Mo_rules 0 := mok_of (pl := 18033) (by rfl) (by decide +kernel)
def i_Mo_readSaid : MI := (⟨"SaidOnceModel", "readSaid", "()Z"⟩, prog_14_method_42_code, 3, (some .boolean), [], 6, 0, 0)
theorem o_Mo_readSaid : MOK i_Mo_readSaid 0 := mok_of (pl := 18038) (by rfl) (by decide +kernel)
def i_Mo_wordings : MI := (⟨"SaidOnceModel", "wordings", "(I)I"⟩, prog_14_method_13_code, 2, (some .int), [], 2, 0, 0)
theorem o_Mo_wordings : MOK i_Mo_wordings 1 := mok_of (pl := 18042) (by rfl) (by decide +kernel)
def i_Mo_readLawLine : MI := (⟨"SaidOnceModel", "readLawLine", "(I)Z"⟩, prog_14_method_50_code, 4, (some .boolean), [], 49, 0, 0)
theorem o_Mo_readLawLine : MOK i_Mo_readLawLine 1 := mok_of (pl := 18048) (by rfl) (by decide +kernel)
def i_Mo_readCond : MI := (⟨"SaidOnceModel", "readCond", "()Z"⟩, prog_14_method_49_code, 1, (some .boolean), [], 8, 0, 0)
theorem o_Mo_readCond : MOK i_Mo_readCond 0 := mok_of (pl := 18056) (by rfl) (by decide +kernel)
def i_Mo_readAllOf : MI := (⟨"SaidOnceModel", "readAllOf", "()Z"⟩, prog_14_method_48_code, 1, (some .boolean), [], 8, 0, 0)
theorem o_Mo_readAllOf : MOK i_Mo_readAllOf 0 := mok_of (pl := 18060) (by rfl) (by decide +kernel)
def i_Mo_readAtom : MI := (⟨"SaidOnceModel", "readAtom", "()Z"⟩, prog_14_method_47_code, 2, (some .boolean), [], 9, 0, 0)
theorem o_Mo_readAtom : MOK i_Mo_readAtom 0 := mok_of (pl := 18064) (by rfl) (by decide +kernel)
def i_Mo_sign : MI := (⟨"SaidOnceModel", "sign", "(I)Z"⟩, prog_14_method_31_code, 2, (some .boolean), [], 4, 0, 0)
theorem o_Mo_sign : MOK i_Mo_sign 1 := mok_of (pl := 18068) (by rfl) (by decide +kernel)
def i_Mo_emits : MI := (⟨"SaidOnceModel", "emits", "(II)V"⟩, prog_14_method_44_code, 3, none, [], 2, 0, 0)
theorem o_Mo_emits : MOK i_Mo_emits 2 := mok_of (pl := 18073) (by rfl) (by decide +kernel)
def i_Mo_readSum : MI := (⟨"SaidOnceModel", "readSum", "()Z"⟩, prog_14_method_46_code, 1, (some .boolean), [], 8, 0, 0)
theorem o_Mo_readSum : MOK i_Mo_readSum 0 := mok_of (pl := 18078) (by rfl) (by decide +kernel)
def i_Mo_readPart : MI := (⟨"SaidOnceModel", "readPart", "()Z"⟩, prog_14_method_45_code, 2, (some .boolean), [], 7, 0, 0)
theorem o_Mo_readPart : MOK i_Mo_readPart 0 := mok_of (pl := 18082) (by rfl) (by decide +kernel)
def i_Mo_throwsIf : MI := (⟨"SaidOnceModel", "throwsIf", "(ZI)Z"⟩, prog_14_method_2_code, 3, (some .boolean), [], 2, 0, 0)
theorem o_Mo_throwsIf : MOK i_Mo_throwsIf 2 := mok_of (pl := 18093) (by rfl) (by decide +kernel)
def i_Mo_law : MI := (⟨"SaidOnceModel", "law", "()I"⟩, prog_14_method_54_code, 3, (some .int), [], 52, 0, 0)
theorem o_Mo_law : MOK i_Mo_law 0 := mok_of (pl := 18097) (by rfl) (by decide +kernel)
def i_Mo_hears : MI := (⟨"SaidOnceModel", "hears", "(IIII)I"⟩, prog_14_method_64_code, 5, (some .int), [], 10, 0, 0)
theorem o_Mo_hears : MOK i_Mo_hears 4 := mok_of (pl := 18101) (by rfl) (by decide +kernel)
def i_Mo_noPerson : MI := (⟨"SaidOnceModel", "noPerson", "(I)Z"⟩, prog_14_method_21_code, 2, (some .boolean), [], 3, 0, 0)
theorem o_Mo_noPerson : MOK i_Mo_noPerson 1 := mok_of (pl := 18105) (by rfl) (by decide +kernel)
def i_Mo_in : MI := (⟨"SaidOnceModel", "in", "(III)Z"⟩, prog_14_method_3_code, 3, (some .boolean), [], 2, 0, 0)
theorem o_Mo_in : MOK i_Mo_in 3 := mok_of (pl := 18108) (by rfl) (by decide +kernel)
def i_Mo_noWording : MI := (⟨"SaidOnceModel", "noWording", "(II)Z"⟩, prog_14_method_20_code, 3, (some .boolean), [], 4, 0, 0)
theorem o_Mo_noWording : MOK i_Mo_noWording 2 := mok_of (pl := 18112) (by rfl) (by decide +kernel)
def i_Mo_noThing : MI := (⟨"SaidOnceModel", "noThing", "(I)Z"⟩, prog_14_method_19_code, 2, (some .boolean), [], 3, 0, 0)
theorem o_Mo_noThing : MOK i_Mo_noThing 1 := mok_of (pl := 18116) (by rfl) (by decide +kernel)
def i_Mo_sayingOf : MI := (⟨"SaidOnceModel", "sayingOf", "(II)I"⟩, prog_14_method_62_code, 2, (some .int), [], 2, 0, 0)
theorem o_Mo_sayingOf : MOK i_Mo_sayingOf 2 := mok_of (pl := 18119) (by rfl) (by decide +kernel)
def i_Mo_takes : MI := (⟨"SaidOnceModel", "takes", "(III)I"⟩, prog_14_method_61_code, 4, (some .int), [], 9, 0, 0)
theorem o_Mo_takes : MOK i_Mo_takes 3 := mok_of (pl := 18123) (by rfl) (by decide +kernel)
def i_Mo_isHere : MI := (⟨"SaidOnceModel", "isHere", "(I)Z"⟩, prog_14_method_17_code, 2, (some .boolean), [], 4, 0, 0)
theorem o_Mo_isHere : MOK i_Mo_isHere 1 := mok_of (pl := 18127) (by rfl) (by decide +kernel)
def i_Mo_isHeard : MI := (⟨"SaidOnceModel", "isHeard", "(III)Z"⟩, prog_14_method_59_code, 5, (some .boolean), [], 8, 0, 0)
theorem o_Mo_isHeard : MOK i_Mo_isHeard 3 := mok_of (pl := 18131) (by rfl) (by decide +kernel)
def i_Mo_sumOf : MI := (⟨"SaidOnceModel", "sumOf", "(IIII)I"⟩, prog_14_method_58_code, 7, (some .int), [], 7, 0, 0)
theorem o_Mo_sumOf : MOK i_Mo_sumOf 4 := mok_of (pl := 18135) (by rfl) (by decide +kernel)
def i_Mo_holdsLine : MI := (⟨"SaidOnceModel", "holdsLine", "(IIII)Z"⟩, prog_14_method_57_code, 12, (some .boolean), [], 6, 0, 0)
theorem o_Mo_holdsLine : MOK i_Mo_holdsLine 4 := mok_of (pl := 18139) (by rfl) (by decide +kernel)
def i_Mo_factOf : MI := (⟨"SaidOnceModel", "factOf", "(IIIII)I"⟩, prog_14_method_56_code, 6, (some .int), [], 5, 0, 0)
theorem o_Mo_factOf : MOK i_Mo_factOf 5 := mok_of (pl := 18143) (by rfl) (by decide +kernel)
def i_Mo_apartOf : MI := (⟨"SaidOnceModel", "apartOf", "(II)I"⟩, prog_14_method_55_code, 3, (some .int), [], 4, 0, 0)
theorem o_Mo_apartOf : MOK i_Mo_apartOf 2 := mok_of (pl := 18147) (by rfl) (by decide +kernel)
def i_Mo_knows : MI := (⟨"SaidOnceModel", "knows", "(II)Z"⟩, prog_14_method_16_code, 3, (some .boolean), [], 4, 0, 0)
theorem o_Mo_knows : MOK i_Mo_knows 2 := mok_of (pl := 18153) (by rfl) (by decide +kernel)
def i_Mo_has : MI := (⟨"SaidOnceModel", "has", "(II)Z"⟩, prog_14_method_4_code, 2, (some .boolean), [], 2, 0, 0)
theorem o_Mo_has : MOK i_Mo_has 2 := mok_of (pl := 18156) (by rfl) (by decide +kernel)
def i_Mo_takenAs : MI := (⟨"SaidOnceModel", "takenAs", "(III)I"⟩, prog_14_method_60_code, 4, (some .int), [], 8, 0, 0)
theorem o_Mo_takenAs : MOK i_Mo_takenAs 3 := mok_of (pl := 18160) (by rfl) (by decide +kernel)
def i_Mo_audience : MI := (⟨"SaidOnceModel", "audience", "(IIIZ)I"⟩, prog_14_method_65_code, 5, (some .int), [], 11, 0, 0)
theorem o_Mo_audience : MOK i_Mo_audience 4 := mok_of (pl := 18164) (by rfl) (by decide +kernel)
def i_Mo_hearers : MI := (⟨"SaidOnceModel", "hearers", "(IIZ)I"⟩, prog_14_method_63_code, 7, (some .int), [], 10, 0, 0)
theorem o_Mo_hearers : MOK i_Mo_hearers 3 := mok_of (pl := 18168) (by rfl) (by decide +kernel)
def i_Mo_thing : MI := (⟨"SaidOnceModel", "thing", "(II)I"⟩, prog_14_method_71_code, 3, (some .int), [], 6, 0, 0)
theorem o_Mo_thing : MOK i_Mo_thing 2 := mok_of (pl := 18172) (by rfl) (by decide +kernel)
def i_Mo_leftOf : MI := (⟨"SaidOnceModel", "leftOf", "(I)I"⟩, prog_14_method_66_code, 4, (some .int), [], 3, 0, 0)
theorem o_Mo_leftOf : MOK i_Mo_leftOf 1 := mok_of (pl := 18176) (by rfl) (by decide +kernel)
def i_Mo_isSaid : MI := (⟨"SaidOnceModel", "isSaid", "(II)Z"⟩, prog_14_method_22_code, 3, (some .boolean), [], 2, 0, 0)
theorem o_Mo_isSaid : MOK i_Mo_isSaid 2 := mok_of (pl := 18180) (by rfl) (by decide +kernel)
def i_Mo_knowers : MI := (⟨"SaidOnceModel", "knowers", "(I)I"⟩, prog_14_method_67_code, 4, (some .int), [], 5, 0, 0)
theorem o_Mo_knowers : MOK i_Mo_knowers 1 := mok_of (pl := 18184) (by rfl) (by decide +kernel)
def i_Mo_sourcesOf : MI := (⟨"SaidOnceModel", "sourcesOf", "(I)I"⟩, prog_14_method_70_code, 5, (some .int), [], 4, 0, 0)
theorem o_Mo_sourcesOf : MOK i_Mo_sourcesOf 1 := mok_of (pl := 18188) (by rfl) (by decide +kernel)
def i_Mo_closes : MI := (⟨"SaidOnceModel", "closes", "(I)I"⟩, prog_14_method_69_code, 5, (some .int), [], 3, 0, 0)
theorem o_Mo_closes : MOK i_Mo_closes 1 := mok_of (pl := 18193) (by rfl) (by decide +kernel)
def i_Mo_ofRule : MI := (⟨"SaidOnceModel", "ofRule", "(II)I"⟩, prog_14_method_18_code, 3, (some .int), [], 2, 0, 0)
theorem o_Mo_ofRule : MOK i_Mo_ofRule 2 := mok_of (pl := 18197) (by rfl) (by decide +kernel)
def i_Mo_person : MI := (⟨"SaidOnceModel", "person", "(II)I"⟩, prog_14_method_73_code, 3, (some .int), [], 6, 0, 0)
theorem o_Mo_person : MOK i_Mo_person 2 := mok_of (pl := 18201) (by rfl) (by decide +kernel)
def i_Mo_lostBy : MI := (⟨"SaidOnceModel", "lostBy", "(I)I"⟩, prog_14_method_72_code, 4, (some .int), [], 5, 0, 0)
theorem o_Mo_lostBy : MOK i_Mo_lostBy 1 := mok_of (pl := 18205) (by rfl) (by decide +kernel)
def i_Mo_rule : MI := (⟨"SaidOnceModel", "rule", "(II)I"⟩, prog_14_method_74_code, 3, (some .int), [], 3, 0, 0)
theorem o_Mo_rule : MOK i_Mo_rule 2 := mok_of (pl := 18209) (by rfl) (by decide +kernel)
def i_Mo_store : MI := (⟨"SaidOnceModel", "store", "()J"⟩, prog_14_method_75_code, 1, (some .long), [], 2, 0, 0)
theorem o_Mo_store : MOK i_Mo_store 0 := mok_of (pl := 18213) (by rfl) (by decide +kernel)
def i_Mo_apart : MI := (⟨"SaidOnceModel", "apart", "(II)I"⟩, prog_14_method_76_code, 3, (some .int), [], 5, 0, 0)
theorem o_Mo_apart : MOK i_Mo_apart 2 := mok_of (pl := 18217) (by rfl) (by decide +kernel)
def i_Mo_say : MI := (⟨"SaidOnceModel", "say", "(III)I"⟩, prog_14_method_82_code, 4, (some .int), [], 11, 0, 0)
theorem o_Mo_say : MOK i_Mo_say 3 := mok_of (pl := 18221) (by rfl) (by decide +kernel)
def i_Mo_canSay : MI := (⟨"SaidOnceModel", "canSay", "(III)Z"⟩, prog_14_method_81_code, 4, (some .boolean), [], 5, 0, 0)
theorem o_Mo_canSay : MOK i_Mo_canSay 3 := mok_of (pl := 18225) (by rfl) (by decide +kernel)
def i_Mo_remembers : MI := (⟨"SaidOnceModel", "remembers", "()V"⟩, prog_14_method_8_code, 2, none, [], 2, 0, 0)
theorem o_Mo_remembers : MOK i_Mo_remembers 0 := mok_of (pl := 18229) (by rfl) (by decide +kernel)
def i_Mo_says : MI := (⟨"SaidOnceModel", "says", "(II)I"⟩, prog_14_method_80_code, 5, (some .int), [], 10, 0, 0)
theorem o_Mo_says : MOK i_Mo_says 2 := mok_of (pl := 18233) (by rfl) (by decide +kernel)
def i_Mo_draw : MI := (⟨"SaidOnceModel", "draw", "(I)I"⟩, prog_14_method_23_code, 2, (some .int), [], 2, 0, 0)
theorem o_Mo_draw : MOK i_Mo_draw 1 := mok_of (pl := 18237) (by rfl) (by decide +kernel)
def i_Mo_tells : MI := (⟨"SaidOnceModel", "tells", "(IIZ)V"⟩, prog_14_method_78_code, 5, none, [], 2, 0, 0)
theorem o_Mo_tells : MOK i_Mo_tells 3 := mok_of (pl := 19002) (by rfl) (by decide +kernel)
def i_Mo_learns : MI := (⟨"SaidOnceModel", "learns", "(II)V"⟩, prog_14_method_79_code, 3, none, [], 5, 0, 0)
theorem o_Mo_learns : MOK i_Mo_learns 2 := mok_of (pl := 19007) (by rfl) (by decide +kernel)
def i_Mo_ofLog : MI := (⟨"SaidOnceModel", "ofLog", "(II)I"⟩, prog_14_method_77_code, 3, (some .int), [], 2, 0, 0)
theorem o_Mo_ofLog : MOK i_Mo_ofLog 2 := mok_of (pl := 19011) (by rfl) (by decide +kernel)
def i_Mo_think : MI := (⟨"SaidOnceModel", "think", "(I)I"⟩, prog_14_method_83_code, 3, (some .int), [], 4, 0, 0)
theorem o_Mo_think : MOK i_Mo_think 1 := mok_of (pl := 19015) (by rfl) (by decide +kernel)
def i_Mo_away : MI := (⟨"SaidOnceModel", "away", "(IZ)Z"⟩, prog_14_method_84_code, 4, (some .boolean), [], 5, 0, 0)
theorem o_Mo_away : MOK i_Mo_away 2 := mok_of (pl := 19019) (by rfl) (by decide +kernel)
def i_Mo_change : MI := (⟨"SaidOnceModel", "change", "(II)I"⟩, prog_14_method_86_code, 3, (some .int), [], 5, 0, 0)
theorem o_Mo_change : MOK i_Mo_change 2 := mok_of (pl := 19023) (by rfl) (by decide +kernel)
def i_Mo_trades : MI := (⟨"SaidOnceModel", "trades", "(II)V"⟩, prog_14_method_85_code, 5, none, [], 4, 0, 0)
theorem o_Mo_trades : MOK i_Mo_trades 2 := mok_of (pl := 19027) (by rfl) (by decide +kernel)
def i_Mo_day : MI := (⟨"SaidOnceModel", "day", "()I"⟩, prog_14_method_87_code, 3, (some .int), [], 6, 0, 0)
theorem o_Mo_day : MOK i_Mo_day 0 := mok_of (pl := 19031) (by rfl) (by decide +kernel)
def i_Mo_here : MI := (⟨"SaidOnceModel", "here", "()I"⟩, prog_14_method_68_code, 3, (some .int), [], 5, 0, 0)
theorem o_Mo_here : MOK i_Mo_here 0 := mok_of (pl := 19035) (by rfl) (by decide +kernel)
def i_Mo_term : MI := (⟨"SaidOnceModel", "term", "(I)I"⟩, prog_14_method_90_code, 2, (some .int), [], 12, 0, 0)
theorem o_Mo_term : MOK i_Mo_term 1 := mok_of (pl := 19039) (by rfl) (by decide +kernel)
def i_Mo_sayings : MI := (⟨"SaidOnceModel", "sayings", "(I)I"⟩, prog_14_method_89_code, 7, (some .int), [], 11, 0, 0)
theorem o_Mo_sayings : MOK i_Mo_sayings 1 := mok_of (pl := 19043) (by rfl) (by decide +kernel)
def i_Mo_firstLeft : MI := (⟨"SaidOnceModel", "firstLeft", "(I)I"⟩, prog_14_method_88_code, 3, (some .int), [], 3, 0, 0)
theorem o_Mo_firstLeft : MOK i_Mo_firstLeft 1 := mok_of (pl := 19047) (by rfl) (by decide +kernel)
def i_Mo_sayable : MI := (⟨"SaidOnceModel", "sayable", "()I"⟩, prog_14_method_93_code, 1, (some .int), [], 6, 0, 0)
theorem o_Mo_sayable : MOK i_Mo_sayable 0 := mok_of (pl := 19051) (by rfl) (by decide +kernel)
def i_Mo_knownHere : MI := (⟨"SaidOnceModel", "knownHere", "()I"⟩, prog_14_method_91_code, 3, (some .int), [], 5, 0, 0)
theorem o_Mo_knownHere : MOK i_Mo_knownHere 0 := mok_of (pl := 19055) (by rfl) (by decide +kernel)
def i_Mo_silentThings : MI := (⟨"SaidOnceModel", "silentThings", "()I"⟩, prog_14_method_92_code, 3, (some .int), [], 4, 0, 0)
theorem o_Mo_silentThings : MOK i_Mo_silentThings 0 := mok_of (pl := 19059) (by rfl) (by decide +kernel)
def i_Mo_dumb : MI := (⟨"SaidOnceModel", "dumb", "()I"⟩, prog_14_method_94_code, 4, (some .int), [], 5, 0, 0)
theorem o_Mo_dumb : MOK i_Mo_dumb 0 := mok_of (pl := 19063) (by rfl) (by decide +kernel)
def i_Mo_silent : MI := (⟨"SaidOnceModel", "silent", "()I"⟩, prog_14_method_95_code, 1, (some .int), [], 5, 0, 0)
theorem o_Mo_silent : MOK i_Mo_silent 0 := mok_of (pl := 19067) (by rfl) (by decide +kernel)
def i_Mo_plan : MI := (⟨"SaidOnceModel", "plan", "(IZ)I"⟩, prog_14_method_105_code, 4, (some .int), [], 13, 0, 0)
theorem o_Mo_plan : MOK i_Mo_plan 2 := mok_of (pl := 19071) (by rfl) (by decide +kernel)
def i_Mo_plans : MI := (⟨"SaidOnceModel", "plans", "(I)I"⟩, prog_14_method_103_code, 7, (some .int), [], 12, 0, 0)
theorem o_Mo_plans : MOK i_Mo_plans 1 := mok_of (pl := 19075) (by rfl) (by decide +kernel)
def i_Mo_laysRight : MI := (⟨"SaidOnceModel", "laysRight", "(I)V"⟩, prog_14_method_97_code, 4, none, [], 11, 0, 0)
theorem o_Mo_laysRight : MOK i_Mo_laysRight 1 := mok_of (pl := 19079) (by rfl) (by decide +kernel)
def i_Mo_rightAt : MI := (⟨"SaidOnceModel", "rightAt", "(II)I"⟩, prog_14_method_96_code, 2, (some .int), [], 2, 0, 0)
theorem o_Mo_rightAt : MOK i_Mo_rightAt 2 := mok_of (pl := 19082) (by rfl) (by decide +kernel)
def i_Mo_saidOf : MI := (⟨"SaidOnceModel", "saidOf", "(I)I"⟩, prog_14_method_99_code, 4, (some .int), [], 3, 0, 0)
theorem o_Mo_saidOf : MOK i_Mo_saidOf 1 := mok_of (pl := 19086) (by rfl) (by decide +kernel)
def i_Mo_planAt : MI := (⟨"SaidOnceModel", "planAt", "(II)I"⟩, prog_14_method_98_code, 2, (some .int), [], 2, 0, 0)
theorem o_Mo_planAt : MOK i_Mo_planAt 2 := mok_of (pl := 19089) (by rfl) (by decide +kernel)
def i_Mo_leastStep : MI := (⟨"SaidOnceModel", "leastStep", "(II)I"⟩, prog_14_method_102_code, 6, (some .int), [], 6, 0, 0)
theorem o_Mo_leastStep : MOK i_Mo_leastStep 2 := mok_of (pl := 19093) (by rfl) (by decide +kernel)
def i_Mo_canStep : MI := (⟨"SaidOnceModel", "canStep", "(IIII)Z"⟩, prog_14_method_101_code, 5, (some .boolean), [], 5, 0, 0)
theorem o_Mo_canStep : MOK i_Mo_canStep 4 := mok_of (pl := 19097) (by rfl) (by decide +kernel)
def i_Mo_byStep : MI := (⟨"SaidOnceModel", "byStep", "(IIII)I"⟩, prog_14_method_100_code, 5, (some .int), [], 3, 0, 0)
theorem o_Mo_byStep : MOK i_Mo_byStep 4 := mok_of (pl := 19101) (by rfl) (by decide +kernel)
def i_Mo_firstStep : MI := (⟨"SaidOnceModel", "firstStep", "(I)I"⟩, prog_14_method_104_code, 7, (some .int), [], 6, 0, 0)
theorem o_Mo_firstStep : MOK i_Mo_firstStep 1 := mok_of (pl := 19105) (by rfl) (by decide +kernel)
def i_Mo_kept : MI := (⟨"SaidOnceModel", "kept", "(II)I"⟩, prog_14_method_108_code, 6, (some .int), [], 13, 0, 0)
theorem o_Mo_kept : MOK i_Mo_kept 2 := mok_of (pl := 19109) (by rfl) (by decide +kernel)
def i_Mo_laysTeaches : MI := (⟨"SaidOnceModel", "laysTeaches", "(I)V"⟩, prog_14_method_106_code, 4, none, [], 12, 0, 0)
theorem o_Mo_laysTeaches : MOK i_Mo_laysTeaches 1 := mok_of (pl := 19113) (by rfl) (by decide +kernel)
def i_Mo_spreads : MI := (⟨"SaidOnceModel", "spreads", "(II)I"⟩, prog_14_method_107_code, 6, (some .int), [], 3, 0, 0)
theorem o_Mo_spreads : MOK i_Mo_spreads 2 := mok_of (pl := 19117) (by rfl) (by decide +kernel)
def i_Mo_seats : MI := (⟨"SaidOnceModel", "seats", "(IIIZ)I"⟩, prog_14_method_109_code, 11, (some .int), [], 11, 0, 0)
theorem o_Mo_seats : MOK i_Mo_seats 4 := mok_of (pl := 19121) (by rfl) (by decide +kernel)
def i_Mo_what : MI := (⟨"SaidOnceModel", "what", "(I)J"⟩, prog_14_method_111_code, 7, (some .long), [], 11, 0, 0)
theorem o_Mo_what : MOK i_Mo_what 1 := mok_of (pl := 19125) (by rfl) (by decide +kernel)
def i_Mo_comesSo : MI := (⟨"SaidOnceModel", "comesSo", "(II)Z"⟩, prog_14_method_110_code, 6, (some .boolean), [], 10, 0, 0)
theorem o_Mo_comesSo : MOK i_Mo_comesSo 2 := mok_of (pl := 19129) (by rfl) (by decide +kernel)
def i_Mo_exam : MI := (⟨"SaidOnceModel", "exam", "()I"⟩, prog_14_method_113_code, 3, (some .int), [], 5, 0, 0)
theorem o_Mo_exam : MOK i_Mo_exam 0 := mok_of (pl := 19133) (by rfl) (by decide +kernel)
def i_Mo_nothingSaid : MI := (⟨"SaidOnceModel", "nothingSaid", "(I)Z"⟩, prog_14_method_112_code, 2, (some .boolean), [], 4, 0, 0)
theorem o_Mo_nothingSaid : MOK i_Mo_nothingSaid 1 := mok_of (pl := 19137) (by rfl) (by decide +kernel)
def i_Mo_last : MI := (⟨"SaidOnceModel", "last", "()I"⟩, prog_14_method_118_code, 5, (some .int), [], 12, 0, 0)
theorem o_Mo_last : MOK i_Mo_last 0 := mok_of (pl := 19141) (by rfl) (by decide +kernel)
def i_Mo_keepsAll : MI := (⟨"SaidOnceModel", "keepsAll", "()V"⟩, prog_14_method_114_code, 2, none, [], 2, 0, 0)
theorem o_Mo_keepsAll : MOK i_Mo_keepsAll 0 := mok_of (pl := 19145) (by rfl) (by decide +kernel)
def i_Mo_goesThrough : MI := (⟨"SaidOnceModel", "goesThrough", "()Z"⟩, prog_14_method_117_code, 5, (some .boolean), [], 11, 0, 0)
theorem o_Mo_goesThrough : MOK i_Mo_goesThrough 0 := mok_of (pl := 19149) (by rfl) (by decide +kernel)
def i_Mo_saysAll : MI := (⟨"SaidOnceModel", "saysAll", "(II)Z"⟩, prog_14_method_116_code, 5, (some .boolean), [], 10, 0, 0)
theorem o_Mo_saysAll : MOK i_Mo_saysAll 2 := mok_of (pl := 19153) (by rfl) (by decide +kernel)
def i_Mo_bringsBack : MI := (⟨"SaidOnceModel", "bringsBack", "()V"⟩, prog_14_method_115_code, 2, none, [], 2, 0, 0)
theorem o_Mo_bringsBack : MOK i_Mo_bringsBack 0 := mok_of (pl := 19157) (by rfl) (by decide +kernel)
def i_Mo_alike : MI := (⟨"SaidOnceModel", "alike", "(II)I"⟩, prog_14_method_120_code, 3, (some .int), [], 5, 0, 0)
theorem o_Mo_alike : MOK i_Mo_alike 2 := mok_of (pl := 19161) (by rfl) (by decide +kernel)
def i_Mo_alikeOf : MI := (⟨"SaidOnceModel", "alikeOf", "(II)I"⟩, prog_14_method_119_code, 3, (some .int), [], 4, 0, 0)
theorem o_Mo_alikeOf : MOK i_Mo_alikeOf 2 := mok_of (pl := 19165) (by rfl) (by decide +kernel)
def i_Mo_ask : MI := (⟨"SaidOnceModel", "ask", "(II)I"⟩, prog_14_method_121_code, 4, (some .int), [], 4, 0, 0)
theorem o_Mo_ask : MOK i_Mo_ask 2 := mok_of (pl := 19169) (by rfl) (by decide +kernel)
def i_Mo_groups : MI := (⟨"SaidOnceModel", "groups", "(Z)I"⟩, prog_14_method_123_code, 5, (some .int), [], 5, 0, 0)
theorem o_Mo_groups : MOK i_Mo_groups 1 := mok_of (pl := 19174) (by rfl) (by decide +kernel)
def i_Mo_groupOf : MI := (⟨"SaidOnceModel", "groupOf", "(I)I"⟩, prog_14_method_122_code, 4, (some .int), [], 4, 0, 0)
theorem o_Mo_groupOf : MOK i_Mo_groupOf 1 := mok_of (pl := 19178) (by rfl) (by decide +kernel)
def i_Mo_keeps : MI := (⟨"SaidOnceModel", "keeps", "(II)Z"⟩, prog_14_method_126_code, 3, (some .boolean), [], 6, 0, 0)
theorem o_Mo_keeps : MOK i_Mo_keeps 2 := mok_of (pl := 19182) (by rfl) (by decide +kernel)
def i_Mo_marginOf : MI := (⟨"SaidOnceModel", "marginOf", "(II)I"⟩, prog_14_method_125_code, 4, (some .int), [], 5, 0, 0)
theorem o_Mo_marginOf : MOK i_Mo_marginOf 2 := mok_of (pl := 19186) (by rfl) (by decide +kernel)
def i_Mo_leftIn : MI := (⟨"SaidOnceModel", "leftIn", "(I)I"⟩, prog_14_method_124_code, 4, (some .int), [], 4, 0, 0)
theorem o_Mo_leftIn : MOK i_Mo_leftIn 1 := mok_of (pl := 19190) (by rfl) (by decide +kernel)
def i_Mo_margin : MI := (⟨"SaidOnceModel", "margin", "(II)I"⟩, prog_14_method_127_code, 3, (some .int), [], 6, 0, 0)
theorem o_Mo_margin : MOK i_Mo_margin 2 := mok_of (pl := 19194) (by rfl) (by decide +kernel)
def i_Mo_call : MI := (⟨"SaidOnceModel", "call", "(IZ)I"⟩, prog_14_method_129_code, 7, (some .int), [], 12, 0, 0)
theorem o_Mo_call : MOK i_Mo_call 2 := mok_of (pl := 19198) (by rfl) (by decide +kernel)
def i_Mo_mostBy : MI := (⟨"SaidOnceModel", "mostBy", "(II)I"⟩, prog_14_method_128_code, 5, (some .int), [], 11, 0, 0)
theorem o_Mo_mostBy : MOK i_Mo_mostBy 2 := mok_of (pl := 19202) (by rfl) (by decide +kernel)
def i_Mo_trial : MI := (⟨"SaidOnceModel", "trial", "(II)I"⟩, prog_14_method_130_code, 5, (some .int), [], 12, 0, 0)
theorem o_Mo_trial : MOK i_Mo_trial 2 := mok_of (pl := 19206) (by rfl) (by decide +kernel)
def i_Mo_span : MI := (⟨"SaidOnceModel", "span", "(IZ)I"⟩, prog_14_method_131_code, 6, (some .int), [], 12, 0, 0)
theorem o_Mo_span : MOK i_Mo_span 2 := mok_of (pl := 19210) (by rfl) (by decide +kernel)
def i_Mo_how : MI := (⟨"SaidOnceModel", "how", "(II)I"⟩, prog_14_method_133_code, 3, (some .int), [], 4, 0, 0)
theorem o_Mo_how : MOK i_Mo_how 2 := mok_of (pl := 19214) (by rfl) (by decide +kernel)
def i_Mo_rowOf : MI := (⟨"SaidOnceModel", "rowOf", "(III)I"⟩, prog_14_method_132_code, 5, (some .int), [], 3, 0, 0)
theorem o_Mo_rowOf : MOK i_Mo_rowOf 3 := mok_of (pl := 19218) (by rfl) (by decide +kernel)
def i_Mo_teacher : MI := (⟨"SaidOnceModel", "teacher", "()I"⟩, prog_14_method_135_code, 3, (some .int), [], 4, 0, 0)
theorem o_Mo_teacher : MOK i_Mo_teacher 0 := mok_of (pl := 19222) (by rfl) (by decide +kernel)
def i_Mo_taught : MI := (⟨"SaidOnceModel", "taught", "(I)I"⟩, prog_14_method_134_code, 4, (some .int), [], 3, 0, 0)
theorem o_Mo_taught : MOK i_Mo_taught 1 := mok_of (pl := 19226) (by rfl) (by decide +kernel)
def i_Mo_chain : MI := (⟨"SaidOnceModel", "chain", "(IIZ)I"⟩, prog_14_method_136_code, 7, (some .int), [], 5, 0, 0)
theorem o_Mo_chain : MOK i_Mo_chain 3 := mok_of (pl := 19230) (by rfl) (by decide +kernel)
def i_Mo_spot : MI := (⟨"SaidOnceModel", "spot", "(IIII)I"⟩, prog_14_method_138_code, 7, (some .int), [], 11, 0, 0)
theorem o_Mo_spot : MOK i_Mo_spot 4 := mok_of (pl := 19234) (by rfl) (by decide +kernel)
def i_Mo_isHeardAt : MI := (⟨"SaidOnceModel", "isHeardAt", "(IIIII)Z"⟩, prog_14_method_137_code, 9, (some .boolean), [], 10, 0, 0)
theorem o_Mo_isHeardAt : MOK i_Mo_isHeardAt 5 := mok_of (pl := 19238) (by rfl) (by decide +kernel)
def i_Mo_speakers : MI := (⟨"SaidOnceModel", "speakers", "(I)I"⟩, prog_14_method_140_code, 7, (some .int), [], 12, 0, 0)
theorem o_Mo_speakers : MOK i_Mo_speakers 1 := mok_of (pl := 20002) (by rfl) (by decide +kernel)
def i_Mo_reached : MI := (⟨"SaidOnceModel", "reached", "(II)I"⟩, prog_14_method_139_code, 5, (some .int), [], 11, 0, 0)
theorem o_Mo_reached : MOK i_Mo_reached 2 := mok_of (pl := 20006) (by rfl) (by decide +kernel)
def i_Mo_between : MI := (⟨"SaidOnceModel", "between", "(II)I"⟩, prog_14_method_141_code, 7, (some .int), [], 10, 0, 0)
theorem o_Mo_between : MOK i_Mo_between 2 := mok_of (pl := 20010) (by rfl) (by decide +kernel)
def i_Mo_echo : MI := (⟨"SaidOnceModel", "echo", "(IIIZ)I"⟩, prog_14_method_143_code, 10, (some .int), [], 11, 0, 0)
theorem o_Mo_echo : MOK i_Mo_echo 4 := mok_of (pl := 20014) (by rfl) (by decide +kernel)
def i_Mo_takenBy : MI := (⟨"SaidOnceModel", "takenBy", "(III)I"⟩, prog_14_method_142_code, 6, (some .int), [], 10, 0, 0)
theorem o_Mo_takenBy : MOK i_Mo_takenBy 3 := mok_of (pl := 20018) (by rfl) (by decide +kernel)
def i_Mo_learnt : MI := (⟨"SaidOnceModel", "learnt", "(II)I"⟩, prog_14_method_144_code, 3, (some .int), [], 4, 0, 0)
theorem o_Mo_learnt : MOK i_Mo_learnt 2 := mok_of (pl := 20022) (by rfl) (by decide +kernel)
def i_Mo_log : MI := (⟨"SaidOnceModel", "log", "(II)I"⟩, prog_14_method_145_code, 3, (some .int), [], 3, 0, 0)
theorem o_Mo_log : MOK i_Mo_log 2 := mok_of (pl := 20026) (by rfl) (by decide +kernel)
def i_Mo_seed : MI := (⟨"SaidOnceModel", "seed", "(I)I"⟩, prog_14_method_146_code, 3, (some .int), [], 2, 0, 0)
theorem o_Mo_seed : MOK i_Mo_seed 1 := mok_of (pl := 20030) (by rfl) (by decide +kernel)
def i_Mo_count : MI := (⟨"SaidOnceModel", "count", "(I)I"⟩, prog_14_method_147_code, 2, (some .int), [], 6, 0, 0)
theorem o_Mo_count : MOK i_Mo_count 1 := mok_of (pl := 20034) (by rfl) (by decide +kernel)
end
