section
-- ===== PART A: goes FIRST, ahead of the names: the tables' words, and 'selects' of the private methods out of them =====
/-- a private method of a class that the tables say can be made, by its rows of tables_1 -/
def lw_okq (q : MethodName × Nat) : Prop := (q.1.cls ≠ "java/lang/invoke/MethodHandle" ∧ q.1.cls ≠ "java/lang/invoke/VarHandle") ∧ Cond.instantiable q.1.cls q.2 ∈ tables_1 ∧ Cond.privateMethod q.1 ∈ tables_1 ∧ Cond.instanceMethod q.1 ∈ tables_1
theorem lw_p0 : lw_okq (⟨"GlobRows", "queryAt", "(I)LGlobRows$Query;"⟩, 5) := ⟨⟨by decide +kernel, by decide +kernel⟩, List.mem_of_getElem? (i := 35) (by decide +kernel), List.mem_of_getElem? (i := 324) (by decide +kernel), List.mem_of_getElem? (i := 325) (by decide +kernel)⟩
theorem lw_p1 : lw_okq (⟨"java/lang/Throwable", "fillInStackTrace", "(I)Ljava/lang/Throwable;"⟩, 6) := ⟨⟨by decide +kernel, by decide +kernel⟩, List.mem_of_getElem? (i := 446) (by decide +kernel), List.mem_of_getElem? (i := 444) (by decide +kernel), List.mem_of_getElem? (i := 445) (by decide +kernel)⟩
theorem lw_p2 : lw_okq (⟨"GlobRows$Walk", "lookInto", "(LGlobRows$Query;LGlobRows$Node;I)V"⟩, 2) := ⟨⟨by decide +kernel, by decide +kernel⟩, List.mem_of_getElem? (i := 155) (by decide +kernel), List.mem_of_getElem? (i := 608) (by decide +kernel), List.mem_of_getElem? (i := 609) (by decide +kernel)⟩
theorem lw_p3 : lw_okq (⟨"GlobRows$Walk", "passBy", "(LGlobRows$Query;LGlobRows$Node;I)V"⟩, 2) := ⟨⟨by decide +kernel, by decide +kernel⟩, List.mem_of_getElem? (i := 155) (by decide +kernel), List.mem_of_getElem? (i := 619) (by decide +kernel), List.mem_of_getElem? (i := 620) (by decide +kernel)⟩
theorem lw_p4 : lw_okq (⟨"GlobRows$Piece", "behind", "(IC)I"⟩, 3) := ⟨⟨by decide +kernel, by decide +kernel⟩, List.mem_of_getElem? (i := 656) (by decide +kernel), List.mem_of_getElem? (i := 654) (by decide +kernel), List.mem_of_getElem? (i := 655) (by decide +kernel)⟩
theorem lw_p5 : lw_okq (⟨"GlobRows$Query", "fitsOne", "(ZZI)Z"⟩, 4) := ⟨⟨by decide +kernel, by decide +kernel⟩, List.mem_of_getElem? (i := 713) (by decide +kernel), List.mem_of_getElem? (i := 711) (by decide +kernel), List.mem_of_getElem? (i := 712) (by decide +kernel)⟩
theorem lw_p6 : lw_okq (⟨"GlobRows$Pattern", "statesAt", "(I)I"⟩, 5) := ⟨⟨by decide +kernel, by decide +kernel⟩, List.mem_of_getElem? (i := 722) (by decide +kernel), List.mem_of_getElem? (i := 720) (by decide +kernel), List.mem_of_getElem? (i := 721) (by decide +kernel)⟩
theorem lw_p7 : lw_okq (⟨"GlobRows", "takePath", "()LGlobRows$Path;"⟩, 5) := ⟨⟨by decide +kernel, by decide +kernel⟩, List.mem_of_getElem? (i := 35) (by decide +kernel), List.mem_of_getElem? (i := 793) (by decide +kernel), List.mem_of_getElem? (i := 794) (by decide +kernel)⟩
theorem lw_p8 : lw_okq (⟨"GlobRows", "takeText", "()Ljava/lang/String;"⟩, 5) := ⟨⟨by decide +kernel, by decide +kernel⟩, List.mem_of_getElem? (i := 35) (by decide +kernel), List.mem_of_getElem? (i := 797) (by decide +kernel), List.mem_of_getElem? (i := 798) (by decide +kernel)⟩
theorem lw_p9 : lw_okq (⟨"GlobRows$Path", "add", "(II)Z"⟩, 4) := ⟨⟨by decide +kernel, by decide +kernel⟩, List.mem_of_getElem? (i := 806) (by decide +kernel), List.mem_of_getElem? (i := 828) (by decide +kernel), List.mem_of_getElem? (i := 829) (by decide +kernel)⟩
theorem lw_p10 : lw_okq (⟨"java/util/ArrayList", "rangeCheckForAdd", "(I)V"⟩, 3) := ⟨⟨by decide +kernel, by decide +kernel⟩, List.mem_of_getElem? (i := 89) (by decide +kernel), List.mem_of_getElem? (i := 886) (by decide +kernel), List.mem_of_getElem? (i := 887) (by decide +kernel)⟩
theorem lw_p11 : lw_okq (⟨"java/util/ArrayList", "grow", "()[Ljava/lang/Object;"⟩, 3) := ⟨⟨by decide +kernel, by decide +kernel⟩, List.mem_of_getElem? (i := 89) (by decide +kernel), List.mem_of_getElem? (i := 890) (by decide +kernel), List.mem_of_getElem? (i := 891) (by decide +kernel)⟩
theorem lw_p12 : lw_okq (⟨"java/util/ArrayList", "grow", "(I)[Ljava/lang/Object;"⟩, 3) := ⟨⟨by decide +kernel, by decide +kernel⟩, List.mem_of_getElem? (i := 89) (by decide +kernel), List.mem_of_getElem? (i := 894) (by decide +kernel), List.mem_of_getElem? (i := 895) (by decide +kernel)⟩
theorem lw_p13 : lw_okq (⟨"java/util/ArrayList", "fastRemove", "([Ljava/lang/Object;I)V"⟩, 3) := ⟨⟨by decide +kernel, by decide +kernel⟩, List.mem_of_getElem? (i := 89) (by decide +kernel), List.mem_of_getElem? (i := 973) (by decide +kernel), List.mem_of_getElem? (i := 974) (by decide +kernel)⟩
theorem lw_p14 : lw_okq (⟨"java/util/ArrayList", "add", "(Ljava/lang/Object;[Ljava/lang/Object;I)V"⟩, 3) := ⟨⟨by decide +kernel, by decide +kernel⟩, List.mem_of_getElem? (i := 89) (by decide +kernel), List.mem_of_getElem? (i := 1022) (by decide +kernel), List.mem_of_getElem? (i := 1023) (by decide +kernel)⟩
theorem lw_p15 : lw_okq (⟨"GlobRows$PatternReader", "readPiece", "()V"⟩, 4) := ⟨⟨by decide +kernel, by decide +kernel⟩, List.mem_of_getElem? (i := 1033) (by decide +kernel), List.mem_of_getElem? (i := 1083) (by decide +kernel), List.mem_of_getElem? (i := 1084) (by decide +kernel)⟩
def lw_privs_1 : List (MethodName × Nat) := [(⟨"GlobRows", "queryAt", "(I)LGlobRows$Query;"⟩, 5), (⟨"java/lang/Throwable", "fillInStackTrace", "(I)Ljava/lang/Throwable;"⟩, 6), (⟨"GlobRows$Walk", "lookInto", "(LGlobRows$Query;LGlobRows$Node;I)V"⟩, 2), (⟨"GlobRows$Walk", "passBy", "(LGlobRows$Query;LGlobRows$Node;I)V"⟩, 2), (⟨"GlobRows$Piece", "behind", "(IC)I"⟩, 3), (⟨"GlobRows$Query", "fitsOne", "(ZZI)Z"⟩, 4), (⟨"GlobRows$Pattern", "statesAt", "(I)I"⟩, 5), (⟨"GlobRows", "takePath", "()LGlobRows$Path;"⟩, 5), (⟨"GlobRows", "takeText", "()Ljava/lang/String;"⟩, 5), (⟨"GlobRows$Path", "add", "(II)Z"⟩, 4), (⟨"java/util/ArrayList", "rangeCheckForAdd", "(I)V"⟩, 3), (⟨"java/util/ArrayList", "grow", "()[Ljava/lang/Object;"⟩, 3), (⟨"java/util/ArrayList", "grow", "(I)[Ljava/lang/Object;"⟩, 3), (⟨"java/util/ArrayList", "fastRemove", "([Ljava/lang/Object;I)V"⟩, 3), (⟨"java/util/ArrayList", "add", "(Ljava/lang/Object;[Ljava/lang/Object;I)V"⟩, 3), (⟨"GlobRows$PatternReader", "readPiece", "()V"⟩, 4)]
theorem lw_r1 : ∀ q ∈ lw_privs_1, lw_okq q := List.forall_mem_cons.mpr ⟨lw_p0, List.forall_mem_cons.mpr ⟨lw_p1, List.forall_mem_cons.mpr ⟨lw_p2, List.forall_mem_cons.mpr ⟨lw_p3, List.forall_mem_cons.mpr ⟨lw_p4, List.forall_mem_cons.mpr ⟨lw_p5, List.forall_mem_cons.mpr ⟨lw_p6, List.forall_mem_cons.mpr ⟨lw_p7, List.forall_mem_cons.mpr ⟨lw_p8, List.forall_mem_cons.mpr ⟨lw_p9, List.forall_mem_cons.mpr ⟨lw_p10, List.forall_mem_cons.mpr ⟨lw_p11, List.forall_mem_cons.mpr ⟨lw_p12, List.forall_mem_cons.mpr ⟨lw_p13, List.forall_mem_cons.mpr ⟨lw_p14, List.forall_mem_cons.mpr ⟨lw_p15, fun _ h => absurd h List.not_mem_nil⟩⟩⟩⟩⟩⟩⟩⟩⟩⟩⟩⟩⟩⟩⟩⟩
theorem lw_p16 : lw_okq (⟨"GlobRows$PatternReader", "readDeepPiece", "()V"⟩, 4) := ⟨⟨by decide +kernel, by decide +kernel⟩, List.mem_of_getElem? (i := 1033) (by decide +kernel), List.mem_of_getElem? (i := 1093) (by decide +kernel), List.mem_of_getElem? (i := 1094) (by decide +kernel)⟩
theorem lw_p17 : lw_okq (⟨"GlobRows$PatternReader", "isInPiece", "()Z"⟩, 4) := ⟨⟨by decide +kernel, by decide +kernel⟩, List.mem_of_getElem? (i := 1033) (by decide +kernel), List.mem_of_getElem? (i := 1128) (by decide +kernel), List.mem_of_getElem? (i := 1129) (by decide +kernel)⟩
theorem lw_p18 : lw_okq (⟨"GlobRows$PatternReader", "readPlainPiece", "()V"⟩, 4) := ⟨⟨by decide +kernel, by decide +kernel⟩, List.mem_of_getElem? (i := 1033) (by decide +kernel), List.mem_of_getElem? (i := 1132) (by decide +kernel), List.mem_of_getElem? (i := 1133) (by decide +kernel)⟩
theorem lw_p19 : lw_okq (⟨"GlobRows$PatternReader", "readPart", "(LGlobRows$Piece;)V"⟩, 4) := ⟨⟨by decide +kernel, by decide +kernel⟩, List.mem_of_getElem? (i := 1033) (by decide +kernel), List.mem_of_getElem? (i := 1136) (by decide +kernel), List.mem_of_getElem? (i := 1137) (by decide +kernel)⟩
theorem lw_p20 : lw_okq (⟨"GlobRows$PatternReader", "readSet", "(LGlobRows$Piece;)V"⟩, 4) := ⟨⟨by decide +kernel, by decide +kernel⟩, List.mem_of_getElem? (i := 1033) (by decide +kernel), List.mem_of_getElem? (i := 1144) (by decide +kernel), List.mem_of_getElem? (i := 1145) (by decide +kernel)⟩
theorem lw_p21 : lw_okq (⟨"GlobRows$PatternReader", "passSlash", "()Z"⟩, 4) := ⟨⟨by decide +kernel, by decide +kernel⟩, List.mem_of_getElem? (i := 1033) (by decide +kernel), List.mem_of_getElem? (i := 1171) (by decide +kernel), List.mem_of_getElem? (i := 1172) (by decide +kernel)⟩
theorem lw_p22 : lw_okq (⟨"GlobRowsModel", "put", "(I)I"⟩, 39) := ⟨⟨by decide +kernel, by decide +kernel⟩, List.mem_of_getElem? (i := 1187) (by decide +kernel), List.mem_of_getElem? (i := 1324) (by decide +kernel), List.mem_of_getElem? (i := 1325) (by decide +kernel)⟩
theorem lw_p23 : lw_okq (⟨"GlobRowsModel", "takes", "()Z"⟩, 39) := ⟨⟨by decide +kernel, by decide +kernel⟩, List.mem_of_getElem? (i := 1187) (by decide +kernel), List.mem_of_getElem? (i := 1328) (by decide +kernel), List.mem_of_getElem? (i := 1329) (by decide +kernel)⟩
theorem lw_p24 : lw_okq (⟨"GlobRowsModel", "isPath", "()Z"⟩, 39) := ⟨⟨by decide +kernel, by decide +kernel⟩, List.mem_of_getElem? (i := 1187) (by decide +kernel), List.mem_of_getElem? (i := 1332) (by decide +kernel), List.mem_of_getElem? (i := 1333) (by decide +kernel)⟩
theorem lw_p25 : lw_okq (⟨"GlobRowsModel", "go", "()I"⟩, 39) := ⟨⟨by decide +kernel, by decide +kernel⟩, List.mem_of_getElem? (i := 1187) (by decide +kernel), List.mem_of_getElem? (i := 1339) (by decide +kernel), List.mem_of_getElem? (i := 1340) (by decide +kernel)⟩
theorem lw_p26 : lw_okq (⟨"GlobRowsModel", "child", "(II)I"⟩, 39) := ⟨⟨by decide +kernel, by decide +kernel⟩, List.mem_of_getElem? (i := 1187) (by decide +kernel), List.mem_of_getElem? (i := 1343) (by decide +kernel), List.mem_of_getElem? (i := 1344) (by decide +kernel)⟩
theorem lw_p27 : lw_okq (⟨"GlobRowsModel", "isNamed", "(II)Z"⟩, 39) := ⟨⟨by decide +kernel, by decide +kernel⟩, List.mem_of_getElem? (i := 1187) (by decide +kernel), List.mem_of_getElem? (i := 1347) (by decide +kernel), List.mem_of_getElem? (i := 1348) (by decide +kernel)⟩
theorem lw_p28 : lw_okq (⟨"GlobRowsModel", "many", "()I"⟩, 39) := ⟨⟨by decide +kernel, by decide +kernel⟩, List.mem_of_getElem? (i := 1187) (by decide +kernel), List.mem_of_getElem? (i := 1351) (by decide +kernel), List.mem_of_getElem? (i := 1352) (by decide +kernel)⟩
theorem lw_p29 : lw_okq (⟨"GlobRowsModel", "add", "(III)I"⟩, 39) := ⟨⟨by decide +kernel, by decide +kernel⟩, List.mem_of_getElem? (i := 1187) (by decide +kernel), List.mem_of_getElem? (i := 1355) (by decide +kernel), List.mem_of_getElem? (i := 1356) (by decide +kernel)⟩
theorem lw_p30 : lw_okq (⟨"GlobRowsModel", "touch", "(I)V"⟩, 39) := ⟨⟨by decide +kernel, by decide +kernel⟩, List.mem_of_getElem? (i := 1187) (by decide +kernel), List.mem_of_getElem? (i := 1359) (by decide +kernel), List.mem_of_getElem? (i := 1360) (by decide +kernel)⟩
theorem lw_p31 : lw_okq (⟨"GlobRowsModel", "orphans", "()I"⟩, 39) := ⟨⟨by decide +kernel, by decide +kernel⟩, List.mem_of_getElem? (i := 1187) (by decide +kernel), List.mem_of_getElem? (i := 1371) (by decide +kernel), List.mem_of_getElem? (i := 1372) (by decide +kernel)⟩
def lw_privs_2 : List (MethodName × Nat) := [(⟨"GlobRows$PatternReader", "readDeepPiece", "()V"⟩, 4), (⟨"GlobRows$PatternReader", "isInPiece", "()Z"⟩, 4), (⟨"GlobRows$PatternReader", "readPlainPiece", "()V"⟩, 4), (⟨"GlobRows$PatternReader", "readPart", "(LGlobRows$Piece;)V"⟩, 4), (⟨"GlobRows$PatternReader", "readSet", "(LGlobRows$Piece;)V"⟩, 4), (⟨"GlobRows$PatternReader", "passSlash", "()Z"⟩, 4), (⟨"GlobRowsModel", "put", "(I)I"⟩, 39), (⟨"GlobRowsModel", "takes", "()Z"⟩, 39), (⟨"GlobRowsModel", "isPath", "()Z"⟩, 39), (⟨"GlobRowsModel", "go", "()I"⟩, 39), (⟨"GlobRowsModel", "child", "(II)I"⟩, 39), (⟨"GlobRowsModel", "isNamed", "(II)Z"⟩, 39), (⟨"GlobRowsModel", "many", "()I"⟩, 39), (⟨"GlobRowsModel", "add", "(III)I"⟩, 39), (⟨"GlobRowsModel", "touch", "(I)V"⟩, 39), (⟨"GlobRowsModel", "orphans", "()I"⟩, 39)]
theorem lw_r2 : ∀ q ∈ lw_privs_2, lw_okq q := List.forall_mem_cons.mpr ⟨lw_p16, List.forall_mem_cons.mpr ⟨lw_p17, List.forall_mem_cons.mpr ⟨lw_p18, List.forall_mem_cons.mpr ⟨lw_p19, List.forall_mem_cons.mpr ⟨lw_p20, List.forall_mem_cons.mpr ⟨lw_p21, List.forall_mem_cons.mpr ⟨lw_p22, List.forall_mem_cons.mpr ⟨lw_p23, List.forall_mem_cons.mpr ⟨lw_p24, List.forall_mem_cons.mpr ⟨lw_p25, List.forall_mem_cons.mpr ⟨lw_p26, List.forall_mem_cons.mpr ⟨lw_p27, List.forall_mem_cons.mpr ⟨lw_p28, List.forall_mem_cons.mpr ⟨lw_p29, List.forall_mem_cons.mpr ⟨lw_p30, List.forall_mem_cons.mpr ⟨lw_p31, fun _ h => absurd h List.not_mem_nil⟩⟩⟩⟩⟩⟩⟩⟩⟩⟩⟩⟩⟩⟩⟩⟩
theorem lw_p32 : lw_okq (⟨"GlobRowsModel", "ill", "()I"⟩, 39) := ⟨⟨by decide +kernel, by decide +kernel⟩, List.mem_of_getElem? (i := 1187) (by decide +kernel), List.mem_of_getElem? (i := 1387) (by decide +kernel), List.mem_of_getElem? (i := 1388) (by decide +kernel)⟩
theorem lw_p33 : lw_okq (⟨"GlobRowsModel", "piece", "(IZ)I"⟩, 39) := ⟨⟨by decide +kernel, by decide +kernel⟩, List.mem_of_getElem? (i := 1187) (by decide +kernel), List.mem_of_getElem? (i := 1391) (by decide +kernel), List.mem_of_getElem? (i := 1392) (by decide +kernel)⟩
theorem lw_p34 : lw_okq (⟨"GlobRowsModel", "at", "(I)I"⟩, 39) := ⟨⟨by decide +kernel, by decide +kernel⟩, List.mem_of_getElem? (i := 1187) (by decide +kernel), List.mem_of_getElem? (i := 1395) (by decide +kernel), List.mem_of_getElem? (i := 1396) (by decide +kernel)⟩
theorem lw_p35 : lw_okq (⟨"GlobRowsModel", "part", "(I)I"⟩, 39) := ⟨⟨by decide +kernel, by decide +kernel⟩, List.mem_of_getElem? (i := 1187) (by decide +kernel), List.mem_of_getElem? (i := 1399) (by decide +kernel), List.mem_of_getElem? (i := 1400) (by decide +kernel)⟩
theorem lw_p36 : lw_okq (⟨"GlobRowsModel", "packageOf", "(I)I"⟩, 39) := ⟨⟨by decide +kernel, by decide +kernel⟩, List.mem_of_getElem? (i := 1187) (by decide +kernel), List.mem_of_getElem? (i := 1411) (by decide +kernel), List.mem_of_getElem? (i := 1412) (by decide +kernel)⟩
theorem lw_p37 : lw_okq (⟨"GlobRowsModel", "walk", "(II)V"⟩, 39) := ⟨⟨by decide +kernel, by decide +kernel⟩, List.mem_of_getElem? (i := 1187) (by decide +kernel), List.mem_of_getElem? (i := 1415) (by decide +kernel), List.mem_of_getElem? (i := 1416) (by decide +kernel)⟩
theorem lw_p38 : lw_okq (⟨"GlobRowsModel", "enter", "(II)V"⟩, 39) := ⟨⟨by decide +kernel, by decide +kernel⟩, List.mem_of_getElem? (i := 1187) (by decide +kernel), List.mem_of_getElem? (i := 1419) (by decide +kernel), List.mem_of_getElem? (i := 1420) (by decide +kernel)⟩
theorem lw_p39 : lw_okq (⟨"GlobRowsModel", "look", "(I)V"⟩, 39) := ⟨⟨by decide +kernel, by decide +kernel⟩, List.mem_of_getElem? (i := 1187) (by decide +kernel), List.mem_of_getElem? (i := 1423) (by decide +kernel), List.mem_of_getElem? (i := 1424) (by decide +kernel)⟩
theorem lw_p40 : lw_okq (⟨"GlobRowsModel", "isLooked", "(I)Z"⟩, 39) := ⟨⟨by decide +kernel, by decide +kernel⟩, List.mem_of_getElem? (i := 1187) (by decide +kernel), List.mem_of_getElem? (i := 1427) (by decide +kernel), List.mem_of_getElem? (i := 1428) (by decide +kernel)⟩
theorem lw_p41 : lw_okq (⟨"GlobRowsModel", "bitsOf", "(II)I"⟩, 39) := ⟨⟨by decide +kernel, by decide +kernel⟩, List.mem_of_getElem? (i := 1187) (by decide +kernel), List.mem_of_getElem? (i := 1431) (by decide +kernel), List.mem_of_getElem? (i := 1432) (by decide +kernel)⟩
theorem lw_p42 : lw_okq (⟨"GlobRowsModel", "closed", "(II)I"⟩, 39) := ⟨⟨by decide +kernel, by decide +kernel⟩, List.mem_of_getElem? (i := 1187) (by decide +kernel), List.mem_of_getElem? (i := 1435) (by decide +kernel), List.mem_of_getElem? (i := 1436) (by decide +kernel)⟩
theorem lw_p43 : lw_okq (⟨"GlobRowsModel", "pieces", "(I)I"⟩, 39) := ⟨⟨by decide +kernel, by decide +kernel⟩, List.mem_of_getElem? (i := 1187) (by decide +kernel), List.mem_of_getElem? (i := 1439) (by decide +kernel), List.mem_of_getElem? (i := 1440) (by decide +kernel)⟩
theorem lw_p44 : lw_okq (⟨"GlobRowsModel", "byteOf", "(II)I"⟩, 39) := ⟨⟨by decide +kernel, by decide +kernel⟩, List.mem_of_getElem? (i := 1187) (by decide +kernel), List.mem_of_getElem? (i := 1443) (by decide +kernel), List.mem_of_getElem? (i := 1444) (by decide +kernel)⟩
theorem lw_p45 : lw_okq (⟨"GlobRowsModel", "pieceEnd", "(II)I"⟩, 39) := ⟨⟨by decide +kernel, by decide +kernel⟩, List.mem_of_getElem? (i := 1187) (by decide +kernel), List.mem_of_getElem? (i := 1447) (by decide +kernel), List.mem_of_getElem? (i := 1448) (by decide +kernel)⟩
theorem lw_p46 : lw_okq (⟨"GlobRowsModel", "isStars", "(III)Z"⟩, 39) := ⟨⟨by decide +kernel, by decide +kernel⟩, List.mem_of_getElem? (i := 1187) (by decide +kernel), List.mem_of_getElem? (i := 1451) (by decide +kernel), List.mem_of_getElem? (i := 1452) (by decide +kernel)⟩
theorem lw_p47 : lw_okq (⟨"GlobRowsModel", "on", "(III)I"⟩, 39) := ⟨⟨by decide +kernel, by decide +kernel⟩, List.mem_of_getElem? (i := 1187) (by decide +kernel), List.mem_of_getElem? (i := 1455) (by decide +kernel), List.mem_of_getElem? (i := 1456) (by decide +kernel)⟩
def lw_privs_3 : List (MethodName × Nat) := [(⟨"GlobRowsModel", "ill", "()I"⟩, 39), (⟨"GlobRowsModel", "piece", "(IZ)I"⟩, 39), (⟨"GlobRowsModel", "at", "(I)I"⟩, 39), (⟨"GlobRowsModel", "part", "(I)I"⟩, 39), (⟨"GlobRowsModel", "packageOf", "(I)I"⟩, 39), (⟨"GlobRowsModel", "walk", "(II)V"⟩, 39), (⟨"GlobRowsModel", "enter", "(II)V"⟩, 39), (⟨"GlobRowsModel", "look", "(I)V"⟩, 39), (⟨"GlobRowsModel", "isLooked", "(I)Z"⟩, 39), (⟨"GlobRowsModel", "bitsOf", "(II)I"⟩, 39), (⟨"GlobRowsModel", "closed", "(II)I"⟩, 39), (⟨"GlobRowsModel", "pieces", "(I)I"⟩, 39), (⟨"GlobRowsModel", "byteOf", "(II)I"⟩, 39), (⟨"GlobRowsModel", "pieceEnd", "(II)I"⟩, 39), (⟨"GlobRowsModel", "isStars", "(III)Z"⟩, 39), (⟨"GlobRowsModel", "on", "(III)I"⟩, 39)]
theorem lw_r3 : ∀ q ∈ lw_privs_3, lw_okq q := List.forall_mem_cons.mpr ⟨lw_p32, List.forall_mem_cons.mpr ⟨lw_p33, List.forall_mem_cons.mpr ⟨lw_p34, List.forall_mem_cons.mpr ⟨lw_p35, List.forall_mem_cons.mpr ⟨lw_p36, List.forall_mem_cons.mpr ⟨lw_p37, List.forall_mem_cons.mpr ⟨lw_p38, List.forall_mem_cons.mpr ⟨lw_p39, List.forall_mem_cons.mpr ⟨lw_p40, List.forall_mem_cons.mpr ⟨lw_p41, List.forall_mem_cons.mpr ⟨lw_p42, List.forall_mem_cons.mpr ⟨lw_p43, List.forall_mem_cons.mpr ⟨lw_p44, List.forall_mem_cons.mpr ⟨lw_p45, List.forall_mem_cons.mpr ⟨lw_p46, List.forall_mem_cons.mpr ⟨lw_p47, fun _ h => absurd h List.not_mem_nil⟩⟩⟩⟩⟩⟩⟩⟩⟩⟩⟩⟩⟩⟩⟩⟩
theorem lw_p48 : lw_okq (⟨"GlobRowsModel", "fitsName", "(IIII)Z"⟩, 39) := ⟨⟨by decide +kernel, by decide +kernel⟩, List.mem_of_getElem? (i := 1187) (by decide +kernel), List.mem_of_getElem? (i := 1459) (by decide +kernel), List.mem_of_getElem? (i := 1460) (by decide +kernel)⟩
theorem lw_p49 : lw_okq (⟨"GlobRowsModel", "isOne", "(IIII)Z"⟩, 39) := ⟨⟨by decide +kernel, by decide +kernel⟩, List.mem_of_getElem? (i := 1187) (by decide +kernel), List.mem_of_getElem? (i := 1463) (by decide +kernel), List.mem_of_getElem? (i := 1464) (by decide +kernel)⟩
theorem lw_p50 : lw_okq (⟨"GlobRowsModel", "counts", "(II)Z"⟩, 39) := ⟨⟨by decide +kernel, by decide +kernel⟩, List.mem_of_getElem? (i := 1187) (by decide +kernel), List.mem_of_getElem? (i := 1467) (by decide +kernel), List.mem_of_getElem? (i := 1468) (by decide +kernel)⟩
theorem lw_p51 : lw_okq (⟨"GlobRowsModel", "following", "()I"⟩, 39) := ⟨⟨by decide +kernel, by decide +kernel⟩, List.mem_of_getElem? (i := 1187) (by decide +kernel), List.mem_of_getElem? (i := 1471) (by decide +kernel), List.mem_of_getElem? (i := 1472) (by decide +kernel)⟩
theorem lw_p52 : lw_okq (⟨"GlobRowsModel", "compare", "(II)I"⟩, 39) := ⟨⟨by decide +kernel, by decide +kernel⟩, List.mem_of_getElem? (i := 1187) (by decide +kernel), List.mem_of_getElem? (i := 1475) (by decide +kernel), List.mem_of_getElem? (i := 1476) (by decide +kernel)⟩
theorem lw_p53 : lw_okq (⟨"GlobRowsModel", "isAnswer", "(II)Z"⟩, 39) := ⟨⟨by decide +kernel, by decide +kernel⟩, List.mem_of_getElem? (i := 1187) (by decide +kernel), List.mem_of_getElem? (i := 1479) (by decide +kernel), List.mem_of_getElem? (i := 1480) (by decide +kernel)⟩
theorem lw_p54 : lw_okq (⟨"GlobRowsModel", "fits", "(II)Z"⟩, 39) := ⟨⟨by decide +kernel, by decide +kernel⟩, List.mem_of_getElem? (i := 1187) (by decide +kernel), List.mem_of_getElem? (i := 1483) (by decide +kernel), List.mem_of_getElem? (i := 1484) (by decide +kernel)⟩
theorem lw_p55 : lw_okq (⟨"GlobRowsModel", "isForFolders", "(I)Z"⟩, 39) := ⟨⟨by decide +kernel, by decide +kernel⟩, List.mem_of_getElem? (i := 1187) (by decide +kernel), List.mem_of_getElem? (i := 1487) (by decide +kernel), List.mem_of_getElem? (i := 1488) (by decide +kernel)⟩
theorem lw_p56 : lw_okq (⟨"GlobRowsModel", "tell", "(I)V"⟩, 39) := ⟨⟨by decide +kernel, by decide +kernel⟩, List.mem_of_getElem? (i := 1187) (by decide +kernel), List.mem_of_getElem? (i := 1491) (by decide +kernel), List.mem_of_getElem? (i := 1492) (by decide +kernel)⟩
theorem lw_p57 : lw_okq (⟨"GlobRowsModel", "spell", "(I)I"⟩, 39) := ⟨⟨by decide +kernel, by decide +kernel⟩, List.mem_of_getElem? (i := 1187) (by decide +kernel), List.mem_of_getElem? (i := 1495) (by decide +kernel), List.mem_of_getElem? (i := 1496) (by decide +kernel)⟩
def lw_privs_4 : List (MethodName × Nat) := [(⟨"GlobRowsModel", "fitsName", "(IIII)Z"⟩, 39), (⟨"GlobRowsModel", "isOne", "(IIII)Z"⟩, 39), (⟨"GlobRowsModel", "counts", "(II)Z"⟩, 39), (⟨"GlobRowsModel", "following", "()I"⟩, 39), (⟨"GlobRowsModel", "compare", "(II)I"⟩, 39), (⟨"GlobRowsModel", "isAnswer", "(II)Z"⟩, 39), (⟨"GlobRowsModel", "fits", "(II)Z"⟩, 39), (⟨"GlobRowsModel", "isForFolders", "(I)Z"⟩, 39), (⟨"GlobRowsModel", "tell", "(I)V"⟩, 39), (⟨"GlobRowsModel", "spell", "(I)I"⟩, 39)]
theorem lw_r4 : ∀ q ∈ lw_privs_4, lw_okq q := List.forall_mem_cons.mpr ⟨lw_p48, List.forall_mem_cons.mpr ⟨lw_p49, List.forall_mem_cons.mpr ⟨lw_p50, List.forall_mem_cons.mpr ⟨lw_p51, List.forall_mem_cons.mpr ⟨lw_p52, List.forall_mem_cons.mpr ⟨lw_p53, List.forall_mem_cons.mpr ⟨lw_p54, List.forall_mem_cons.mpr ⟨lw_p55, List.forall_mem_cons.mpr ⟨lw_p56, List.forall_mem_cons.mpr ⟨lw_p57, fun _ h => absurd h List.not_mem_nil⟩⟩⟩⟩⟩⟩⟩⟩⟩⟩
def lw_privs : List (MethodName × Nat) := lw_privs_1 ++ (lw_privs_2 ++ (lw_privs_3 ++ (lw_privs_4)))
def lw_tbl : List Cond := k2_sels lw_privs ++ tables_1
theorem lw_privs_ok : ∀ q ∈ lw_privs, lw_okq q := by
  show ∀ q ∈ lw_privs_1 ++ (lw_privs_2 ++ (lw_privs_3 ++ (lw_privs_4))), lw_okq q
  exact List.forall_mem_append.mpr ⟨lw_r1, List.forall_mem_append.mpr ⟨lw_r2, List.forall_mem_append.mpr ⟨lw_r3, lw_r4⟩⟩⟩
end
section
/-! ===== BEGIN words of one list among another's, by their places ===== -/
theorem goodIn_r {big : List Cond} (ws : List Cond) (ps : List Nat) (hp : ws = ps.filterMap (fun i => big[i]?)) (h : ws.all goodWord = true) : GoodIn big ws := by
  intro w hw
  have h1 := List.all_eq_true.mp h w hw
  rw [hp] at hw
  obtain ⟨i, -, hi⟩ := List.mem_filterMap.mp hw
  have hm : w ∈ big := by first | exact List.mem_of_getElem? hi | exact List.getElem?_mem hi
  exact ⟨hm, good_of_word h1⟩
theorem goodIn_app {big a b : List Cond} (ha : GoodIn big a) (hb : GoodIn big b) : GoodIn big (a ++ b) := fun w h => (List.mem_append.mp h).elim (ha w) (hb w)
theorem goodIn_ca {big a b : List Cond} {c : Cond} (ha : GoodIn big (c :: a)) (hb : GoodIn big b) : GoodIn big (c :: (a ++ b)) := fun w h => (List.mem_cons.mp h).elim (fun e => ha w (List.mem_cons.mpr (Or.inl e))) (fun h => (List.mem_append.mp h).elim (fun h => ha w (List.mem_cons.mpr (Or.inr h))) (hb w))
theorem goodIn_sub {big ws : List Cond} (hm : ∀ w ∈ ws, w ∈ big) (h : ws.all goodWord = true) : GoodIn big ws := fun w hw => ⟨hm w hw, good_of_word (List.all_eq_true.mp h w hw)⟩
/-! ===== END ===== -/

/-! ===== BEGIN exceptions that leave a method, and their catching by the caller (launches without stack traces) ===== -/
section VXA
/-! The laws vx_back, vx_callV, vx_callS, vx_callSW, vx_throw0, vx_throwS follow proofs of the library, with one case more: JvmDerived/Free/Laws.lean (Back.of_free), Shelf42/LK1.lean (callV, callS), Shelf/KitTraced.lean (throwNew0V, throwNewS). -/
def vx_T (XC : String → State → State → Prop) (st : State) (q : Addr) (t : State) (mc ms : Nat) (free : Addr → Prop) : Prop :=
  ∃ (E : String) (ce : Cell) (L : List Loc), XC E st t ∧ t.heap[q]? = some ce ∧ ce.vm = .none ∧ st.vm.findClass E = some ce.cls ∧ st.WarmedH t.vm ∧ st.sameButNew ({ t with vm := st.vm } : State) L mc ms ∧ ∀ z ∈ L, free z.base
def vx_Q (Qc : Array Value → State → Outcome → State → Prop) (XC : String → State → State → Prop) (mc ms : Nat) (free : Addr → Prop) : Array Value → State → Outcome → State → Prop := fun a st o t =>
  (Qc a st o t ∧ ∃ L, FrameEnd st o t L mc ms ∧ ∀ q ∈ L, free q.base) ∨ ∃ q, o = .threw q ∧ vx_T XC st q t mc ms free
def vx_Met (l : Launch) (y : MethodName) (ws : List Cond) (rm : Room) (Pc : Array Value → State → Prop) (Qc : Array Value → State → Outcome → State → Prop) (XC : String → State → State → Prop) (mc ms : Nat) (free : Addr → Prop) : Prop :=
  MetFree l y (headSpec ws rm) Pc (fun _ _ _ _ _ => True) (vx_Q Qc XC mc ms free)
def vx_Post (XC : String → State → State → Prop) (mc ms : Nat) (free : Addr → Prop) : Pt → Array Value → Addr → Pt → Prop := fun A a q B =>
  ∃ (g : JFrame) (mk : MethodId) (t : State) (L : List Loc) (E : String) (ce : Cell), B.U.heap = t.heap ∧ B.U.vm = t.vm ∧ XC E (A.U.calling g mk a) t ∧ t.heap[q]? = some ce ∧ ce.vm = .none ∧ A.U.vm.findClass E = some ce.cls ∧ B.locs = A.locs ++ L ∧ (∀ z ∈ L, free z.base) ∧ B.cells = A.cells + mc ∧ B.slots = A.slots + ms
def vx_Back (l : Launch) (R : Room) (p : Program) (e : Env) (below : List Frame) (s : State) (sargs : Array Value) (y : MethodName) (len W9 : Nat)
    (Pre : Pt → Array Value → Prop) (Post : Pt → Array Value → Option Value → Pt → Prop) (PostX : Pt → Array Value → Addr → Pt → Prop) : Prop :=
  ∀ (m : MethodId) (meth : Method) (c : Code) (A : Pt) (g : JFrame) (ig : Instr) (mk : MethodId) (a : Array Value),
    Stand p l e R s m sargs below meth c A.U A.locs A.cells A.slots → g.method = m → g.locals.size = c.maxLocals → decode c.code g.pc = .ok (ig, len) →
    2 * g.monitorRoom + (g.stack.map fun v => v.category).sum ≤ W9 → A.U.methodNamed? y = some mk → Pre A a →
    (∃ (v : Option Value) (B : Pt), Stand p l e R s m sargs below meth c B.U B.locs B.cells B.slots ∧ Post A a v B ∧
      Steps p.tables e below (doInvoke e (A.U.setTop g) [] mk a).1 (B.U.setTop { g with pc := g.pc + len, stack := v.toList ++ g.stack })) ∨
    (∃ (q : Addr) (B : Pt), Stand p l e R s m sargs below meth c B.U B.locs B.cells B.slots ∧ PostX A a q B ∧
      Steps p.tables e below (doInvoke e (A.U.setTop g) [] mk a).1 ((B.U.setTop g).pushFrame (.throwing q)))
section Payer
variable {l : Launch} {R : Room} {p : Program} {e : Env} {below : List Frame} {s : State} {sargs : Array Value} {y : MethodName} {len W9 : Nat}
theorem vx_back {ws : List Cond} {rm : Room} {Pc : Array Value → State → Prop} {Qc : Array Value → State → Outcome → State → Prop} {XC : String → State → State → Prop} {mc ms : Nat} {free : Addr → Prop} {bytes : ByteArray} {maxL : Nat} {ret : Option FieldType}
    (hM : vx_Met l y ws rm Pc Qc XC mc ms free) (hblind : FrameBlind Pc) (hrc : rm.cells = mc) (hrs : rm.slots = ms)
    (hframes : rm.frames + 1 ≤ R.frames) (hlocals : W9 + (maxL + 11) + rm.locals ≤ R.locals)
    (hws : ∀ w ∈ ws, ∀ a' U, s.WarmedH U.vm → w.before a' U = true) (hcode : Cond.code y bytes maxL ret ∈ ws) (hinit : ∀ a' U, s.WarmedH U.vm → (Cond.initialized y.cls).before a' U = true) :
    vx_Back l R p e below s sargs y len W9 (PreOf R mc ms Pc) (PostOf Qc mc ms free) (vx_Post XC mc ms free) := by
  intro m meth c A g ig mk a X hg hsize hdg hW hn hp
  have h1 : (headSpec ws rm).pre.before a A.U = true := atoms_intro fun w hw => hws w hw _ _ X.warmed
  have h2 : (Cond.code y bytes maxL ret).before a A.U = true := hws _ hcode _ _ X.warmed
  have h3 : (Cond.initialized y.cls).before a A.U = true := hinit _ _ X.warmed
  have h4 : A.cells + (headSpec ws rm).room.cells ≤ R.cells := by rw [show (headSpec ws rm).room.cells = mc from hrc]; exact hp.1
  have h5 : A.slots + (headSpec ws rm).room.slots ≤ R.slots := by rw [show (headSpec ws rm).room.slots = ms from hrs]; exact hp.2.1
  have hPc : Pc a (A.U.calling g mk a) := hblind _ _ _ _ hp.2.2
  obtain ⟨U, Ls, c0, s0⟩ := A
  dsimp only [Pt.U, Pt.locs, Pt.cells, Pt.slots] at h1 h2 h3 h4 h5 X hn hPc ⊢
  obtain ⟨methY, cY, hmY, hcY, -, hlY, -, -, -, -⟩ := Cond.code_spec hn h2
  obtain ⟨kY, hkY, -⟩ := className_of_methodNamed hn
  have hinitY : kY.init = .initialized := Cond.initialized_spec (findClass_of_methodNamed hn) hkY h3
  have h : At U g.method c below := by rw [hg]; exact X.here
  have hlocals9 : W9 + (maxL + 11) + (headSpec ws rm).room.locals ≤ R.locals := hlocals
  have happ : (headSpec ws rm).appliesLoose y e.platform (U.calling g mk a) = true :=
    Spec.appliesLoose_calling (g := g) h hdg hn hkY hinitY
      (X.room_calling (g := g) (R' := (headSpec ws rm).room) hsize hmY hcY hframes (by rw [hlY]; omega) h4 h5) h1
  obtain ⟨mid, hmid⟩ := h.above
  have hfr : (U.setTop g).frames = (.java g :: mid) ++ below := by rw [State.frames_setTop' g h.top, hmid]; rfl
  obtain ⟨o, s₂, hsteps, -, hend, hq⟩ := Steps.callFree hM p X.admits X.cas X.clock (acts := []) hfr happ hPc trivial
  have hq' : vx_Q Qc XC mc ms free a (U.calling g mk a) o s₂ := hq
  rw [State.frames_setTop' g h.top] at hend
  obtain ⟨g₀, hg0⟩ := Option.isSome_iff_exists.mp h.top
  obtain ⟨r, hr⟩ := State.topJava?_eq_some.mp hg0
  have hr' : (({ U with heap := s₂.heap, slotsUsed := s₂.slotsUsed } : State).setVm s₂.vm).frames = .java g₀ :: r := hr
  rcases hq' with ⟨hqc, L, hfe, hL⟩ | ⟨q, rfl, E, ce, L, hx, hce, hcv, hcl, hW₂, hsm, hL⟩
  · obtain ⟨⟨v, rfl⟩, hW₂, e2, q2, q3, q4, q5, q6⟩ := id hfe
    have e3 : s₂ = ({ (U.calling g mk a).setFrames s₂.frames with heap := s₂.heap, slotsUsed := s₂.slotsUsed } : State).setVm s₂.vm := by
      have : s₂ = ({ s₂ with vm := (U.calling g mk a).vm } : State).setVm s₂.vm := rfl
      rw [e2] at this
      exact this
    obtain ⟨c₂, i₂, len₂, hc₂, hd₂, hf₂⟩ := hend
    have hW' : U.WarmedH s₂.vm := hW₂
    have hcc : c₂ = c := by
      have h1 : s₂.code? g.method = U.code? g.method := by
        rw [State.code?_eq, State.code?_eq, hW'.alike.method?]
      exact Option.some.inj (hc₂.symm.trans (h1.trans h.code))
    subst hcc
    have hlen : len₂ = len := by rw [hdg] at hd₂; cases hd₂; rfl
    subst hlen
    have hs₂ : s₂ = (({ U with heap := s₂.heap, slotsUsed := s₂.slotsUsed } : State).setVm s₂.vm).setTop { g with pc := g.pc + len₂, stack := v.toList ++ g.stack } := by
      refine e3.trans ?_
      rw [hf₂, State.calling_eq h.top, State.setFrames_setFrames, State.setTop_of_frames _ hr', hr]
      rfl
    have hsame : U.sameButNew ({ U with heap := s₂.heap, slotsUsed := s₂.slotsUsed } : State) L mc ms := by
      refine ⟨?_, q2, q3, q4, q5, q6⟩
      obtain ⟨t, ht, -⟩ := State.frames_cons hr
      show ({ U with heap := s₂.heap, slotsUsed := s₂.slotsUsed } : State) = { U.setFrames U.frames with heap := s₂.heap, slotsUsed := s₂.slotsUsed }
      rw [State.setFrames_self ht]
    subst hg
    refine Or.inl ⟨v, ⟨(({ U with heap := s₂.heap, slotsUsed := s₂.slotsUsed } : State).setVm s₂.vm), Ls ++ L, c0 + mc, s0 + ms⟩,
      ⟨X.admits, X.cas, X.clock, X.frames, X.room, X.hears, X.method, X.code, (X.here.setHeapUsed s₂.heap s₂.slotsUsed).setVm hW'.alike, X.tail, State.WarmedH.trans X.warmed hW', X.limits, X.bytes, X.same.trans (hsame.setVm s.vm)⟩,
      ⟨g, mk, s₂, L, rfl, rfl, hqc, rfl, hL, rfl, rfl⟩, ?_⟩
    show Steps p.tables e below _ ((({ U with heap := s₂.heap, slotsUsed := s₂.slotsUsed } : State).setVm s₂.vm).setTop { g with pc := g.pc + len₂, stack := v.toList ++ g.stack })
    rw [← hs₂]
    exact hsteps
  · obtain ⟨e2, q2, q3, q4, q5, q6⟩ := id hsm
    have e3 : s₂ = ({ (U.calling g mk a).setFrames s₂.frames with heap := s₂.heap, slotsUsed := s₂.slotsUsed } : State).setVm s₂.vm := by
      have : s₂ = ({ s₂ with vm := (U.calling g mk a).vm } : State).setVm s₂.vm := rfl
      rw [e2] at this
      exact this
    have hf₂ : s₂.frames = .throwing q :: .java g :: U.frames.tail := hend
    have hW' : U.WarmedH s₂.vm := hW₂
    have hs₂ : s₂ = ((({ U with heap := s₂.heap, slotsUsed := s₂.slotsUsed } : State).setVm s₂.vm).setTop g).pushFrame (.throwing q) := by
      refine e3.trans ?_
      rw [hf₂, State.calling_eq h.top, State.setFrames_setFrames, State.pushFrame, State.frames_setTop _ hr', State.setTop_of_frames _ hr', State.setFrames_setFrames, hr]
      rfl
    have hsame : U.sameButNew ({ U with heap := s₂.heap, slotsUsed := s₂.slotsUsed } : State) L mc ms := by
      refine ⟨?_, q2, q3, q4, q5, q6⟩
      obtain ⟨t, ht, -⟩ := State.frames_cons hr
      show ({ U with heap := s₂.heap, slotsUsed := s₂.slotsUsed } : State) = { U.setFrames U.frames with heap := s₂.heap, slotsUsed := s₂.slotsUsed }
      rw [State.setFrames_self ht]
    subst hg
    refine Or.inr ⟨q, ⟨(({ U with heap := s₂.heap, slotsUsed := s₂.slotsUsed } : State).setVm s₂.vm), Ls ++ L, c0 + mc, s0 + ms⟩,
      ⟨X.admits, X.cas, X.clock, X.frames, X.room, X.hears, X.method, X.code, (X.here.setHeapUsed s₂.heap s₂.slotsUsed).setVm hW'.alike, X.tail, State.WarmedH.trans X.warmed hW', X.limits, X.bytes, X.same.trans (hsame.setVm s.vm)⟩,
      ⟨g, mk, s₂, L, E, ce, rfl, rfl, hx, hce, hcv, hcl, rfl, hL, rfl, rfl⟩, ?_⟩
    show Steps p.tables e below _ (((({ U with heap := s₂.heap, slotsUsed := s₂.slotsUsed } : State).setVm s₂.vm).setTop g).pushFrame (.throwing q))
    rw [← hs₂]
    exact hsteps
end Payer
section Calls
variable {p : Program} {l : Launch} {e : Env} {R : Room} {s : State} {m : MethodId} {args : Array Value} {below : List Frame} {meth : Method} {c : Code} {T : State} {locs : List Loc} {cells slots : Nat}
theorem vx_callV (X : Stand p l e R s m args below meth c T locs cells slots) (hexec : p.tables.exec = Jvm.exec) {own C : String} {index : Nat} {y : MethodName} {bytes : ByteArray} {maxL : Nat} {ret : Option FieldType}
    (hown : s.vm.findClass own = some m.cls) (hlink : (Cond.methodLink own index y).before args s = true) (hinst : (Cond.instanceMethod y).before args s = true) (hsel : (Cond.selects C y y).before args s = true)
    (hcode : (Cond.code y bytes maxL ret).before args s = true) (hy : y.cls ≠ "java/lang/invoke/MethodHandle" ∧ y.cls ≠ "java/lang/invoke/VarHandle")
    {W9 : Nat} {Pre : Pt → Array Value → Prop} {Post : Pt → Array Value → Option Value → Pt → Prop} {PostX : Pt → Array Value → Addr → Pt → Prop} (hK : vx_Back l R p e below s args y 3 W9 Pre Post PostX)
    {b : Addr} {cellB : Cell} (hcell : T.heap[b]? = some cellB) (hobj : cellB.vm.isStatics = false) (hcls : s.vm.findClass C = some cellB.cls)
    {g : JFrame} (hg : g.method = m) (hsize : g.locals.size = c.maxLocals) {argsL rest : List Value} (hlen : ∀ sig, parseMethodDescriptor y.desc = some sig → argsL.length = sig.parameters.length)
    (hstack : g.stack = argsL.reverse ++ .ref b :: rest) (hW : 2 * g.monitorRoom + (rest.map fun v => v.category).sum ≤ W9) (hdg : decode c.code g.pc = .ok (.invokevirtual index, 3))
    (hpre : ∀ vm₁, s.WarmedH vm₁ → Pre ⟨T.setVm vm₁, locs, cells, slots⟩ (Value.ref b :: argsL).toArray) :
    (∃ (v : Option Value) (vm₁ : Vm) (B : Pt), s.WarmedH vm₁ ∧ Stand p l e R s m args below meth c B.U B.locs B.cells B.slots ∧ Post ⟨T.setVm vm₁, locs, cells, slots⟩ (Value.ref b :: argsL).toArray v B ∧
      ∀ target, Steps p.tables e below (B.U.setTop { g with pc := g.pc + 3, stack := v.toList ++ rest }) target → Steps p.tables e below (T.setTop g) target) ∨
    (∃ (q : Addr) (vm₁ : Vm) (B : Pt), s.WarmedH vm₁ ∧ Stand p l e R s m args below meth c B.U B.locs B.cells B.slots ∧ PostX ⟨T.setVm vm₁, locs, cells, slots⟩ (Value.ref b :: argsL).toArray q B ∧
      Steps p.tables e below (T.setTop g) ((B.U.setTop { g with stack := rest }).pushFrame (.throwing q))) := by
  obtain ⟨mk, methM, hnamed, hmethM, hstM, habM⟩ := Cond.instanceMethod_spec hinst
  obtain ⟨methM', cM, hmethM', -, -, -, -, -, -, hsigM⟩ := Cond.code_spec hnamed hcode
  cases hmethM.symm.trans hmethM'
  obtain ⟨c2, r2, m2, q1, q2, q3, q4, kP, hkP, hkPi⟩ := Cond.selects_spec hsel
  cases hcls.symm.trans q1
  cases (State.methodFound?_of_named hnamed hy).symm.trans q2
  cases hnamed.symm.trans q3
  have hselP : selectMethod e.platform s.vm cellB.cls mk = .method mk := by rw [Launch.admits_selectMethod X.admits]; exact q4
  obtain ⟨vm₁, X₁, hstep₁⟩ := X.invokevirtual hexec hown hlink hnamed hmethM hstM hkP hkPi hy (a := b) (cell := cellB) hcell
    (fun z h => by rw [h] at hobj; cases hobj) hselP hmethM habM hkP hkPi (g := g) hg (argsL := argsL) (rest := rest) (hlen _ hsigM) hstack hdg
  rcases hK m meth c ⟨T.setVm vm₁, locs, cells, slots⟩ { g with stack := rest } (.invokevirtual index) mk (Value.ref b :: argsL).toArray X₁ hg hsize hdg hW (X₁.named hnamed) (hpre vm₁ X₁.warmed) with ⟨v, B, X', hpost, hsteps⟩ | ⟨q, B, X', hpost, hsteps⟩
  · exact Or.inl ⟨v, vm₁, B, X₁.warmed, X', hpost, fun target h => hstep₁ _ fun acts => by rw [doInvoke_state]; exact hsteps.trans h⟩
  · exact Or.inr ⟨q, vm₁, B, X₁.warmed, X', hpost, hstep₁ _ fun acts => by rw [doInvoke_state]; exact hsteps⟩
theorem vx_callS (X : Stand p l e R s m args below meth c T locs cells slots) (hexec : p.tables.exec = Jvm.exec) {own : String} {index : Nat} {y : MethodName} {bytes : ByteArray} {maxL : Nat} {ret : Option FieldType}
    (hown : s.vm.findClass own = some m.cls) (hlink : (Cond.methodLink own index y).before args s = true) (hstat : (Cond.static y).before args s = true) (hinit : (Cond.initialized y.cls).before args s = true)
    (hcode : (Cond.code y bytes maxL ret).before args s = true) (hy : y.cls ≠ "java/lang/invoke/MethodHandle" ∧ y.cls ≠ "java/lang/invoke/VarHandle")
    {W9 : Nat} {Pre : Pt → Array Value → Prop} {Post : Pt → Array Value → Option Value → Pt → Prop} {PostX : Pt → Array Value → Addr → Pt → Prop} (hK : vx_Back l R p e below s args y 3 W9 Pre Post PostX)
    {g : JFrame} (hg : g.method = m) (hsize : g.locals.size = c.maxLocals) {argsL rest : List Value} (hlen : ∀ sig, parseMethodDescriptor y.desc = some sig → argsL.length = sig.parameters.length)
    (hstack : g.stack = argsL.reverse ++ rest) (hW : 2 * g.monitorRoom + (rest.map fun v => v.category).sum ≤ W9) (hdg : decode c.code g.pc = .ok (.invokestatic index, 3))
    (hpre : ∀ vm₁, s.WarmedH vm₁ → Pre ⟨T.setVm vm₁, locs, cells, slots⟩ argsL.toArray) :
    (∃ (v : Option Value) (vm₁ : Vm) (B : Pt), s.WarmedH vm₁ ∧ Stand p l e R s m args below meth c B.U B.locs B.cells B.slots ∧ Post ⟨T.setVm vm₁, locs, cells, slots⟩ argsL.toArray v B ∧
      ∀ target, Steps p.tables e below (B.U.setTop { g with pc := g.pc + 3, stack := v.toList ++ rest }) target → Steps p.tables e below (T.setTop g) target) ∨
    (∃ (q : Addr) (vm₁ : Vm) (B : Pt), s.WarmedH vm₁ ∧ Stand p l e R s m args below meth c B.U B.locs B.cells B.slots ∧ PostX ⟨T.setVm vm₁, locs, cells, slots⟩ argsL.toArray q B ∧
      Steps p.tables e below (T.setTop g) ((B.U.setTop { g with stack := rest }).pushFrame (.throwing q))) := by
  obtain ⟨mk, hnamed⟩ := Cond.code_named hcode
  obtain ⟨methM, cM, hmethM, -, -, -, -, -, -, hsigM⟩ := Cond.code_spec hnamed hcode
  have hstatic : methM.isStatic = true := Cond.static_spec hnamed hmethM hstat
  obtain ⟨kP, hkP, -⟩ := className_of_methodNamed hnamed
  have hinitP : kP.init = .initialized := Cond.initialized_spec (findClass_of_methodNamed hnamed) hkP hinit
  obtain ⟨vm₁, X₁, hstep₁⟩ := X.invokestatic hexec hown hlink hnamed hmethM hstatic hkP hinitP hy (g := g) hg (argsL := argsL) (rest := rest) (hlen _ hsigM) hstack hdg
  rcases hK m meth c ⟨T.setVm vm₁, locs, cells, slots⟩ { g with stack := rest } (.invokestatic index) mk argsL.toArray X₁ hg hsize hdg hW (X₁.named hnamed) (hpre vm₁ X₁.warmed) with ⟨v, B, X', hpost, hsteps⟩ | ⟨q, B, X', hpost, hsteps⟩
  · exact Or.inl ⟨v, vm₁, B, X₁.warmed, X', hpost, fun target h => hstep₁ _ fun acts => by rw [doInvoke_state]; exact hsteps.trans h⟩
  · exact Or.inr ⟨q, vm₁, B, X₁.warmed, X', hpost, hstep₁ _ fun acts => by rw [doInvoke_state]; exact hsteps⟩
end Calls
theorem vx_cls {s : State} {T : State} {vm₁ : Vm} {E : String} {k : ClassId} (hW : s.WarmedH vm₁) (h : (T.setVm vm₁).vm.findClass E = some k) : s.vm.findClass E = some k := by
  have h1 : vm₁.findClass E = some k := h
  rw [hW.alike.findClass] at h1
  exact h1
def vx_W (p : Program) (l : Launch) (e : Env) (R : Room) (s : State) (m : MethodId) (args : Array Value) (below : List Frame) (meth : Method) (c : Code) (H : Heap) (locs : List Loc) (cells slots : Nat) (Q : State → Prop) (g : JFrame) (q : Addr) : Prop :=
  ∀ T : State, T.heap = H → Stand p l e R s m args below meth c T locs cells slots → ∃ t, Steps p.tables e below ((T.setTop g).pushFrame (.throwing q)) t ∧ Q t
def vx_Run (p : Program) (l : Launch) (e : Env) (R : Room) (s : State) (m : MethodId) (args : Array Value) (below : List Frame) (meth : Method) (c : Code) (H : Heap) (locs : List Loc) (cells slots mc ms : Nat) (g : JFrame) (rest : List Value) (Qa : State → Outcome → State → Prop) (XC : String → State → State → Prop) (free : Addr → Prop) : Prop :=
  ∀ T : State, T.heap = H → Stand p l e R s m args below meth c T locs cells slots →
    (∃ (v : Option Value) (st₀ t T' : State) (L : List Loc), st₀.heap = H ∧ Stand p l e R s m args below meth c T' (locs ++ L) (cells + mc) (slots + ms) ∧ (∀ q ∈ L, free q.base) ∧ T'.heap = t.heap ∧ T'.vm = t.vm ∧ Qa st₀ (.returned v) t ∧
      Goes p e below T g T' { g with pc := g.pc + 3, stack := v.toList ++ rest }) ∨
    (∃ (q : Addr) (st₀ t T' : State) (L : List Loc) (E : String) (ce : Cell), st₀.heap = H ∧ Stand p l e R s m args below meth c T' (locs ++ L) (cells + mc) (slots + ms) ∧ (∀ z ∈ L, free z.base) ∧ T'.heap = t.heap ∧ T'.vm = t.vm ∧ XC E st₀ t ∧ t.heap[q]? = some ce ∧ ce.vm = .none ∧ s.vm.findClass E = some ce.cls ∧
      Steps p.tables e below (T.setTop g) ((T'.setTop { g with stack := rest }).pushFrame (.throwing q)))
def vx_X {S : Type} (px : S → Prop) (B : String → S → State → Prop) (A : Nat → Prop) : String → State → State → Prop := fun E st t => ∃ u : S, px u ∧ B E u t ∧ va_F A st t
section Runs
variable {p : Program} {l : Launch} {e : Env} {R : Room} {s : State} {m : MethodId} {args : Array Value} {below : List Frame} {meth : Method} {c : Code} {H : Heap} {locs : List Loc} {cells slots : Nat}
variable {y : MethodName} {bytes cc : ByteArray} {maxL nL mc ms n index : Nat} {ret : Option FieldType} {ws : List Cond} {rm : Room} {Pc : Array Value → State → Prop} {Qc : Array Value → State → Outcome → State → Prop} {XC : String → State → State → Prop} {free : Addr → Prop} {Ts : List Cond} {own C : String} {b : Addr} {As rest : List Value} {g : JFrame}
theorem vx_callBack (cb : CallB R s args own index y bytes maxL ret ws rm mc ms n) (hM : vx_Met l y ws rm Pc Qc XC mc ms free) (hbl : FrameBlind Pc) : vx_Back l R p e below s args y 3 8 (PreOf R mc ms Pc) (PostOf Qc mc ms free) (vx_Post XC mc ms free) := by
  obtain ⟨hrc, hrs, hfr, hlo, hws, hcw, -, hini, -⟩ := cb
  exact vx_back (bytes := bytes) (maxL := maxL) (ret := ret) hM hbl hrc hrs hfr hlo hws hcw (fun a' U hW => word_at hW (Or.inl (by first | rfl | simp [Cond.onTables, Cond.keeps, Cond.steady])) hini)
theorem vx_runV (S : CallFix p m c cc nL s args Ts own) (hM : vx_Met l y ws rm Pc Qc XC mc ms free) (cw : CallW R s args own C index y bytes maxL ret ws rm mc ms n) (hp : PreV s H C b Pc As)
    (hg : g.method = m) (hn : As.length = n) (hsize : g.locals.size = nL) (hstack : g.stack = As.reverse ++ .ref b :: rest) (hW : 2 * g.monitorRoom + (rest.map fun v => v.category).sum ≤ 8) (hdg : decode cc g.pc = .ok (.invokevirtual index, 3)) (hf : cells + mc ≤ R.cells ∧ slots + ms ≤ R.slots) :
    vx_Run p l e R s m args below meth c H locs cells slots mc ms g rest (Qc (Value.ref b :: As).toArray) XC free := by
  have hK : vx_Back l R p e below s args y 3 8 (PreOf R mc ms Pc) (PostOf Qc mc ms free) (vx_Post XC mc ms free) := vx_callBack cw.1 hM hp.1
  obtain ⟨⟨-, -, -, -, -, -, hcode, -, hy, hlen, hl⟩, hin, hse⟩ := cw
  obtain ⟨hx, hb, hml, ho, -⟩ := S
  obtain ⟨-, ⟨cellB, hcB, hoB, hclB⟩, hPc⟩ := hp
  intro T hT X
  rcases vx_callV X hx (C := C) (bytes := bytes) (maxL := maxL) (ret := ret) ho hl hin hse hcode hy hK (by rw [hT]; exact hcB) hoB hclB hg (hsize.trans hml.symm) (argsL := As) (rest := rest) (fun sig h => hn.trans (hlen sig h)) hstack hW (by rw [hb]; exact hdg)
    (fun vm₁ hW₁ => ⟨hf.1, hf.2, hPc (T.setVm vm₁) hT hW₁⟩) with ⟨v, vm₁, ⟨U', l2, c2, s2⟩, hW₁, X', ⟨g', mk, t, L, e1, e2, hq, h1, hL, h2, h3⟩, st⟩ | ⟨q, vm₁, ⟨U', l2, c2, s2⟩, hW₁, X', ⟨g', mk, t, L, E, ce, e1, e2, hq, hce, hcv, hcl, h1, hL, h2, h3⟩, st⟩
  · dsimp only [Pt.U, Pt.locs, Pt.cells, Pt.slots] at X' e1 e2 h1 h2 h3 st
    subst h1; subst h2; subst h3
    exact Or.inl ⟨v, (T.setVm vm₁).calling g' mk (Value.ref b :: As).toArray, t, U', L, hT, X', hL, e1, e2, hq, st⟩
  · dsimp only [Pt.U, Pt.locs, Pt.cells, Pt.slots] at X' e1 e2 h1 h2 h3 st hcl
    subst h1; subst h2; subst h3
    exact Or.inr ⟨q, (T.setVm vm₁).calling g' mk (Value.ref b :: As).toArray, t, U', L, E, ce, hT, X', hL, e1, e2, hq, hce, hcv, vx_cls hW₁ hcl, st⟩
theorem vx_runS (S : CallFix p m c cc nL s args Ts own) (hM : vx_Met l y ws rm Pc Qc XC mc ms free) (cw : CallB R s args own index y bytes maxL ret ws rm mc ms n ∧ (Cond.static y).before args s = true) (hp : PreS s H Pc As)
    (hg : g.method = m) (hn : As.length = n) (hsize : g.locals.size = nL) (hstack : g.stack = As.reverse ++ rest) (hW : 2 * g.monitorRoom + (rest.map fun v => v.category).sum ≤ 8) (hdg : decode cc g.pc = .ok (.invokestatic index, 3)) (hf : cells + mc ≤ R.cells ∧ slots + ms ≤ R.slots) :
    vx_Run p l e R s m args below meth c H locs cells slots mc ms g rest (Qc As.toArray) XC free := by
  have hK : vx_Back l R p e below s args y 3 8 (PreOf R mc ms Pc) (PostOf Qc mc ms free) (vx_Post XC mc ms free) := vx_callBack cw.1 hM hp.1
  obtain ⟨⟨-, -, -, -, -, -, hcode, hini, hy, hlen, hl⟩, hstt⟩ := cw
  obtain ⟨hx, hb, hml, ho, -⟩ := S
  intro T hT X
  rcases vx_callS X hx (bytes := bytes) (maxL := maxL) (ret := ret) ho hl hstt hini hcode hy hK hg (hsize.trans hml.symm) (argsL := As) (rest := rest) (fun sig h => hn.trans (hlen sig h)) hstack hW (by rw [hb]; exact hdg)
    (fun vm₁ hW₁ => ⟨hf.1, hf.2, hp.2 (T.setVm vm₁) hT hW₁⟩) with ⟨v, vm₁, ⟨U', l2, c2, s2⟩, hW₁, X', ⟨g', mk, t, L, e1, e2, hq, h1, hL, h2, h3⟩, st⟩ | ⟨q, vm₁, ⟨U', l2, c2, s2⟩, hW₁, X', ⟨g', mk, t, L, E, ce, e1, e2, hq, hce, hcv, hcl, h1, hL, h2, h3⟩, st⟩
  · dsimp only [Pt.U, Pt.locs, Pt.cells, Pt.slots] at X' e1 e2 h1 h2 h3 st
    subst h1; subst h2; subst h3
    exact Or.inl ⟨v, (T.setVm vm₁).calling g' mk As.toArray, t, U', L, hT, X', hL, e1, e2, hq, st⟩
  · dsimp only [Pt.U, Pt.locs, Pt.cells, Pt.slots] at X' e1 e2 h1 h2 h3 st hcl
    subst h1; subst h2; subst h3
    exact Or.inr ⟨q, (T.setVm vm₁).calling g' mk As.toArray, t, U', L, E, ce, hT, X', hL, e1, e2, hq, hce, hcv, vx_cls hW₁ hcl, st⟩
end Runs
section Rows
variable {p : Program} {l : Launch} {e : Env} {R : Room} {s : State} {m : MethodId} {args : Array Value} {below : List Frame} {meth : Method} {c : Code} {H : Heap} {locs : List Loc} {cells slots : Nat} {Q : State → Prop}
variable {mc ms : Nat} {free : Addr → Prop} {A0 A1 : Nat → Prop} {H0 : Heap} {a : Array Value} {pc : Nat} {ls : Array Slot} {st0 rest : List Value}
theorem vx_keep {st₀ t T' : State} {L : List Loc} (h0 : st₀.heap = H) (e1 : T'.heap = t.heap) (hS : va_S A0 H0 H locs) (hA : ∀ q, q < H.size → A1 q → A0 q) (hf : ∀ q, free q → A0 q) (hL : ∀ q ∈ L, free q.base) (hF : va_F A1 st₀ t) :
    H.size ≤ T'.heap.size ∧ (∀ q : Nat, q < H.size → ¬ A1 q → T'.heap[q]? = H[q]?) ∧ va_S A0 H0 T'.heap (locs ++ L) := by
  obtain ⟨hz, hk⟩ := hF
  rw [h0] at hz hk
  exact ⟨by rw [e1]; exact hz, fun q h1 h2 => by rw [e1]; exact hk q h1 h2,
    ⟨Nat.le_trans hS.1 (by rw [e1]; exact hz), fun q h1 h2 => by rw [e1, hk q (Nat.lt_of_lt_of_le h1 hS.1) (fun z => h2 (hA q (Nat.lt_of_lt_of_le h1 hS.1) z))]; exact hS.2.1 q h1 h2, fun q hq => by
      rcases List.mem_append.mp hq with h | h
      · exact hS.2.2 q h
      · exact hf _ (hL q h)⟩⟩
theorem vx_calli {S SX : Type} {post : Int32 → S → Prop} {px : SX → Prop} {B : S → State → Prop} {BX : String → SX → State → Prop} {AX : Nat → Prop} (hr : vx_Run p l e R s m args below meth c H locs cells slots mc ms (F0 m pc ls st0) rest (va_Qi post B A1 a) (vx_X px BX AX) free) (hS : va_S A0 H0 H locs) (hA : ∀ q, q < H.size → A1 q → A0 q) (hf : ∀ q, free q → A0 q) (hAX : ∀ q, q < H.size → AX q → A0 q)
    (kx : ∀ (E : String) (ce : Cell) (q9 : Addr) (u : SX) (t : State) (H1 : Heap) (locs1 : List Loc), t.heap = H1 → s.vm.Alike t.vm → px u → BX E u t → H.size ≤ H1.size → (∀ q : Nat, q < H.size → ¬ AX q → H1[q]? = H[q]?) → va_S A0 H0 H1 locs1 → H1[q9]? = some ce → ce.vm = .none → s.vm.findClass E = some ce.cls → vx_W p l e R s m args below meth c H1 locs1 (cells + mc) (slots + ms) Q (F0 m pc ls rest) q9)
    (kk : ∀ (r : Int32) (u : S) (t : State) (H1 : Heap) (locs1 : List Loc), t.heap = H1 → s.vm.Alike t.vm → post r u → B u t → H.size ≤ H1.size → (∀ q : Nat, q < H.size → ¬ A1 q → H1[q]? = H[q]?) → va_S A0 H0 H1 locs1 → W p l e R s m args below meth c H1 locs1 (cells + mc) (slots + ms) Q (F0 m (pc + 3) ls (.int r :: rest))) : W p l e R s m args below meth c H locs cells slots Q (F0 m pc ls st0) := by
  intro T hT X
  rcases hr T hT X with ⟨v, st₀, t, T', L, h0, X', hL, e1, e2, ⟨⟨r, u, hv, hp, hb⟩, hF⟩, st⟩ | ⟨q, st₀, t, T', L, E, ce, h0, X', hL, e1, e2, ⟨u, hp, hb, hF⟩, hce, hcv, hcl, st⟩
  · cases hv
    obtain ⟨k1, k2, k3⟩ := vx_keep h0 e1 hS hA hf hL hF
    obtain ⟨t2, a1, b1⟩ := kk r u t T'.heap (locs ++ L) e1.symm (by rw [← e2]; exact X'.warmed.alike) hp hb k1 k2 k3 T' rfl X'
    exact ⟨t2, st t2 a1, b1⟩
  · obtain ⟨k1, k2, k3⟩ := vx_keep h0 e1 hS hAX hf hL hF
    obtain ⟨t2, a1, b1⟩ := kx E ce q u t T'.heap (locs ++ L) e1.symm (by rw [← e2]; exact X'.warmed.alike) hp hb k1 k2 k3 (by rw [e1]; exact hce) hcv hcl T' rfl X'
    exact ⟨t2, st.trans a1, b1⟩
theorem vx_calll {S SX : Type} {post : Int64 → S → Prop} {px : SX → Prop} {B : S → State → Prop} {BX : String → SX → State → Prop} {AX : Nat → Prop} (hr : vx_Run p l e R s m args below meth c H locs cells slots mc ms (F0 m pc ls st0) rest (va_Ql post B A1 a) (vx_X px BX AX) free) (hS : va_S A0 H0 H locs) (hA : ∀ q, q < H.size → A1 q → A0 q) (hf : ∀ q, free q → A0 q) (hAX : ∀ q, q < H.size → AX q → A0 q)
    (kx : ∀ (E : String) (ce : Cell) (q9 : Addr) (u : SX) (t : State) (H1 : Heap) (locs1 : List Loc), t.heap = H1 → s.vm.Alike t.vm → px u → BX E u t → H.size ≤ H1.size → (∀ q : Nat, q < H.size → ¬ AX q → H1[q]? = H[q]?) → va_S A0 H0 H1 locs1 → H1[q9]? = some ce → ce.vm = .none → s.vm.findClass E = some ce.cls → vx_W p l e R s m args below meth c H1 locs1 (cells + mc) (slots + ms) Q (F0 m pc ls rest) q9)
    (kk : ∀ (r : Int64) (u : S) (t : State) (H1 : Heap) (locs1 : List Loc), t.heap = H1 → s.vm.Alike t.vm → post r u → B u t → H.size ≤ H1.size → (∀ q : Nat, q < H.size → ¬ A1 q → H1[q]? = H[q]?) → va_S A0 H0 H1 locs1 → W p l e R s m args below meth c H1 locs1 (cells + mc) (slots + ms) Q (F0 m (pc + 3) ls (.long r :: rest))) : W p l e R s m args below meth c H locs cells slots Q (F0 m pc ls st0) := by
  intro T hT X
  rcases hr T hT X with ⟨v, st₀, t, T', L, h0, X', hL, e1, e2, ⟨⟨r, u, hv, hp, hb⟩, hF⟩, st⟩ | ⟨q, st₀, t, T', L, E, ce, h0, X', hL, e1, e2, ⟨u, hp, hb, hF⟩, hce, hcv, hcl, st⟩
  · cases hv
    obtain ⟨k1, k2, k3⟩ := vx_keep h0 e1 hS hA hf hL hF
    obtain ⟨t2, a1, b1⟩ := kk r u t T'.heap (locs ++ L) e1.symm (by rw [← e2]; exact X'.warmed.alike) hp hb k1 k2 k3 T' rfl X'
    exact ⟨t2, st t2 a1, b1⟩
  · obtain ⟨k1, k2, k3⟩ := vx_keep h0 e1 hS hAX hf hL hF
    obtain ⟨t2, a1, b1⟩ := kx E ce q u t T'.heap (locs ++ L) e1.symm (by rw [← e2]; exact X'.warmed.alike) hp hb k1 k2 k3 (by rw [e1]; exact hce) hcv hcl T' rfl X'
    exact ⟨t2, st.trans a1, b1⟩
theorem vx_callf {S SX : Type} {post : UInt32 → S → Prop} {px : SX → Prop} {B : S → State → Prop} {BX : String → SX → State → Prop} {AX : Nat → Prop} (hr : vx_Run p l e R s m args below meth c H locs cells slots mc ms (F0 m pc ls st0) rest (va_Qf post B A1 a) (vx_X px BX AX) free) (hS : va_S A0 H0 H locs) (hA : ∀ q, q < H.size → A1 q → A0 q) (hf : ∀ q, free q → A0 q) (hAX : ∀ q, q < H.size → AX q → A0 q)
    (kx : ∀ (E : String) (ce : Cell) (q9 : Addr) (u : SX) (t : State) (H1 : Heap) (locs1 : List Loc), t.heap = H1 → s.vm.Alike t.vm → px u → BX E u t → H.size ≤ H1.size → (∀ q : Nat, q < H.size → ¬ AX q → H1[q]? = H[q]?) → va_S A0 H0 H1 locs1 → H1[q9]? = some ce → ce.vm = .none → s.vm.findClass E = some ce.cls → vx_W p l e R s m args below meth c H1 locs1 (cells + mc) (slots + ms) Q (F0 m pc ls rest) q9)
    (kk : ∀ (r : UInt32) (u : S) (t : State) (H1 : Heap) (locs1 : List Loc), t.heap = H1 → s.vm.Alike t.vm → post r u → B u t → H.size ≤ H1.size → (∀ q : Nat, q < H.size → ¬ A1 q → H1[q]? = H[q]?) → va_S A0 H0 H1 locs1 → W p l e R s m args below meth c H1 locs1 (cells + mc) (slots + ms) Q (F0 m (pc + 3) ls (.float r :: rest))) : W p l e R s m args below meth c H locs cells slots Q (F0 m pc ls st0) := by
  intro T hT X
  rcases hr T hT X with ⟨v, st₀, t, T', L, h0, X', hL, e1, e2, ⟨⟨r, u, hv, hp, hb⟩, hF⟩, st⟩ | ⟨q, st₀, t, T', L, E, ce, h0, X', hL, e1, e2, ⟨u, hp, hb, hF⟩, hce, hcv, hcl, st⟩
  · cases hv
    obtain ⟨k1, k2, k3⟩ := vx_keep h0 e1 hS hA hf hL hF
    obtain ⟨t2, a1, b1⟩ := kk r u t T'.heap (locs ++ L) e1.symm (by rw [← e2]; exact X'.warmed.alike) hp hb k1 k2 k3 T' rfl X'
    exact ⟨t2, st t2 a1, b1⟩
  · obtain ⟨k1, k2, k3⟩ := vx_keep h0 e1 hS hAX hf hL hF
    obtain ⟨t2, a1, b1⟩ := kx E ce q u t T'.heap (locs ++ L) e1.symm (by rw [← e2]; exact X'.warmed.alike) hp hb k1 k2 k3 (by rw [e1]; exact hce) hcv hcl T' rfl X'
    exact ⟨t2, st.trans a1, b1⟩
theorem vx_calld {S SX : Type} {post : UInt64 → S → Prop} {px : SX → Prop} {B : S → State → Prop} {BX : String → SX → State → Prop} {AX : Nat → Prop} (hr : vx_Run p l e R s m args below meth c H locs cells slots mc ms (F0 m pc ls st0) rest (va_Qd post B A1 a) (vx_X px BX AX) free) (hS : va_S A0 H0 H locs) (hA : ∀ q, q < H.size → A1 q → A0 q) (hf : ∀ q, free q → A0 q) (hAX : ∀ q, q < H.size → AX q → A0 q)
    (kx : ∀ (E : String) (ce : Cell) (q9 : Addr) (u : SX) (t : State) (H1 : Heap) (locs1 : List Loc), t.heap = H1 → s.vm.Alike t.vm → px u → BX E u t → H.size ≤ H1.size → (∀ q : Nat, q < H.size → ¬ AX q → H1[q]? = H[q]?) → va_S A0 H0 H1 locs1 → H1[q9]? = some ce → ce.vm = .none → s.vm.findClass E = some ce.cls → vx_W p l e R s m args below meth c H1 locs1 (cells + mc) (slots + ms) Q (F0 m pc ls rest) q9)
    (kk : ∀ (r : UInt64) (u : S) (t : State) (H1 : Heap) (locs1 : List Loc), t.heap = H1 → s.vm.Alike t.vm → post r u → B u t → H.size ≤ H1.size → (∀ q : Nat, q < H.size → ¬ A1 q → H1[q]? = H[q]?) → va_S A0 H0 H1 locs1 → W p l e R s m args below meth c H1 locs1 (cells + mc) (slots + ms) Q (F0 m (pc + 3) ls (.double r :: rest))) : W p l e R s m args below meth c H locs cells slots Q (F0 m pc ls st0) := by
  intro T hT X
  rcases hr T hT X with ⟨v, st₀, t, T', L, h0, X', hL, e1, e2, ⟨⟨r, u, hv, hp, hb⟩, hF⟩, st⟩ | ⟨q, st₀, t, T', L, E, ce, h0, X', hL, e1, e2, ⟨u, hp, hb, hF⟩, hce, hcv, hcl, st⟩
  · cases hv
    obtain ⟨k1, k2, k3⟩ := vx_keep h0 e1 hS hA hf hL hF
    obtain ⟨t2, a1, b1⟩ := kk r u t T'.heap (locs ++ L) e1.symm (by rw [← e2]; exact X'.warmed.alike) hp hb k1 k2 k3 T' rfl X'
    exact ⟨t2, st t2 a1, b1⟩
  · obtain ⟨k1, k2, k3⟩ := vx_keep h0 e1 hS hAX hf hL hF
    obtain ⟨t2, a1, b1⟩ := kx E ce q u t T'.heap (locs ++ L) e1.symm (by rw [← e2]; exact X'.warmed.alike) hp hb k1 k2 k3 (by rw [e1]; exact hce) hcv hcl T' rfl X'
    exact ⟨t2, st.trans a1, b1⟩
theorem vx_callv {S SX : Type} {post : S → Prop} {px : SX → Prop} {B : S → State → Prop} {BX : String → SX → State → Prop} {AX : Nat → Prop} (hr : vx_Run p l e R s m args below meth c H locs cells slots mc ms (F0 m pc ls st0) rest (va_Qv post B A1 a) (vx_X px BX AX) free) (hS : va_S A0 H0 H locs) (hA : ∀ q, q < H.size → A1 q → A0 q) (hf : ∀ q, free q → A0 q) (hAX : ∀ q, q < H.size → AX q → A0 q)
    (kx : ∀ (E : String) (ce : Cell) (q9 : Addr) (u : SX) (t : State) (H1 : Heap) (locs1 : List Loc), t.heap = H1 → s.vm.Alike t.vm → px u → BX E u t → H.size ≤ H1.size → (∀ q : Nat, q < H.size → ¬ AX q → H1[q]? = H[q]?) → va_S A0 H0 H1 locs1 → H1[q9]? = some ce → ce.vm = .none → s.vm.findClass E = some ce.cls → vx_W p l e R s m args below meth c H1 locs1 (cells + mc) (slots + ms) Q (F0 m pc ls rest) q9)
    (kk : ∀ (u : S) (t : State) (H1 : Heap) (locs1 : List Loc), t.heap = H1 → s.vm.Alike t.vm → post u → B u t → H.size ≤ H1.size → (∀ q : Nat, q < H.size → ¬ A1 q → H1[q]? = H[q]?) → va_S A0 H0 H1 locs1 → W p l e R s m args below meth c H1 locs1 (cells + mc) (slots + ms) Q (F0 m (pc + 3) ls (rest))) : W p l e R s m args below meth c H locs cells slots Q (F0 m pc ls st0) := by
  intro T hT X
  rcases hr T hT X with ⟨v, st₀, t, T', L, h0, X', hL, e1, e2, ⟨⟨u, hv, hp, hb⟩, hF⟩, st⟩ | ⟨q, st₀, t, T', L, E, ce, h0, X', hL, e1, e2, ⟨u, hp, hb, hF⟩, hce, hcv, hcl, st⟩
  · cases hv
    obtain ⟨k1, k2, k3⟩ := vx_keep h0 e1 hS hA hf hL hF
    obtain ⟨t2, a1, b1⟩ := kk u t T'.heap (locs ++ L) e1.symm (by rw [← e2]; exact X'.warmed.alike) hp hb k1 k2 k3 T' rfl X'
    exact ⟨t2, st t2 a1, b1⟩
  · obtain ⟨k1, k2, k3⟩ := vx_keep h0 e1 hS hAX hf hL hF
    obtain ⟨t2, a1, b1⟩ := kx E ce q u t T'.heap (locs ++ L) e1.symm (by rw [← e2]; exact X'.warmed.alike) hp hb k1 k2 k3 (by rw [e1]; exact hce) hcv hcl T' rfl X'
    exact ⟨t2, st.trans a1, b1⟩
end Rows
section Ends
variable {p : Program} {l : Launch} {e : Env} {R : Room} {s : State} {m : MethodId} {args : Array Value} {below : List Frame} {meth : Method} {c : Code} {H : Heap} {locs : List Loc} {cells slots : Nat} {Q : State → Prop}
variable {mc ms : Nat} {free : Addr → Prop} {A0 A1 : Nat → Prop} {H0 : Heap} {a : Array Value} {ls : Array Slot} {st0 rest : List Value}
variable {Qc : Array Value → State → Outcome → State → Prop} {XC : String → State → State → Prop}
def vx_MQ (below : List Frame) (Qc : Array Value → State → Outcome → State → Prop) (XC : String → State → State → Prop) (a : Array Value) (s : State) (mc ms : Nat) (free : Addr → Prop) : State → Prop := fun t =>
  ∃ o, t.status = .running ∧ Ended t below o ∧ vx_Q Qc XC mc ms free a s o t
theorem vx_ret {g : JFrame} {mc ms : Nat} (k : W p l e R s m args below meth c H locs cells slots (MQ below Qc args s mc ms free) g) : W p l e R s m args below meth c H locs cells slots (vx_MQ below Qc XC args s mc ms free) g := by
  intro T hT X
  obtain ⟨t, a1, o, b1, b2, b3, b4⟩ := k T hT X
  exact ⟨t, a1, o, b1, b2, Or.inl ⟨b3, b4⟩⟩
theorem vx_widen {g : JFrame} {q : Addr} {k n : Nat} (h1 : cells ≤ k) (h2 : slots ≤ n) (kk : vx_W p l e R s m args below meth c H locs k n Q g q) : vx_W p l e R s m args below meth c H locs cells slots Q g q := fun T hT X => kk T hT (stand_widen X h1 h2)
theorem vx_out {pc : Nat} {E : String} {ce : Cell} {q : Addr} {mc ms : Nat} (hout : ∀ x ∈ c.exceptionTable.toList, covers x pc = false) (hlocks : meth.locks = false) (hcell : H[q]? = some ce) (hv : ce.vm = .none) (hcl : s.vm.findClass E = some ce.cls)
    (hx : ∀ t : State, t.heap = H → s.vm.Alike t.vm → XC E s t) (hf : ∀ z ∈ locs, free z.base) (hc : cells ≤ mc) (hs : slots ≤ ms) :
    vx_W p l e R s m args below meth c H locs cells slots (vx_MQ below Qc XC args s mc ms free) (F0 m pc ls rest) q := by
  intro T hT X
  obtain ⟨st1, hrun, hend, hW, hsm⟩ := X.leaveThrown q (g := F0 m pc ls rest) rfl rfl rfl hout hlocks
  have hcell9 : (T.setFrames (.throwing q :: below)).heap[q]? = some ce := by
    show T.heap[q]? = some ce
    rw [hT]; exact hcell
  exact ⟨_, st1, .threw q, hrun, hend, Or.inr ⟨q, rfl, E, ce, locs, hx _ hT hW.alike, hcell9, hv, hcl, hW, hsm.mono hc hs, hf⟩⟩
theorem vx_frame {U : State} {k n : Nat} (h : s.sameButNew ({ U with vm := s.vm } : State) locs k n) : s.heap.size ≤ U.heap.size ∧ ∀ q : Nat, q < s.heap.size → (∀ z ∈ locs, z.base ≠ q) → U.heap[q]? = s.heap[q]? := by
  obtain ⟨-, h2, -, -, -, h6⟩ := h
  refine ⟨h2, fun q hq hz => ?_⟩
  obtain ⟨c9, e1, e2, e3, e4⟩ := h6 q _ (Array.getElem?_eq_getElem hq)
  have hs : c9.slots = (s.heap[q]).slots := Array.ext_getElem? fun i => e4 i fun hm => hz _ hm rfl
  have h9 : c9 = s.heap[q] := by
    rw [hs] at e2
    exact e2
  have e5 : U.heap[q]? = some c9 := e1
  rw [e5, h9, Array.getElem?_eq_getElem hq]
def vx_no (w : Cond) : Bool := decide (w ≠ .isRef (.static Bundle.tN "UNASSIGNED_STACK" Bundle.steD)) && decide (w ≠ .isRef (.static Bundle.tN "SUPPRESSED_SENTINEL" Bundle.listD)) && decide (w ≠ .laysStatic Bundle.tN "UNASSIGNED_STACK" Bundle.steD) && decide (w ≠ .laysStatic Bundle.tN "SUPPRESSED_SENTINEL" Bundle.listD)
def vx_at0 (own : String) (ic : Nat) (X : String) (names : List String) : List Cond := (Bundle.ownAtoms0 own ic X names).filter vx_no
def vx_atS (own : String) (ic : Nat) (X : String) (names : List String) : List Cond := (Bundle.ownAtoms own ic X names).filter vx_no
def vx_ot (w : Cond) : Bool := w.onTables || goodWord w
theorem vx_ot_at {args a' : Array Value} {s U : State} {w : Cond} (hW : s.WarmedH U.vm) (hvm : s.vm = U.vm) (hg : vx_ot w = true) (h : w.before args s = true) : w.before a' U = true := by
  simp only [vx_ot, Bool.or_eq_true] at hg
  rcases hg with hg | hg
  · exact va_tabs hg hvm h
  · exact word_at hW (good_of_word hg) h
theorem vx_hat {args : Array Value} {s : State} {L B : List Cond} (h1 : ∀ w ∈ L.filter goodWord, w.before args s = true) (h2 : ∀ w ∈ L.filter (fun w => !goodWord w), w ∈ B) (h3 : ∀ w ∈ B, w.before args s = true) : ∀ w ∈ L, w.before args s = true := by
  intro w hw
  by_cases g : goodWord w = true
  · exact h1 w (List.mem_filter.mpr ⟨hw, g⟩)
  · refine h3 w (h2 w (List.mem_filter.mpr ⟨hw, ?_⟩))
    show (!goodWord w) = true
    cases hgw : goodWord w
    · rfl
    · exact absurd hgw g
theorem vx_c {args : Array Value} {s : State} {w : Cond} {B : List Cond} (h : w.before args s = true) (t : ∀ w ∈ B, w.before args s = true) : ∀ w' ∈ w :: B, w'.before args s = true := fun w' h' => (List.mem_cons.mp h').elim (fun e => by rw [e]; exact h) (t w')
theorem vx_n {args : Array Value} {s : State} : ∀ w ∈ ([] : List Cond), w.before args s = true := fun _ h => nomatch h
theorem vx_own {args : Array Value} {s : State} {L : List Cond} (h1 : ∀ w ∈ L.filter vx_no, w.before args s = true)
    (hU : (Cond.isRef (.static Bundle.tN "UNASSIGNED_STACK" Bundle.steD)).before args s = true) (hN : (Cond.isRef (.static Bundle.tN "SUPPRESSED_SENTINEL" Bundle.listD)).before args s = true)
    (lU : (Cond.laysStatic Bundle.tN "UNASSIGNED_STACK" Bundle.steD).before args s = true) (lN : (Cond.laysStatic Bundle.tN "SUPPRESSED_SENTINEL" Bundle.listD).before args s = true) : ∀ w ∈ L, w.before args s = true := by
  intro w hw
  by_cases e1 : w = .isRef (.static Bundle.tN "UNASSIGNED_STACK" Bundle.steD)
  · rw [e1]; exact hU
  · by_cases e2 : w = .isRef (.static Bundle.tN "SUPPRESSED_SENTINEL" Bundle.listD)
    · rw [e2]; exact hN
    · by_cases e3 : w = .laysStatic Bundle.tN "UNASSIGNED_STACK" Bundle.steD
      · rw [e3]; exact lU
      · by_cases e4 : w = .laysStatic Bundle.tN "SUPPRESSED_SENTINEL" Bundle.listD
        · rw [e4]; exact lN
        · exact h1 w (List.mem_filter.mpr ⟨hw, by unfold vx_no; rw [decide_eq_true e1, decide_eq_true e2, decide_eq_true e3, decide_eq_true e4]; rfl⟩)
def vx_L (C n d : String) (A : Nat → Prop) (U : State) (H : Heap) : Prop := ∃ (c : ClassId) (k : Class) (i : Nat) (f : Field) (a : Nat) (cell : Cell), U.vm.findClass C = some c ∧ U.fieldFound? C n d = some (c, k, i, f) ∧ f.isStatic = true ∧ k.statics = some a ∧ H[a]? = some cell ∧ cell.vm.isStatics = true ∧ cell.cls = c ∧ f.slot < cell.slots.size ∧ k.staticTypes[f.slot]? = some f.type ∧ ¬ A a
theorem vx_L.moved {C n d : String} {A : Nat → Prop} {u U : State} {H : Heap} (hvm : u.vm.Alike U.vm) (h : vx_L C n d A u H) : vx_L C n d A U H := by
  obtain ⟨c, k, i, f, a, cell, h1, h2, h3, h4, h5, h6, h7, h8, h9, h10⟩ := h
  obtain ⟨k', hi', he⟩ := State.fieldFound?_setVm hvm h2
  exact ⟨c, k', i, f, a, cell, by rw [hvm.findClass]; exact h1, hi', h3, by rw [he]; exact h4, h5, h6, h7, h8, by rw [he]; exact h9, h10⟩
theorem vx_L.kept {C n d : String} {A : Nat → Prop} {U : State} {H H1 : Heap} (h : vx_L C n d A U H) (hq : ∀ a : Nat, a < H.size → ¬ A a → H1[a]? = H[a]?) : vx_L C n d A U H1 := by
  obtain ⟨c, k, i, f, a, cell, h1, h2, h3, h4, h5, h6, h7, h8, h9, h10⟩ := h
  exact ⟨c, k, i, f, a, cell, h1, h2, h3, h4, by rw [hq a (Array.getElem?_eq_some_iff.mp h5).1 h10]; exact h5, h6, h7, h8, h9, h10⟩
theorem vx_L.narrow {C n d : String} {A B : Nat → Prop} {U : State} {H : Heap} (h : vx_L C n d A U H) (hAB : ∀ q, B q → A q) : vx_L C n d B U H := by
  obtain ⟨c, k, i, f, a, cell, h1, h2, h3, h4, h5, h6, h7, h8, h9, h10⟩ := h
  exact ⟨c, k, i, f, a, cell, h1, h2, h3, h4, h5, h6, h7, h8, h9, fun z => h10 (hAB _ z)⟩
theorem vx_L.word {C n d : String} {A : Nat → Prop} {s : State} {args : Array Value} (h : vx_L C n d A s s.heap) : (Cond.laysStatic C n d).before args s = true := by
  obtain ⟨c, k, i, f, a, cell, h1, h2, h3, h4, h5, h6, h7, h8, h9, -⟩ := h
  show (Cond.laysStatic C n d).holds args s none s [] = true
  exact Cond.laysStatic_of h1 h2 h3 h4 h5 h6 h7 h8 h9
def vx_Zq (C n d : String) (A : Nat → Prop) (U : State) (H : Heap) : Prop := va_Zq C n d A U H ∧ vx_L C n d A U H
theorem vx_Zq.moved {C n d : String} {A : Nat → Prop} {u U : State} {H : Heap} (hvm : u.vm.Alike U.vm) (h : vx_Zq C n d A u H) : vx_Zq C n d A U H := ⟨va_Zq.moved hvm h.1, vx_L.moved hvm h.2⟩
theorem vx_Zq.kept {C n d : String} {A : Nat → Prop} {U : State} {H H1 : Heap} (h : vx_Zq C n d A U H) (hq : ∀ a : Nat, a < H.size → ¬ A a → H1[a]? = H[a]?) : vx_Zq C n d A U H1 := ⟨va_Zq.kept h.1 hq, vx_L.kept h.2 hq⟩
theorem vx_Zq.narrow {C n d : String} {A B : Nat → Prop} {U : State} {H : Heap} (h : vx_Zq C n d A U H) (hAB : ∀ q, B q → A q) : vx_Zq C n d B U H := ⟨va_Zq.narrow h.1 hAB, vx_L.narrow h.2 hAB⟩
theorem vx_Zqof {args : Array Value} {s : State} {C n d : String} {A : Nat → Prop} (hl : (Cond.laysStatic C n d).before args s = true) (hini : (Cond.initialized C).before args s = true) (h : (Cond.isRef (.static C n d)).before args s = true) (hA : ∀ a : Nat, a < s.heap.size → ¬ A a) : vx_Zq C n d A s s.heap := by
  refine ⟨va_Zqof hl hini h hA, ?_⟩
  obtain ⟨c, k, i, f, a, cell, h1, h2, h3, h4, h5, h6, h7, h8, h9⟩ := Cond.laysStatic_spec hl
  exact ⟨c, k, i, f, a, cell, h1, h2, h3, h4, h5, h6, h7, h8, h9, hA a (Array.getElem?_eq_some_iff.mp h5).1⟩
theorem vx_isRef {C n d : String} {v : Value} {A : Nat → Prop} {s : State} {args : Array Value} (h : va_Z C n d v A s s.heap) (hv : v.isRef = true) : (Cond.isRef (.static C n d)).before args s = true := by
  obtain ⟨cf, kf, fi, f, a, cell, h1, h2, h3, h4, h5, h6, h7, -⟩ := h
  have he : (Term.static C n d).eval args s none [] s = some v := by
    simp [Term.eval, State.fieldNamed?, h1, h2, h4, h5, h6, h7]
  simp only [Cond.before, Cond.holds, Cond.value, he]
  cases v <;> simp_all [Value.isRef]
theorem vx_isRefq {C n d : String} {A : Nat → Prop} {s : State} {args : Array Value} (h : va_Zq C n d A s s.heap) : (Cond.isRef (.static C n d)).before args s = true := by
  rcases h with h | ⟨t, h⟩
  · exact vx_isRef h rfl
  · exact vx_isRef h rfl
theorem vx_rebase {T : State} (X : Stand p l e R s m args below meth c T locs cells slots) {R' : Room} (hf : R'.frames ≤ R.frames) (hl : R'.locals ≤ R.locals) (hc : cells + R'.cells ≤ R.cells) (hs : slots + R'.slots ≤ R.slots) :
    Stand p l e R' ((T.setVm s.vm).setFrames (.invoking m args :: below)) m args below meth c T [] 0 0 := by
  have htop : (T.setVm s.vm).topJava?.isSome := X.here.top
  have hF : ((T.setVm s.vm).setFrames (.invoking m args :: below)).frames = .invoking m args :: below := State.frames_setFrames _ (State.cur_lt_of_top htop)
  obtain ⟨g₀, hg0⟩ := Option.isSome_iff_exists.mp htop
  obtain ⟨r, hr⟩ := State.topJava?_eq_some.mp hg0
  have hl9 : e.platform.stackLimits (T.setVm s.vm).me = e.platform.stackLimits s.me := X.limits
  have hb9 : (T.setVm s.vm).me.stackBytes = s.me.stackBytes := X.bytes
  refine ⟨X.admits, X.cas, X.clock, hF, ?_, X.hears, X.method, X.code, X.here, X.tail, X.warmed, ?_, ?_, ?_⟩
  · have h := X.room
    have hU : ((T.setVm s.vm).setFrames (.invoking m args :: below)).localsInUse = s.localsInUse := by
      rw [State.localsInUse_invoking hF (meth := meth) (c := c) X.method X.code, State.localsInUse_invoking X.frames X.method X.code]
    simp only [State.hasRoom, Bool.and_eq_true, decide_eq_true_eq] at h ⊢
    obtain ⟨⟨⟨⟨h1, h2, h3, h4, h5, h6⟩, h7⟩, h8⟩, h9⟩ := h
    rw [X.frames, List.length_cons] at h2 h3
    have q1 := X.heapSize
    have q2 := X.used
    simp only [hF, hU, List.length_cons, State.stackLimits_setFrames, State.stackBytes_setFrames, hl9, hb9]
    refine ⟨⟨⟨⟨by omega, by omega, by omega, by omega, by omega, h6⟩, ?_⟩, ?_⟩, X.book⟩
    · show T.heap.size + R'.cells ≤ e.platform.maxCells
      omega
    · show T.slotsUsed + R'.slots ≤ e.platform.maxSlots
      omega
  · rw [State.stackLimits_setFrames]; rfl
  · rw [State.stackBytes_setFrames]; rfl
  · refine ⟨?_, Nat.le_refl _, Nat.le_refl _, ?_, ?_, fun a c9 h9 => ⟨c9, h9, rfl, rfl, fun _ _ => rfl⟩⟩
    · obtain ⟨t, ht, -⟩ := State.frames_cons hr
      show T.setVm s.vm = { ((T.setVm s.vm).setFrames (.invoking m args :: below)).setFrames (T.setVm s.vm).frames with heap := T.heap, slotsUsed := T.slotsUsed }
      rw [State.setFrames_setFrames, State.setFrames_self ht]
      rfl
    · show T.slotsUsed = T.slotsUsed + ((T.heap.toList.drop T.heap.size).map (·.slots.size)).sum
      rw [List.drop_eq_nil_of_le (Nat.le_of_eq Array.length_toList)]
      rfl
    · show ((T.heap.toList.drop T.heap.size).map (·.slots.size)).sum ≤ 0
      rw [List.drop_eq_nil_of_le (Nat.le_of_eq Array.length_toList)]
      exact Nat.le_refl _
theorem vx_throw0 {cc : ByteArray} {pc : Nat} (hexec : p.tables.exec = Jvm.exec) (hb : c.code = cc) (hl : l.stackTraces = false) {own cls : String} {names : List String} {ik ic mc ms : Nat} {A : Nat → Prop}
    (hown : s.vm.findClass own = some m.cls) (hcls : Bundle.fit cls = true) (hnames : ∀ n ∈ names, Bundle.fit n = true)
    (hk : (Cond.classLink own ik cls).before args s = true) (hini : (Cond.initialized cls).before args s = true) (hat : ∀ w ∈ vx_at0 own ic cls names, w.before args s = true)
    (hgood : ∀ w ∈ Cond.classLink own ik cls :: Cond.initialized cls :: vx_at0 own ic cls names, vx_ot w = true)
    (hU : vx_Zq Bundle.tN "UNASSIGNED_STACK" Bundle.steD A s s.heap) (hN : vx_Zq Bundle.tN "SUPPRESSED_SENTINEL" Bundle.listD A s s.heap) (hS : va_S A s.heap H locs) (hsize : ls.size = c.maxLocals)
    (d0 : decode cc pc = .ok (.new ik, 3)) (d3 : decode cc (pc + 3) = .ok (.dup, 1)) (d4 : decode cc (pc + 4) = .ok (.invokespecial ic, 3)) (d7 : decode cc (pc + 7) = .ok (.athrow, 1))
    (hout : ∀ x ∈ c.exceptionTable.toList, covers x (pc + 7) = false)
    (hRframes : names.length + 3 < R.frames) (hRlocals : (rest.map fun v => v.category).sum + (13 * (names.length + 1) + 42) ≤ R.locals) (hRcells : cells + 1 ≤ R.cells) (hRslots : slots + 6 ≤ R.slots) (hlocks : meth.locks = false)
    (hx : ∀ t : State, s.vm.Alike t.vm → H.size ≤ t.heap.size → (∀ q : Nat, q < H.size → t.heap[q]? = H[q]?) → XC cls s t)
    (hf : ∀ z ∈ locs, free z.base) (hc : cells + 1 ≤ mc) (hs : slots + 6 ≤ ms) :
    W p l e R s m args below meth c H locs cells slots (vx_MQ below Qc XC args s mc ms free) (F0 m pc ls rest) := by
  intro T hT X
  have htr : e.platform.stackTraces = false := (show e.platform.stackTraces = l.stackTraces by rw [X.admits.platform]).trans hl
  have Y := vx_rebase X (R' := { frames := R.frames, locals := R.locals, cells := 1, slots := 6 }) (Nat.le_refl _) (Nat.le_refl _) hRcells hRslots
  obtain ⟨s', hA⟩ : ∃ z, z = (T.setVm s.vm).setFrames (.invoking m args :: below) := ⟨_, rfl⟩
  rw [← hA] at Y
  have hvm : s'.vm = s.vm := by rw [hA]; rfl
  have hhp : s'.heap = H := by rw [hA]; exact hT
  have hW0 : s.WarmedH s'.vm := by rw [hvm]; exact State.WarmedH.refl s
  have hat' : ∀ w ∈ vx_at0 own ic cls names, w.before args s' = true := fun w hw => vx_ot_at hW0 hvm.symm (hgood w (List.mem_cons_of_mem _ (List.mem_cons_of_mem _ hw))) (hat w hw)
  have hk' : (Cond.classLink own ik cls).before args s' = true := vx_ot_at hW0 hvm.symm (hgood _ List.mem_cons_self) hk
  have hini' : (Cond.initialized cls).before args s' = true := vx_ot_at hW0 hvm.symm (hgood _ (List.mem_cons_of_mem _ List.mem_cons_self)) hini
  have hU' : vx_Zq Bundle.tN "UNASSIGNED_STACK" Bundle.steD A s' s'.heap := by rw [hhp]; exact vx_Zq.moved hW0.alike (hU.kept hS.2.1)
  have hN' : vx_Zq Bundle.tN "SUPPRESSED_SENTINEL" Bundle.listD A s' s'.heap := by rw [hhp]; exact vx_Zq.moved hW0.alike (hN.kept hS.2.1)
  have h : ∀ w ∈ Bundle.ownAtoms0 own ic cls names, w.before args s' = true := vx_own hat' (vx_isRefq hU'.1) (vx_isRefq hN'.1) hU'.2.word hN'.2.word
  have hown' : s'.vm.findClass own = some m.cls := by rw [hvm]; exact hown
  have hins : (Cond.instantiable cls 6).before args s' = true := h _ (by simp [Bundle.ownAtoms0])
  obtain ⟨vm₁, cX, kX, hfX, hkX, -, -, X₁, st1⟩ := Y.newCold hexec (own := own) (C := cls) (index := ik) (n := 6) hown' hk' hins hini'
    (g := F0 m pc ls rest) rfl (by rw [hb]; exact d0) (Nat.le_refl _) (Nat.le_refl _)
  generalize hT1 : (T.setVm vm₁).pushCell { cls := cX, slots := kX.instanceTypes.map defaultValue, vm := .none } = T1 at X₁ st1
  have hcat : (Value.ref T.heap.size).category = 1 := rfl
  have hcellA : T1.heap[T.heap.size]? = some (freshCell cX kX) := by rw [← hT1]; exact State.heap_pushCell_size _ _
  have d3' : decode c.code (pc + 3) = .ok (.dup, 1) := by rw [hb]; exact d3
  obtain ⟨U, hsteps, hrun, hend, hW, hsame, ce, hce, hO⟩ := X₁.ctorThrow0 hexec htr (own := own) (cls := cls) (names := names) (ic := ic) hown' hcls hnames h (fun x hx => nomatch hx) hfX hkX hcellA (by rw [hhp, hT]; exact Nat.le_refl _)
    (g := { method := m, pc := pc + 4, locals := ls, stack := .ref T.heap.size :: .ref T.heap.size :: rest, locked := none }) rfl hsize rfl rfl (rest := rest) rfl
    (by rw [hb]; exact d4) (by rw [hb]; exact d7) hout hRframes (by simp only [List.map_cons, List.sum_cons, hcat]; omega) hlocks
  obtain ⟨f1, f2⟩ := vx_frame hsame
  rw [hhp] at f1 f2
  have hWs : s.WarmedH U.vm := State.WarmedH.trans hW0 hW
  have hcl : s.vm.findClass cls = some ce.cls := by
    have h9 := hO.cls
    rw [hvm] at h9
    exact h9
  have hall : s.sameButNew ({ U with vm := s.vm } : State) locs mc ms := by
    subst hA
    obtain ⟨e1, e2⟩ := hsame
    rw [State.setFrames_setFrames] at e1
    have h2 : (T.setVm s.vm).sameButNew ({ U with vm := s.vm } : State) [] (0 + 1) (0 + 6) := ⟨e1, e2⟩
    have h3 := X.same.trans h2
    rw [List.append_nil] at h3
    exact h3.mono hc hs
  refine ⟨U, ?_, .threw T.heap.size, hrun, hend, Or.inr ⟨T.heap.size, rfl, cls, ce, locs, hx U hWs.alike f1 (fun q hq => f2 q hq (fun z hz => nomatch hz)), hce, hO.vm, hcl, hWs, hall, hf⟩⟩
  refine st1 _ ?_
  show Steps p.tables e below (T1.setTop { method := m, pc := pc + 3, locals := ls, stack := .ref T.heap.size :: rest, locked := none }) _
  jvm_step X₁.here [X₁.here.top, hexec, d3', Value.category]
  exact hsteps
theorem vx_throwS {cc : ByteArray} {pc : Nat} (hexec : p.tables.exec = Jvm.exec) (hb : c.code = cc) (hl : l.stackTraces = false) {own cls text : String} {names : List String} {ik is ic mc ms sa : Nat} {A : Nat → Prop}
    (hown : s.vm.findClass own = some m.cls) (hcls : Bundle.fit cls = true) (hnames : ∀ n ∈ names, Bundle.fit n = true)
    (hk : (Cond.classLink own ik cls).before args s = true) (hini : (Cond.initialized cls).before args s = true) (hstr : vk_R own is text sa s) (hat : ∀ w ∈ vx_atS own ic cls names, w.before args s = true)
    (hgood : ∀ w ∈ Cond.classLink own ik cls :: Cond.initialized cls :: vx_atS own ic cls names, vx_ot w = true)
    (hU : vx_Zq Bundle.tN "UNASSIGNED_STACK" Bundle.steD A s s.heap) (hN : vx_Zq Bundle.tN "SUPPRESSED_SENTINEL" Bundle.listD A s s.heap) (hS : va_S A s.heap H locs) (hsize : ls.size = c.maxLocals)
    (d0 : decode cc pc = .ok (.new ik, 3)) (d3 : decode cc (pc + 3) = .ok (.dup, 1)) (d4 : decode cc (pc + 4) = .ok (.ldc is, 2)) (d6 : decode cc (pc + 6) = .ok (.invokespecial ic, 3)) (d9 : decode cc (pc + 9) = .ok (.athrow, 1))
    (hout : ∀ x ∈ c.exceptionTable.toList, covers x (pc + 9) = false)
    (hRframes : names.length + 3 < R.frames) (hRlocals : (rest.map fun v => v.category).sum + (13 * (names.length + 1) + 43) ≤ R.locals) (hRcells : cells + 1 ≤ R.cells) (hRslots : slots + 6 ≤ R.slots) (hlocks : meth.locks = false)
    (hx : ∀ t : State, s.vm.Alike t.vm → H.size ≤ t.heap.size → (∀ q : Nat, q < H.size → t.heap[q]? = H[q]?) → XC cls s t)
    (hf : ∀ z ∈ locs, free z.base) (hc : cells + 1 ≤ mc) (hs : slots + 6 ≤ ms) :
    W p l e R s m args below meth c H locs cells slots (vx_MQ below Qc XC args s mc ms free) (F0 m pc ls rest) := by
  intro T hT X
  have htr : e.platform.stackTraces = false := (show e.platform.stackTraces = l.stackTraces by rw [X.admits.platform]).trans hl
  have Y := vx_rebase X (R' := { frames := R.frames, locals := R.locals, cells := 1, slots := 6 }) (Nat.le_refl _) (Nat.le_refl _) hRcells hRslots
  obtain ⟨s', hA⟩ : ∃ z, z = (T.setVm s.vm).setFrames (.invoking m args :: below) := ⟨_, rfl⟩
  rw [← hA] at Y
  have hvm : s'.vm = s.vm := by rw [hA]; rfl
  have hhp : s'.heap = H := by rw [hA]; exact hT
  have hW0 : s.WarmedH s'.vm := by rw [hvm]; exact State.WarmedH.refl s
  have hat' : ∀ w ∈ vx_atS own ic cls names, w.before args s' = true := fun w hw => vx_ot_at hW0 hvm.symm (hgood w (List.mem_cons_of_mem _ (List.mem_cons_of_mem _ hw))) (hat w hw)
  have hk' : (Cond.classLink own ik cls).before args s' = true := vx_ot_at hW0 hvm.symm (hgood _ List.mem_cons_self) hk
  have hini' : (Cond.initialized cls).before args s' = true := vx_ot_at hW0 hvm.symm (hgood _ (List.mem_cons_of_mem _ List.mem_cons_self)) hini
  have hU' : vx_Zq Bundle.tN "UNASSIGNED_STACK" Bundle.steD A s' s'.heap := by rw [hhp]; exact vx_Zq.moved hW0.alike (hU.kept hS.2.1)
  have hN' : vx_Zq Bundle.tN "SUPPRESSED_SENTINEL" Bundle.listD A s' s'.heap := by rw [hhp]; exact vx_Zq.moved hW0.alike (hN.kept hS.2.1)
  have h : ∀ w ∈ Bundle.ownAtoms own ic cls names, w.before args s' = true := vx_own hat' (vx_isRefq hU'.1) (vx_isRefq hN'.1) hU'.2.word hN'.2.word
  have hown' : s'.vm.findClass own = some m.cls := by rw [hvm]; exact hown
  have hins : (Cond.instantiable cls 6).before args s' = true := h _ (by simp [Bundle.ownAtoms])
  obtain ⟨vm₁, cX, kX, hfX, hkX, -, -, X₁, st1⟩ := Y.newCold hexec (own := own) (C := cls) (index := ik) (n := 6) hown' hk' hins hini'
    (g := F0 m pc ls rest) rfl (by rw [hb]; exact d0) (Nat.le_refl _) (Nat.le_refl _)
  generalize hT1 : (T.setVm vm₁).pushCell { cls := cX, slots := kX.instanceTypes.map defaultValue, vm := .none } = T1 at X₁ st1
  have hcat : (Value.ref T.heap.size).category = 1 := rfl
  have hcellA : T1.heap[T.heap.size]? = some (freshCell cX kX) := by rw [← hT1]; exact State.heap_pushCell_size _ _
  have d3' : decode c.code (pc + 3) = .ok (.dup, 1) := by rw [hb]; exact d3
  have d4' : decode c.code (pc + 4) = .ok (.ldc is, 2) := by rw [hb]; exact d4
  have hstr' : vk_R own is text sa s' := vk_R.warm hW0 hstr
  obtain ⟨U, hsteps, hrun, hend, hW, hsame, ce, hce, hO⟩ := X₁.ctorThrowS hexec htr (own := own) (cls := cls) (names := names) (ic := ic) hown' hcls hnames h (fun x hx => nomatch hx) hfX hkX hcellA (by rw [hhp, hT]; exact Nat.le_refl _) (msg := .ref sa) rfl
    (g := { method := m, pc := pc + 6, locals := ls, stack := .ref sa :: .ref T.heap.size :: .ref T.heap.size :: rest, locked := none }) rfl hsize rfl rfl (rest := rest) rfl
    (by rw [hb]; exact d6) (by rw [hb]; exact d9) hout hRframes (by simp only [List.map_cons, List.sum_cons, hcat]; omega) hlocks
  obtain ⟨f1, f2⟩ := vx_frame hsame
  rw [hhp] at f1 f2
  have hWs : s.WarmedH U.vm := State.WarmedH.trans hW0 hW
  have hcl : s.vm.findClass cls = some ce.cls := by
    have h9 := hO.cls
    rw [hvm] at h9
    exact h9
  have hall : s.sameButNew ({ U with vm := s.vm } : State) locs mc ms := by
    subst hA
    obtain ⟨e1, e2⟩ := hsame
    rw [State.setFrames_setFrames] at e1
    have h2 : (T.setVm s.vm).sameButNew ({ U with vm := s.vm } : State) [] (0 + 1) (0 + 6) := ⟨e1, e2⟩
    have h3 := X.same.trans h2
    rw [List.append_nil] at h3
    exact h3.mono hc hs
  refine ⟨U, ?_, .threw T.heap.size, hrun, hend, Or.inr ⟨T.heap.size, rfl, cls, ce, locs, hx U hWs.alike f1 (fun q hq => f2 q hq (fun z hz => nomatch hz)), hce, hO.vm, hcl, hWs, hall, hf⟩⟩
  refine st1 _ ?_
  show Steps p.tables e below (T1.setTop { method := m, pc := pc + 3, locals := ls, stack := .ref T.heap.size :: rest, locked := none }) _
  jvm_step X₁.here [X₁.here.top, hexec, d3', Value.category]
  exact X₁.ldcString hexec (own := own) (text := text) (index := is) (a := sa) hown' hstr'.1 hstr'.2
    (g := { method := m, pc := pc + 4, locals := ls, stack := .ref T.heap.size :: .ref T.heap.size :: rest, locked := none }) rfl d4' _ hsteps
theorem vx_throwSW {cc : ByteArray} {pc : Nat} (hexec : p.tables.exec = Jvm.exec) (hb : c.code = cc) (hl : l.stackTraces = false) {own cls text : String} {names : List String} {ik is ic mc ms sa : Nat} {A : Nat → Prop}
    (hown : s.vm.findClass own = some m.cls) (hcls : Bundle.fit cls = true) (hnames : ∀ n ∈ names, Bundle.fit n = true)
    (hk : (Cond.classLink own ik cls).before args s = true) (hini : (Cond.initialized cls).before args s = true) (hstr : vk_R own is text sa s) (hat : ∀ w ∈ vx_atS own ic cls names, w.before args s = true)
    (hgood : ∀ w ∈ Cond.classLink own ik cls :: Cond.initialized cls :: vx_atS own ic cls names, vx_ot w = true)
    (hU : vx_Zq Bundle.tN "UNASSIGNED_STACK" Bundle.steD A s s.heap) (hN : vx_Zq Bundle.tN "SUPPRESSED_SENTINEL" Bundle.listD A s s.heap) (hS : va_S A s.heap H locs) (hsize : ls.size = c.maxLocals)
    (d0 : decode cc pc = .ok (.new ik, 3)) (d3 : decode cc (pc + 3) = .ok (.dup, 1)) (d4 : decode cc (pc + 4) = .ok (.ldc_w is, 3)) (d7 : decode cc (pc + 7) = .ok (.invokespecial ic, 3)) (d10 : decode cc (pc + 10) = .ok (.athrow, 1))
    (hout : ∀ x ∈ c.exceptionTable.toList, covers x (pc + 10) = false)
    (hRframes : names.length + 3 < R.frames) (hRlocals : (rest.map fun v => v.category).sum + (13 * (names.length + 1) + 43) ≤ R.locals) (hRcells : cells + 1 ≤ R.cells) (hRslots : slots + 6 ≤ R.slots) (hlocks : meth.locks = false)
    (hx : ∀ t : State, s.vm.Alike t.vm → H.size ≤ t.heap.size → (∀ q : Nat, q < H.size → t.heap[q]? = H[q]?) → XC cls s t)
    (hf : ∀ z ∈ locs, free z.base) (hc : cells + 1 ≤ mc) (hs : slots + 6 ≤ ms) :
    W p l e R s m args below meth c H locs cells slots (vx_MQ below Qc XC args s mc ms free) (F0 m pc ls rest) := by
  intro T hT X
  have htr : e.platform.stackTraces = false := (show e.platform.stackTraces = l.stackTraces by rw [X.admits.platform]).trans hl
  have Y := vx_rebase X (R' := { frames := R.frames, locals := R.locals, cells := 1, slots := 6 }) (Nat.le_refl _) (Nat.le_refl _) hRcells hRslots
  obtain ⟨s', hA⟩ : ∃ z, z = (T.setVm s.vm).setFrames (.invoking m args :: below) := ⟨_, rfl⟩
  rw [← hA] at Y
  have hvm : s'.vm = s.vm := by rw [hA]; rfl
  have hhp : s'.heap = H := by rw [hA]; exact hT
  have hW0 : s.WarmedH s'.vm := by rw [hvm]; exact State.WarmedH.refl s
  have hat' : ∀ w ∈ vx_atS own ic cls names, w.before args s' = true := fun w hw => vx_ot_at hW0 hvm.symm (hgood w (List.mem_cons_of_mem _ (List.mem_cons_of_mem _ hw))) (hat w hw)
  have hk' : (Cond.classLink own ik cls).before args s' = true := vx_ot_at hW0 hvm.symm (hgood _ List.mem_cons_self) hk
  have hini' : (Cond.initialized cls).before args s' = true := vx_ot_at hW0 hvm.symm (hgood _ (List.mem_cons_of_mem _ List.mem_cons_self)) hini
  have hU' : vx_Zq Bundle.tN "UNASSIGNED_STACK" Bundle.steD A s' s'.heap := by rw [hhp]; exact vx_Zq.moved hW0.alike (hU.kept hS.2.1)
  have hN' : vx_Zq Bundle.tN "SUPPRESSED_SENTINEL" Bundle.listD A s' s'.heap := by rw [hhp]; exact vx_Zq.moved hW0.alike (hN.kept hS.2.1)
  have h : ∀ w ∈ Bundle.ownAtoms own ic cls names, w.before args s' = true := vx_own hat' (vx_isRefq hU'.1) (vx_isRefq hN'.1) hU'.2.word hN'.2.word
  have hown' : s'.vm.findClass own = some m.cls := by rw [hvm]; exact hown
  have hins : (Cond.instantiable cls 6).before args s' = true := h _ (by simp [Bundle.ownAtoms])
  obtain ⟨vm₁, cX, kX, hfX, hkX, -, -, X₁, st1⟩ := Y.newCold hexec (own := own) (C := cls) (index := ik) (n := 6) hown' hk' hins hini'
    (g := F0 m pc ls rest) rfl (by rw [hb]; exact d0) (Nat.le_refl _) (Nat.le_refl _)
  generalize hT1 : (T.setVm vm₁).pushCell { cls := cX, slots := kX.instanceTypes.map defaultValue, vm := .none } = T1 at X₁ st1
  have hcat : (Value.ref T.heap.size).category = 1 := rfl
  have hcellA : T1.heap[T.heap.size]? = some (freshCell cX kX) := by rw [← hT1]; exact State.heap_pushCell_size _ _
  have d3' : decode c.code (pc + 3) = .ok (.dup, 1) := by rw [hb]; exact d3
  have d4' : decode c.code (pc + 4) = .ok (.ldc_w is, 3) := by rw [hb]; exact d4
  have hstr' : vk_R own is text sa s' := vk_R.warm hW0 hstr
  obtain ⟨U, hsteps, hrun, hend, hW, hsame, ce, hce, hO⟩ := X₁.ctorThrowS hexec htr (own := own) (cls := cls) (names := names) (ic := ic) hown' hcls hnames h (fun x hx => nomatch hx) hfX hkX hcellA (by rw [hhp, hT]; exact Nat.le_refl _) (msg := .ref sa) rfl
    (g := { method := m, pc := pc + 7, locals := ls, stack := .ref sa :: .ref T.heap.size :: .ref T.heap.size :: rest, locked := none }) rfl hsize rfl rfl (rest := rest) rfl
    (by rw [hb]; exact d7) (by rw [hb]; exact d10) hout hRframes (by simp only [List.map_cons, List.sum_cons, hcat]; omega) hlocks
  obtain ⟨f1, f2⟩ := vx_frame hsame
  rw [hhp] at f1 f2
  have hWs : s.WarmedH U.vm := State.WarmedH.trans hW0 hW
  have hcl : s.vm.findClass cls = some ce.cls := by
    have h9 := hO.cls
    rw [hvm] at h9
    exact h9
  have hall : s.sameButNew ({ U with vm := s.vm } : State) locs mc ms := by
    subst hA
    obtain ⟨e1, e2⟩ := hsame
    rw [State.setFrames_setFrames] at e1
    have h2 : (T.setVm s.vm).sameButNew ({ U with vm := s.vm } : State) [] (0 + 1) (0 + 6) := ⟨e1, e2⟩
    have h3 := X.same.trans h2
    rw [List.append_nil] at h3
    exact h3.mono hc hs
  refine ⟨U, ?_, .threw T.heap.size, hrun, hend, Or.inr ⟨T.heap.size, rfl, cls, ce, locs, hx U hWs.alike f1 (fun q hq => f2 q hq (fun z hz => nomatch hz)), hce, hO.vm, hcl, hWs, hall, hf⟩⟩
  refine st1 _ ?_
  show Steps p.tables e below (T1.setTop { method := m, pc := pc + 3, locals := ls, stack := .ref T.heap.size :: rest, locked := none }) _
  jvm_step X₁.here [X₁.here.top, hexec, d3', Value.category]
  exact X₁.ldcStringW hexec (own := own) (text := text) (index := is) (a := sa) hown' hstr'.1 hstr'.2
    (g := { method := m, pc := pc + 4, locals := ls, stack := .ref T.heap.size :: .ref T.heap.size :: rest, locked := none }) rfl d4' _ hsteps
end Ends
section Bodies
variable {l : Launch}
theorem vx_ofW {y : MethodName} {ws ws' : List Cond} {rm : Room} {Pc : Array Value → State → Prop} {Qc : Array Value → State → Outcome → State → Prop} {XC : String → State → State → Prop} {mc ms : Nat} {free : Addr → Prop} {cc : ByteArray} {maxL : Nat} {ret : Option FieldType}
    (hy : plainName y.cls = true) (hw : ws = Cond.code y cc maxL ret :: ws')
    (body : ∀ p e s m args below meth c s₁, BodyLoose p l y (headSpec ws rm) cc maxL ret e s m args below meth c s₁ → c.maxLocals = maxL → (∀ x ∈ c.exceptionTable.toList, False) → Pc args s →
      W p l e (headSpec ws rm).room s m args below meth c s.heap [] 0 0 (vx_MQ below Qc XC args s mc ms free) (entryFrame m args maxL)) : vx_Met l y ws rm Pc Qc XC mc ms free := by
  refine MetFree.of_bodyS (code := cc) (maxLocals := maxL) (ret := ret) hy ?_ ?_
  · intro args s m h hn
    obtain ⟨meth, c, h1, h2, h3, h4, h5, h6, -, -⟩ := Cond.code_spec hn (atoms_spec (ws := ws) h _ (by rw [hw]; exact List.mem_cons_self))
    exact ⟨meth, c, h1, h2, h3, h4, h5, h6⟩
  · intro p e s m args below meth c s₁ B hml hP _
    have hh0 : s₁.heap = s.heap := by rw [B.state]; rfl
    have ht : ∀ x ∈ c.exceptionTable.toList, False := by
      obtain ⟨meth9, c9, h1, h2, -, -, -, -, h7, -⟩ := Cond.code_spec B.named (atoms_spec (ws := ws) B.pre _ (by rw [hw]; exact List.mem_cons_self))
      cases Option.some.inj (h1.symm.trans B.method)
      cases Option.some.inj (h2.symm.trans (Stand.of_body B).code)
      intro x hx
      rw [Array.isEmpty_iff.mp h7] at hx
      cases hx
    obtain ⟨t, a1, o, b1, b2, b3⟩ := body p e s m args below meth c s₁ B hml ht hP s₁ hh0 (Stand.of_body B)
    exact ⟨t, o, a1, b1, b2, b3⟩
theorem vx_table {p : Program} {x y : MethodName} {S : Spec} {cc bytes : ByteArray} {maxL maxL' : Nat} {ret ret' : Option FieldType} {e : Env} {s s₁ : State} {m : MethodId} {args : Array Value} {below : List Frame} {meth : Method} {c : Code} {hh : List (Nat × Nat × Nat × Nat)}
    (B : BodyLoose p l y S cc maxL ret e s m args below meth c s₁) (h : (Cond.codeWith y bytes maxL' ret' hh).before args s = true) : c.exceptionTable.toList = tableOf hh := by
  obtain ⟨m9, meth9, c9, hn9, h1, h2, -, -, h6, -⟩ := Cond.codeWith_spec h
  cases Option.some.inj (hn9.symm.trans B.named)
  cases Option.some.inj (h1.symm.trans B.method)
  cases Option.some.inj (h2.symm.trans (Stand.of_body B).code)
  rw [← h6, table_eq]
end Bodies
end VXA
/-! ===== END ===== -/
/-! ===== BEGIN a static call of a method with an exception table ===== -/
section VXS
variable {p : Program} {l : Launch} {e : Env} {R : Room} {s : State} {m : MethodId} {args : Array Value} {below : List Frame} {meth : Method} {c : Code} {T : State} {H : Heap} {locs : List Loc} {cells slots : Nat}
abbrev vx_CSW (R : Room) (s : State) (args : Array Value) (own : String) (index : Nat) (y : MethodName) (bytes : ByteArray) (maxL : Nat) (ret : Option FieldType) (hh : List (Nat × Nat × Nat × Nat)) (ws : List Cond) (rm : Room) (mc ms n : Nat) : Prop :=
  (rm.cells = mc ∧ rm.slots = ms ∧ rm.frames + 1 ≤ R.frames ∧ 8 + (maxL + 11) + rm.locals ≤ R.locals ∧ (∀ w ∈ ws, ∀ (a' : Array Value) (U : State), s.WarmedH U.vm → w.before a' U = true) ∧ Cond.codeWith y bytes maxL ret hh ∈ ws) ∧
  (Cond.codeWith y bytes maxL ret hh).before args s = true ∧ (Cond.initialized y.cls).before args s = true ∧ (y.cls ≠ "java/lang/invoke/MethodHandle" ∧ y.cls ≠ "java/lang/invoke/VarHandle") ∧
  (∀ sig, parseMethodDescriptor y.desc = some sig → n = sig.parameters.length) ∧ (Cond.methodLink own index y).before args s = true ∧ (Cond.static y).before args s = true
theorem vx_cwSW {own : String} {index maxL mc ms : Nat} {y : MethodName} {bytes : ByteArray} {ret : Option FieldType} {hh : List (Nat × Nat × Nat × Nat)} {Ts ws ws' : List Cond} {rm : Room} (n : Nat) (ht : ∀ w ∈ Ts, w.before args s = true) (hT : GoodIn Ts (va_wsS own index y ws)) (hw : ws = Cond.codeWith y bytes maxL ret hh :: ws') (hrc : rm.cells = mc) (hrs : rm.slots = ms)
    (hd : y.cls ≠ "java/lang/invoke/MethodHandle" ∧ y.cls ≠ "java/lang/invoke/VarHandle" ∧ (parseMethodDescriptor y.desc).map (fun d => d.parameters.length) = some n) (hR : rm.frames + 1 ≤ R.frames ∧ 8 + (maxL + 11) + rm.locals ≤ R.locals) :
    vx_CSW R s args own index y bytes maxL ret hh ws rm mc ms n := by
  have ok : ∀ w ∈ va_wsS own index y ws, w.before args s = true := fun w h => ht w (hT w h).1
  have hG : GoodIn Ts ws := fun w h => hT w (by unfold va_wsS; exact List.mem_append_right _ h)
  have hc : Cond.codeWith y bytes maxL ret hh ∈ ws := by rw [hw]; exact List.mem_cons_self
  refine ⟨⟨hrc, hrs, hR.1, hR.2, pay_in ht hG, hc⟩, ht _ (hG _ hc).1, ok _ (by simp [va_wsS]), ⟨hd.1, hd.2.1⟩, fun sig h => ?_, ok _ (by simp [va_wsS]), ok _ (by simp [va_wsS])⟩
  have h2 := hd.2.2
  rw [h] at h2
  exact (Option.some.inj h2).symm
theorem vx_callSW (X : Stand p l e R s m args below meth c T locs cells slots) (hexec : p.tables.exec = Jvm.exec) {own : String} {index : Nat} {y : MethodName} {bytes : ByteArray} {maxL : Nat} {ret : Option FieldType} {hh : List (Nat × Nat × Nat × Nat)}
    (hown : s.vm.findClass own = some m.cls) (hlink : (Cond.methodLink own index y).before args s = true) (hstat : (Cond.static y).before args s = true) (hinit : (Cond.initialized y.cls).before args s = true)
    (hcode : (Cond.codeWith y bytes maxL ret hh).before args s = true) (hy : y.cls ≠ "java/lang/invoke/MethodHandle" ∧ y.cls ≠ "java/lang/invoke/VarHandle")
    {W9 : Nat} {Pre : Pt → Array Value → Prop} {Post : Pt → Array Value → Option Value → Pt → Prop} (hK : Back l R p e below s args y 3 W9 Pre Post)
    {g : JFrame} (hg : g.method = m) (hsize : g.locals.size = c.maxLocals) {argsL rest : List Value} (hlen : ∀ sig, parseMethodDescriptor y.desc = some sig → argsL.length = sig.parameters.length)
    (hstack : g.stack = argsL.reverse ++ rest) (hW : 2 * g.monitorRoom + (rest.map fun v => v.category).sum ≤ W9) (hdg : decode c.code g.pc = .ok (.invokestatic index, 3))
    (hpre : ∀ vm₁, s.WarmedH vm₁ → Pre ⟨T.setVm vm₁, locs, cells, slots⟩ argsL.toArray) :
    ∃ (v : Option Value) (vm₁ : Vm) (B : Pt), s.WarmedH vm₁ ∧ Stand p l e R s m args below meth c B.U B.locs B.cells B.slots ∧ Post ⟨T.setVm vm₁, locs, cells, slots⟩ argsL.toArray v B ∧
      ∀ target, Steps p.tables e below (B.U.setTop { g with pc := g.pc + 3, stack := v.toList ++ rest }) target → Steps p.tables e below (T.setTop g) target := by
  obtain ⟨mk, methM, cM, hnamed, hmethM, -, -, -, -, -, -, hsigM⟩ := Cond.codeWith_spec hcode
  have hstatic : methM.isStatic = true := Cond.static_spec hnamed hmethM hstat
  obtain ⟨kP, hkP, -⟩ := className_of_methodNamed hnamed
  have hinitP : kP.init = .initialized := Cond.initialized_spec (findClass_of_methodNamed hnamed) hkP hinit
  obtain ⟨vm₁, X₁, hstep₁⟩ := X.invokestatic hexec hown hlink hnamed hmethM hstatic hkP hinitP hy (g := g) hg (argsL := argsL) (rest := rest) (hlen _ hsigM) hstack hdg
  obtain ⟨v, B, X', hpost, hsteps⟩ := hK m meth c ⟨T.setVm vm₁, locs, cells, slots⟩ { g with stack := rest } (.invokestatic index) mk argsL.toArray X₁ hg hsize hdg hW (X₁.named hnamed) (hpre vm₁ X₁.warmed)
  exact ⟨v, vm₁, B, X₁.warmed, X', hpost, fun target h => hstep₁ _ fun acts => by rw [doInvoke_state]; exact hsteps.trans h⟩
theorem vx_runSW {y : MethodName} {bytes cc : ByteArray} {maxL nL mc ms n index : Nat} {ret : Option FieldType} {hh : List (Nat × Nat × Nat × Nat)} {ws : List Cond} {rm : Room} {Pc : Array Value → State → Prop} {Qc : Array Value → State → Outcome → State → Prop} {free : Addr → Prop} {Ts : List Cond} {own : String} {As rest : List Value} {g : JFrame}
    (S : CallFix p m c cc nL s args Ts own) (hM : Met l y ws rm Pc Qc mc ms free) (cw : vx_CSW R s args own index y bytes maxL ret hh ws rm mc ms n) (hp : PreS s H Pc As)
    (hg : g.method = m) (hn : As.length = n) (hsize : g.locals.size = nL) (hstack : g.stack = As.reverse ++ rest) (hW : 2 * g.monitorRoom + (rest.map fun v => v.category).sum ≤ 8) (hdg : decode cc g.pc = .ok (.invokestatic index, 3)) (hf : cells + mc ≤ R.cells ∧ slots + ms ≤ R.slots) :
    va_Run p l e R s m args below meth c H locs cells slots mc ms g rest (Qc As.toArray) (free) := by
  obtain ⟨⟨hrc, hrs, hfr, hlo, hws, hcw⟩, hcode, hini, hy, hlen, hl, hstt⟩ := cw
  have hK : Back l R p e below s args y 3 8 (PreOf R mc ms Pc) (PostOf Qc mc ms free) := va_backW (hh := hh) (bytes := bytes) (maxL := maxL) (ret := ret) hM hp.1 hrc hrs hfr hlo hws hcw (fun a' U hW => word_at hW (Or.inl (by first | rfl | simp [Cond.onTables, Cond.keeps, Cond.steady])) hini)
  obtain ⟨hx, hb, hml, ho, -⟩ := S
  intro T hT X
  obtain ⟨v, vm₁, ⟨U', l2, c2, s2⟩, hW₁, X', ⟨g', mk, t, L, e1, e2, hq, h1, hL, h2, h3⟩, st⟩ := vx_callSW X hx (hh := hh) (bytes := bytes) (maxL := maxL) (ret := ret) ho hl hstt hini hcode hy hK hg (hsize.trans hml.symm) (argsL := As) (rest := rest) (fun sig h => hn.trans (hlen sig h)) hstack hW (by rw [hb]; exact hdg)
    (fun vm₁ hW₁ => ⟨hf.1, hf.2, hp.2 (T.setVm vm₁) hT hW₁⟩)
  dsimp only [Pt.U, Pt.locs, Pt.cells, Pt.slots] at X' e1 e2 h1 h2 h3 st
  subst h1; subst h2; subst h3
  exact ⟨v, (T.setVm vm₁).calling g' mk As.toArray, t, U', L, hT, X', hL, e1, e2, hq, st⟩
theorem vx_lt {D : va_G} {cl : List vw_C} {ws : va_W} {H1 : Heap} (h : va_P D cl ws H1) {k : Nat} {q : Nat × va_E} (hk : ws[k]? = some q) : q.1 < H1.size := (h k q hk).lt
end VXS
/-! ===== END ===== -/
/-! ===== BEGIN methods with a table of their own: called by a name, returning or throwing ===== -/
section VXH
/-! vx_backW, vx_callVX, vx_callSX, vx_callVW, vx_runVW, vx_runVX, vx_runSX, vx_ofWH follow the same proofs as their sisters above (Free/Laws.lean, Shelf42/LK1.lean); vx_outP calls Shelf42/NT130.lean (outThrough). -/
section
variable {l : Launch} {R : Room} {p : Program} {e : Env} {below : List Frame} {s : State} {sargs : Array Value} {y : MethodName} {len W9 : Nat}
theorem vx_backW {ws : List Cond} {rm : Room} {Pc : Array Value → State → Prop} {Qc : Array Value → State → Outcome → State → Prop} {XC : String → State → State → Prop} {mc ms : Nat} {free : Addr → Prop} {bytes : ByteArray} {maxL : Nat} {ret : Option FieldType} {hh : List (Nat × Nat × Nat × Nat)}
    (hM : vx_Met l y ws rm Pc Qc XC mc ms free) (hblind : FrameBlind Pc) (hrc : rm.cells = mc) (hrs : rm.slots = ms)
    (hframes : rm.frames + 1 ≤ R.frames) (hlocals : W9 + (maxL + 11) + rm.locals ≤ R.locals)
    (hws : ∀ w ∈ ws, ∀ a' U, s.WarmedH U.vm → w.before a' U = true) (hcode : Cond.codeWith y bytes maxL ret hh ∈ ws) (hinit : ∀ a' U, s.WarmedH U.vm → (Cond.initialized y.cls).before a' U = true) :
    vx_Back l R p e below s sargs y len W9 (PreOf R mc ms Pc) (PostOf Qc mc ms free) (vx_Post XC mc ms free) := by
  intro m meth c A g ig mk a X hg hsize hdg hW hn hp
  have h1 : (headSpec ws rm).pre.before a A.U = true := atoms_intro fun w hw => hws w hw _ _ X.warmed
  have h2 : (Cond.codeWith y bytes maxL ret hh).before a A.U = true := hws _ hcode _ _ X.warmed
  have h3 : (Cond.initialized y.cls).before a A.U = true := hinit _ _ X.warmed
  have h4 : A.cells + (headSpec ws rm).room.cells ≤ R.cells := by rw [show (headSpec ws rm).room.cells = mc from hrc]; exact hp.1
  have h5 : A.slots + (headSpec ws rm).room.slots ≤ R.slots := by rw [show (headSpec ws rm).room.slots = ms from hrs]; exact hp.2.1
  have hPc : Pc a (A.U.calling g mk a) := hblind _ _ _ _ hp.2.2
  obtain ⟨U, Ls, c0, s0⟩ := A
  dsimp only [Pt.U, Pt.locs, Pt.cells, Pt.slots] at h1 h2 h3 h4 h5 X hn hPc ⊢
  obtain ⟨m9, methY, cY, hn9, hmY, hcY, -, hlY, -⟩ := Cond.codeWith_spec h2
  cases Option.some.inj (hn9.symm.trans hn)
  obtain ⟨kY, hkY, -⟩ := className_of_methodNamed hn
  have hinitY : kY.init = .initialized := Cond.initialized_spec (findClass_of_methodNamed hn) hkY h3
  have h : At U g.method c below := by rw [hg]; exact X.here
  have hlocals9 : W9 + (maxL + 11) + (headSpec ws rm).room.locals ≤ R.locals := hlocals
  have happ : (headSpec ws rm).appliesLoose y e.platform (U.calling g mk a) = true :=
    Spec.appliesLoose_calling (g := g) h hdg hn hkY hinitY
      (X.room_calling (g := g) (R' := (headSpec ws rm).room) hsize hmY hcY hframes (by rw [hlY]; omega) h4 h5) h1
  obtain ⟨mid, hmid⟩ := h.above
  have hfr : (U.setTop g).frames = (.java g :: mid) ++ below := by rw [State.frames_setTop' g h.top, hmid]; rfl
  obtain ⟨o, s₂, hsteps, -, hend, hq⟩ := Steps.callFree hM p X.admits X.cas X.clock (acts := []) hfr happ hPc trivial
  have hq' : vx_Q Qc XC mc ms free a (U.calling g mk a) o s₂ := hq
  rw [State.frames_setTop' g h.top] at hend
  obtain ⟨g₀, hg0⟩ := Option.isSome_iff_exists.mp h.top
  obtain ⟨r, hr⟩ := State.topJava?_eq_some.mp hg0
  have hr' : (({ U with heap := s₂.heap, slotsUsed := s₂.slotsUsed } : State).setVm s₂.vm).frames = .java g₀ :: r := hr
  rcases hq' with ⟨hqc, L, hfe, hL⟩ | ⟨q, rfl, E, ce, L, hx, hce, hcv, hcl, hW₂, hsm, hL⟩
  · obtain ⟨⟨v, rfl⟩, hW₂, e2, q2, q3, q4, q5, q6⟩ := id hfe
    have e3 : s₂ = ({ (U.calling g mk a).setFrames s₂.frames with heap := s₂.heap, slotsUsed := s₂.slotsUsed } : State).setVm s₂.vm := by
      have : s₂ = ({ s₂ with vm := (U.calling g mk a).vm } : State).setVm s₂.vm := rfl
      rw [e2] at this
      exact this
    obtain ⟨c₂, i₂, len₂, hc₂, hd₂, hf₂⟩ := hend
    have hW' : U.WarmedH s₂.vm := hW₂
    have hcc : c₂ = c := by
      have h1 : s₂.code? g.method = U.code? g.method := by
        rw [State.code?_eq, State.code?_eq, hW'.alike.method?]
      exact Option.some.inj (hc₂.symm.trans (h1.trans h.code))
    subst hcc
    have hlen : len₂ = len := by rw [hdg] at hd₂; cases hd₂; rfl
    subst hlen
    have hs₂ : s₂ = (({ U with heap := s₂.heap, slotsUsed := s₂.slotsUsed } : State).setVm s₂.vm).setTop { g with pc := g.pc + len₂, stack := v.toList ++ g.stack } := by
      refine e3.trans ?_
      rw [hf₂, State.calling_eq h.top, State.setFrames_setFrames, State.setTop_of_frames _ hr', hr]
      rfl
    have hsame : U.sameButNew ({ U with heap := s₂.heap, slotsUsed := s₂.slotsUsed } : State) L mc ms := by
      refine ⟨?_, q2, q3, q4, q5, q6⟩
      obtain ⟨t, ht, -⟩ := State.frames_cons hr
      show ({ U with heap := s₂.heap, slotsUsed := s₂.slotsUsed } : State) = { U.setFrames U.frames with heap := s₂.heap, slotsUsed := s₂.slotsUsed }
      rw [State.setFrames_self ht]
    subst hg
    refine Or.inl ⟨v, ⟨(({ U with heap := s₂.heap, slotsUsed := s₂.slotsUsed } : State).setVm s₂.vm), Ls ++ L, c0 + mc, s0 + ms⟩,
      ⟨X.admits, X.cas, X.clock, X.frames, X.room, X.hears, X.method, X.code, (X.here.setHeapUsed s₂.heap s₂.slotsUsed).setVm hW'.alike, X.tail, State.WarmedH.trans X.warmed hW', X.limits, X.bytes, X.same.trans (hsame.setVm s.vm)⟩,
      ⟨g, mk, s₂, L, rfl, rfl, hqc, rfl, hL, rfl, rfl⟩, ?_⟩
    show Steps p.tables e below _ ((({ U with heap := s₂.heap, slotsUsed := s₂.slotsUsed } : State).setVm s₂.vm).setTop { g with pc := g.pc + len₂, stack := v.toList ++ g.stack })
    rw [← hs₂]
    exact hsteps
  · obtain ⟨e2, q2, q3, q4, q5, q6⟩ := id hsm
    have e3 : s₂ = ({ (U.calling g mk a).setFrames s₂.frames with heap := s₂.heap, slotsUsed := s₂.slotsUsed } : State).setVm s₂.vm := by
      have : s₂ = ({ s₂ with vm := (U.calling g mk a).vm } : State).setVm s₂.vm := rfl
      rw [e2] at this
      exact this
    have hf₂ : s₂.frames = .throwing q :: .java g :: U.frames.tail := hend
    have hW' : U.WarmedH s₂.vm := hW₂
    have hs₂ : s₂ = ((({ U with heap := s₂.heap, slotsUsed := s₂.slotsUsed } : State).setVm s₂.vm).setTop g).pushFrame (.throwing q) := by
      refine e3.trans ?_
      rw [hf₂, State.calling_eq h.top, State.setFrames_setFrames, State.pushFrame, State.frames_setTop _ hr', State.setTop_of_frames _ hr', State.setFrames_setFrames, hr]
      rfl
    have hsame : U.sameButNew ({ U with heap := s₂.heap, slotsUsed := s₂.slotsUsed } : State) L mc ms := by
      refine ⟨?_, q2, q3, q4, q5, q6⟩
      obtain ⟨t, ht, -⟩ := State.frames_cons hr
      show ({ U with heap := s₂.heap, slotsUsed := s₂.slotsUsed } : State) = { U.setFrames U.frames with heap := s₂.heap, slotsUsed := s₂.slotsUsed }
      rw [State.setFrames_self ht]
    subst hg
    refine Or.inr ⟨q, ⟨(({ U with heap := s₂.heap, slotsUsed := s₂.slotsUsed } : State).setVm s₂.vm), Ls ++ L, c0 + mc, s0 + ms⟩,
      ⟨X.admits, X.cas, X.clock, X.frames, X.room, X.hears, X.method, X.code, (X.here.setHeapUsed s₂.heap s₂.slotsUsed).setVm hW'.alike, X.tail, State.WarmedH.trans X.warmed hW', X.limits, X.bytes, X.same.trans (hsame.setVm s.vm)⟩,
      ⟨g, mk, s₂, L, E, ce, rfl, rfl, hx, hce, hcv, hcl, rfl, hL, rfl, rfl⟩, ?_⟩
    show Steps p.tables e below _ (((({ U with heap := s₂.heap, slotsUsed := s₂.slotsUsed } : State).setVm s₂.vm).setTop g).pushFrame (.throwing q))
    rw [← hs₂]
    exact hsteps
end
variable {p : Program} {l : Launch} {e : Env} {R : Room} {s : State} {m : MethodId} {args : Array Value} {below : List Frame} {meth : Method} {c : Code} {T : State} {H : Heap} {locs : List Loc} {cells slots : Nat}
theorem vx_callVX (X : Stand p l e R s m args below meth c T locs cells slots) (hexec : p.tables.exec = Jvm.exec) {own C : String} {index : Nat} {y : MethodName} {bytes : ByteArray} {maxL : Nat} {ret : Option FieldType} {hh : List (Nat × Nat × Nat × Nat)}
    (hown : s.vm.findClass own = some m.cls) (hlink : (Cond.methodLink own index y).before args s = true) (hinst : (Cond.instanceMethod y).before args s = true) (hsel : (Cond.selects C y y).before args s = true)
    (hcode : (Cond.codeWith y bytes maxL ret hh).before args s = true) (hy : y.cls ≠ "java/lang/invoke/MethodHandle" ∧ y.cls ≠ "java/lang/invoke/VarHandle")
    {W9 : Nat} {Pre : Pt → Array Value → Prop} {Post : Pt → Array Value → Option Value → Pt → Prop} {PostX : Pt → Array Value → Addr → Pt → Prop} (hK : vx_Back l R p e below s args y 3 W9 Pre Post PostX)
    {b : Addr} {cellB : Cell} (hcell : T.heap[b]? = some cellB) (hobj : cellB.vm.isStatics = false) (hcls : s.vm.findClass C = some cellB.cls)
    {g : JFrame} (hg : g.method = m) (hsize : g.locals.size = c.maxLocals) {argsL rest : List Value} (hlen : ∀ sig, parseMethodDescriptor y.desc = some sig → argsL.length = sig.parameters.length)
    (hstack : g.stack = argsL.reverse ++ .ref b :: rest) (hW : 2 * g.monitorRoom + (rest.map fun v => v.category).sum ≤ W9) (hdg : decode c.code g.pc = .ok (.invokevirtual index, 3))
    (hpre : ∀ vm₁, s.WarmedH vm₁ → Pre ⟨T.setVm vm₁, locs, cells, slots⟩ (Value.ref b :: argsL).toArray) :
    (∃ (v : Option Value) (vm₁ : Vm) (B : Pt), s.WarmedH vm₁ ∧ Stand p l e R s m args below meth c B.U B.locs B.cells B.slots ∧ Post ⟨T.setVm vm₁, locs, cells, slots⟩ (Value.ref b :: argsL).toArray v B ∧
      ∀ target, Steps p.tables e below (B.U.setTop { g with pc := g.pc + 3, stack := v.toList ++ rest }) target → Steps p.tables e below (T.setTop g) target) ∨
    (∃ (q : Addr) (vm₁ : Vm) (B : Pt), s.WarmedH vm₁ ∧ Stand p l e R s m args below meth c B.U B.locs B.cells B.slots ∧ PostX ⟨T.setVm vm₁, locs, cells, slots⟩ (Value.ref b :: argsL).toArray q B ∧
      Steps p.tables e below (T.setTop g) ((B.U.setTop { g with stack := rest }).pushFrame (.throwing q))) := by
  obtain ⟨mk, methM, hnamed, hmethM, hstM, habM⟩ := Cond.instanceMethod_spec hinst
  obtain ⟨m8, methM', cM, hn8, hmethM', -, -, -, -, -, -, hsigM⟩ := Cond.codeWith_spec hcode
  cases Option.some.inj (hn8.symm.trans hnamed)
  cases hmethM.symm.trans hmethM'
  obtain ⟨c2, r2, m2, q1, q2, q3, q4, kP, hkP, hkPi⟩ := Cond.selects_spec hsel
  cases hcls.symm.trans q1
  cases (State.methodFound?_of_named hnamed hy).symm.trans q2
  cases hnamed.symm.trans q3
  have hselP : selectMethod e.platform s.vm cellB.cls mk = .method mk := by rw [Launch.admits_selectMethod X.admits]; exact q4
  obtain ⟨vm₁, X₁, hstep₁⟩ := X.invokevirtual hexec hown hlink hnamed hmethM hstM hkP hkPi hy (a := b) (cell := cellB) hcell
    (fun z h => by rw [h] at hobj; cases hobj) hselP hmethM habM hkP hkPi (g := g) hg (argsL := argsL) (rest := rest) (hlen _ hsigM) hstack hdg
  rcases hK m meth c ⟨T.setVm vm₁, locs, cells, slots⟩ { g with stack := rest } (.invokevirtual index) mk (Value.ref b :: argsL).toArray X₁ hg hsize hdg hW (X₁.named hnamed) (hpre vm₁ X₁.warmed) with ⟨v, B, X', hpost, hsteps⟩ | ⟨q, B, X', hpost, hsteps⟩
  · exact Or.inl ⟨v, vm₁, B, X₁.warmed, X', hpost, fun target h => hstep₁ _ fun acts => by rw [doInvoke_state]; exact hsteps.trans h⟩
  · exact Or.inr ⟨q, vm₁, B, X₁.warmed, X', hpost, hstep₁ _ fun acts => by rw [doInvoke_state]; exact hsteps⟩
theorem vx_callSX (X : Stand p l e R s m args below meth c T locs cells slots) (hexec : p.tables.exec = Jvm.exec) {own : String} {index : Nat} {y : MethodName} {bytes : ByteArray} {maxL : Nat} {ret : Option FieldType} {hh : List (Nat × Nat × Nat × Nat)}
    (hown : s.vm.findClass own = some m.cls) (hlink : (Cond.methodLink own index y).before args s = true) (hstat : (Cond.static y).before args s = true) (hinit : (Cond.initialized y.cls).before args s = true)
    (hcode : (Cond.codeWith y bytes maxL ret hh).before args s = true) (hy : y.cls ≠ "java/lang/invoke/MethodHandle" ∧ y.cls ≠ "java/lang/invoke/VarHandle")
    {W9 : Nat} {Pre : Pt → Array Value → Prop} {Post : Pt → Array Value → Option Value → Pt → Prop} {PostX : Pt → Array Value → Addr → Pt → Prop} (hK : vx_Back l R p e below s args y 3 W9 Pre Post PostX)
    {g : JFrame} (hg : g.method = m) (hsize : g.locals.size = c.maxLocals) {argsL rest : List Value} (hlen : ∀ sig, parseMethodDescriptor y.desc = some sig → argsL.length = sig.parameters.length)
    (hstack : g.stack = argsL.reverse ++ rest) (hW : 2 * g.monitorRoom + (rest.map fun v => v.category).sum ≤ W9) (hdg : decode c.code g.pc = .ok (.invokestatic index, 3))
    (hpre : ∀ vm₁, s.WarmedH vm₁ → Pre ⟨T.setVm vm₁, locs, cells, slots⟩ argsL.toArray) :
    (∃ (v : Option Value) (vm₁ : Vm) (B : Pt), s.WarmedH vm₁ ∧ Stand p l e R s m args below meth c B.U B.locs B.cells B.slots ∧ Post ⟨T.setVm vm₁, locs, cells, slots⟩ argsL.toArray v B ∧
      ∀ target, Steps p.tables e below (B.U.setTop { g with pc := g.pc + 3, stack := v.toList ++ rest }) target → Steps p.tables e below (T.setTop g) target) ∨
    (∃ (q : Addr) (vm₁ : Vm) (B : Pt), s.WarmedH vm₁ ∧ Stand p l e R s m args below meth c B.U B.locs B.cells B.slots ∧ PostX ⟨T.setVm vm₁, locs, cells, slots⟩ argsL.toArray q B ∧
      Steps p.tables e below (T.setTop g) ((B.U.setTop { g with stack := rest }).pushFrame (.throwing q))) := by
  obtain ⟨mk, methM, cM, hnamed, hmethM, -, -, -, -, -, -, hsigM⟩ := Cond.codeWith_spec hcode
  have hstatic : methM.isStatic = true := Cond.static_spec hnamed hmethM hstat
  obtain ⟨kP, hkP, -⟩ := className_of_methodNamed hnamed
  have hinitP : kP.init = .initialized := Cond.initialized_spec (findClass_of_methodNamed hnamed) hkP hinit
  obtain ⟨vm₁, X₁, hstep₁⟩ := X.invokestatic hexec hown hlink hnamed hmethM hstatic hkP hinitP hy (g := g) hg (argsL := argsL) (rest := rest) (hlen _ hsigM) hstack hdg
  rcases hK m meth c ⟨T.setVm vm₁, locs, cells, slots⟩ { g with stack := rest } (.invokestatic index) mk argsL.toArray X₁ hg hsize hdg hW (X₁.named hnamed) (hpre vm₁ X₁.warmed) with ⟨v, B, X', hpost, hsteps⟩ | ⟨q, B, X', hpost, hsteps⟩
  · exact Or.inl ⟨v, vm₁, B, X₁.warmed, X', hpost, fun target h => hstep₁ _ fun acts => by rw [doInvoke_state]; exact hsteps.trans h⟩
  · exact Or.inr ⟨q, vm₁, B, X₁.warmed, X', hpost, hstep₁ _ fun acts => by rw [doInvoke_state]; exact hsteps⟩
theorem vx_callVW (X : Stand p l e R s m args below meth c T locs cells slots) (hexec : p.tables.exec = Jvm.exec) {own C : String} {index : Nat} {y : MethodName} {bytes : ByteArray} {maxL : Nat} {ret : Option FieldType} {hh : List (Nat × Nat × Nat × Nat)}
    (hown : s.vm.findClass own = some m.cls) (hlink : (Cond.methodLink own index y).before args s = true) (hinst : (Cond.instanceMethod y).before args s = true) (hsel : (Cond.selects C y y).before args s = true)
    (hcode : (Cond.codeWith y bytes maxL ret hh).before args s = true) (hy : y.cls ≠ "java/lang/invoke/MethodHandle" ∧ y.cls ≠ "java/lang/invoke/VarHandle")
    {W9 : Nat} {Pre : Pt → Array Value → Prop} {Post : Pt → Array Value → Option Value → Pt → Prop} (hK : Back l R p e below s args y 3 W9 Pre Post)
    {b : Addr} {cellB : Cell} (hcell : T.heap[b]? = some cellB) (hobj : cellB.vm.isStatics = false) (hcls : s.vm.findClass C = some cellB.cls)
    {g : JFrame} (hg : g.method = m) (hsize : g.locals.size = c.maxLocals) {argsL rest : List Value} (hlen : ∀ sig, parseMethodDescriptor y.desc = some sig → argsL.length = sig.parameters.length)
    (hstack : g.stack = argsL.reverse ++ .ref b :: rest) (hW : 2 * g.monitorRoom + (rest.map fun v => v.category).sum ≤ W9) (hdg : decode c.code g.pc = .ok (.invokevirtual index, 3))
    (hpre : ∀ vm₁, s.WarmedH vm₁ → Pre ⟨T.setVm vm₁, locs, cells, slots⟩ (Value.ref b :: argsL).toArray) :
    ∃ (v : Option Value) (vm₁ : Vm) (B : Pt), s.WarmedH vm₁ ∧ Stand p l e R s m args below meth c B.U B.locs B.cells B.slots ∧ Post ⟨T.setVm vm₁, locs, cells, slots⟩ (Value.ref b :: argsL).toArray v B ∧
      ∀ target, Steps p.tables e below (B.U.setTop { g with pc := g.pc + 3, stack := v.toList ++ rest }) target → Steps p.tables e below (T.setTop g) target := by
  obtain ⟨mk, methM, hnamed, hmethM, hstM, habM⟩ := Cond.instanceMethod_spec hinst
  obtain ⟨m8, methM', cM, hn8, hmethM', -, -, -, -, -, -, hsigM⟩ := Cond.codeWith_spec hcode
  cases Option.some.inj (hn8.symm.trans hnamed)
  cases hmethM.symm.trans hmethM'
  obtain ⟨c2, r2, m2, q1, q2, q3, q4, kP, hkP, hkPi⟩ := Cond.selects_spec hsel
  cases hcls.symm.trans q1
  cases (State.methodFound?_of_named hnamed hy).symm.trans q2
  cases hnamed.symm.trans q3
  have hselP : selectMethod e.platform s.vm cellB.cls mk = .method mk := by rw [Launch.admits_selectMethod X.admits]; exact q4
  obtain ⟨vm₁, X₁, hstep₁⟩ := X.invokevirtual hexec hown hlink hnamed hmethM hstM hkP hkPi hy (a := b) (cell := cellB) hcell
    (fun z h => by rw [h] at hobj; cases hobj) hselP hmethM habM hkP hkPi (g := g) hg (argsL := argsL) (rest := rest) (hlen _ hsigM) hstack hdg
  obtain ⟨v, B, X', hpost, hsteps⟩ := hK m meth c ⟨T.setVm vm₁, locs, cells, slots⟩ { g with stack := rest } (.invokevirtual index) mk (Value.ref b :: argsL).toArray X₁ hg hsize hdg hW (X₁.named hnamed) (hpre vm₁ X₁.warmed)
  exact ⟨v, vm₁, B, X₁.warmed, X', hpost, fun target h => hstep₁ _ fun acts => by rw [doInvoke_state]; exact hsteps.trans h⟩
abbrev vx_CVW (R : Room) (s : State) (args : Array Value) (own C : String) (index : Nat) (y : MethodName) (bytes : ByteArray) (maxL : Nat) (ret : Option FieldType) (hh : List (Nat × Nat × Nat × Nat)) (ws : List Cond) (rm : Room) (mc ms n : Nat) : Prop :=
  (rm.cells = mc ∧ rm.slots = ms ∧ rm.frames + 1 ≤ R.frames ∧ 8 + (maxL + 11) + rm.locals ≤ R.locals ∧ (∀ w ∈ ws, ∀ (a' : Array Value) (U : State), s.WarmedH U.vm → w.before a' U = true) ∧ Cond.codeWith y bytes maxL ret hh ∈ ws) ∧
  (Cond.codeWith y bytes maxL ret hh).before args s = true ∧ (Cond.initialized y.cls).before args s = true ∧ (y.cls ≠ "java/lang/invoke/MethodHandle" ∧ y.cls ≠ "java/lang/invoke/VarHandle") ∧
  (∀ sig, parseMethodDescriptor y.desc = some sig → n = sig.parameters.length) ∧ (Cond.methodLink own index y).before args s = true ∧ (Cond.instanceMethod y).before args s = true ∧ (Cond.selects C y y).before args s = true
theorem vx_cwVW {own C : String} {index maxL mc ms : Nat} {y : MethodName} {bytes : ByteArray} {ret : Option FieldType} {hh : List (Nat × Nat × Nat × Nat)} {Ts ws ws' : List Cond} {rm : Room} (n : Nat) (ht : ∀ w ∈ Ts, w.before args s = true) (hT : GoodIn Ts (wsV own index C y ws)) (hw : ws = Cond.codeWith y bytes maxL ret hh :: ws') (hrc : rm.cells = mc) (hrs : rm.slots = ms)
    (hd : y.cls = C ∧ y.cls ≠ "java/lang/invoke/MethodHandle" ∧ y.cls ≠ "java/lang/invoke/VarHandle" ∧ (parseMethodDescriptor y.desc).map (fun d => d.parameters.length) = some n) (hR : rm.frames + 1 ≤ R.frames ∧ 8 + (maxL + 11) + rm.locals ≤ R.locals) :
    vx_CVW R s args own C index y bytes maxL ret hh ws rm mc ms n := by
  obtain ⟨hC, hd⟩ := hd
  subst hC
  have ok : ∀ w ∈ wsV own index y.cls y ws, w.before args s = true := fun w h => ht w (hT w h).1
  have hG : GoodIn Ts ws := fun w h => hT w (by unfold wsV; exact List.mem_append_right _ h)
  have hc : Cond.codeWith y bytes maxL ret hh ∈ ws := by rw [hw]; exact List.mem_cons_self
  refine ⟨⟨hrc, hrs, hR.1, hR.2, pay_in ht hG, hc⟩, ht _ (hG _ hc).1, ok _ (by simp [wsV]), ⟨hd.1, hd.2.1⟩, fun sig h => ?_, ok _ (by simp [wsV]), ok _ (by simp [wsV]), ok _ (by simp [wsV])⟩
  have h2 := hd.2.2
  rw [h] at h2
  exact (Option.some.inj h2).symm
theorem vx_runVW {y : MethodName} {bytes cc : ByteArray} {maxL nL mc ms n index : Nat} {ret : Option FieldType} {hh : List (Nat × Nat × Nat × Nat)} {ws : List Cond} {rm : Room} {Pc : Array Value → State → Prop} {Qc : Array Value → State → Outcome → State → Prop} {free : Addr → Prop} {Ts : List Cond} {own C : String} {b : Addr} {As rest : List Value} {g : JFrame}
    (S : CallFix p m c cc nL s args Ts own) (hM : Met l y ws rm Pc Qc mc ms free) (cw : vx_CVW R s args own C index y bytes maxL ret hh ws rm mc ms n) (hp : PreV s H C b Pc As)
    (hg : g.method = m) (hn : As.length = n) (hsize : g.locals.size = nL) (hstack : g.stack = As.reverse ++ .ref b :: rest) (hW : 2 * g.monitorRoom + (rest.map fun v => v.category).sum ≤ 8) (hdg : decode cc g.pc = .ok (.invokevirtual index, 3)) (hf : cells + mc ≤ R.cells ∧ slots + ms ≤ R.slots) :
    va_Run p l e R s m args below meth c H locs cells slots mc ms g rest (Qc (Value.ref b :: As).toArray) free := by
  obtain ⟨⟨hrc, hrs, hfr, hlo, hws, hcw⟩, hcode, hini, hy, hlen, hl, hin, hse⟩ := cw
  have hK : Back l R p e below s args y 3 8 (PreOf R mc ms Pc) (PostOf Qc mc ms free) := va_backW (hh := hh) (bytes := bytes) (maxL := maxL) (ret := ret) hM hp.1 hrc hrs hfr hlo hws hcw (fun a' U hW => word_at hW (Or.inl (by first | rfl | simp [Cond.onTables, Cond.keeps, Cond.steady])) hini)
  obtain ⟨hx, hb, hml, ho, -⟩ := S
  obtain ⟨-, ⟨cellB, hcB, hoB, hclB⟩, hPc⟩ := hp
  intro T hT X
  obtain ⟨v, vm₁, ⟨U', l2, c2, s2⟩, hW₁, X', ⟨g', mk, t, L, e1, e2, hq, h1, hL, h2, h3⟩, st⟩ := vx_callVW X hx (C := C) (hh := hh) (bytes := bytes) (maxL := maxL) (ret := ret) ho hl hin hse hcode hy hK (by rw [hT]; exact hcB) hoB hclB hg (hsize.trans hml.symm) (argsL := As) (rest := rest) (fun sig h => hn.trans (hlen sig h)) hstack hW (by rw [hb]; exact hdg)
    (fun vm₁ hW₁ => ⟨hf.1, hf.2, hPc (T.setVm vm₁) hT hW₁⟩)
  dsimp only [Pt.U, Pt.locs, Pt.cells, Pt.slots] at X' e1 e2 h1 h2 h3 st
  subst h1; subst h2; subst h3
  exact ⟨v, (T.setVm vm₁).calling g' mk (Value.ref b :: As).toArray, t, U', L, hT, X', hL, e1, e2, hq, st⟩
section
variable {y : MethodName} {bytes cc : ByteArray} {maxL nL mc ms n index : Nat} {ret : Option FieldType} {ws : List Cond} {rm : Room} {Pc : Array Value → State → Prop} {Qc : Array Value → State → Outcome → State → Prop} {XC : String → State → State → Prop} {free : Addr → Prop} {Ts : List Cond} {own C : String} {b : Addr} {As rest : List Value} {g : JFrame}
theorem vx_runVX {hh : List (Nat × Nat × Nat × Nat)} (S : CallFix p m c cc nL s args Ts own) (hM : vx_Met l y ws rm Pc Qc XC mc ms free) (cw : vx_CVW R s args own C index y bytes maxL ret hh ws rm mc ms n) (hp : PreV s H C b Pc As)
    (hg : g.method = m) (hn : As.length = n) (hsize : g.locals.size = nL) (hstack : g.stack = As.reverse ++ .ref b :: rest) (hW : 2 * g.monitorRoom + (rest.map fun v => v.category).sum ≤ 8) (hdg : decode cc g.pc = .ok (.invokevirtual index, 3)) (hf : cells + mc ≤ R.cells ∧ slots + ms ≤ R.slots) :
    vx_Run p l e R s m args below meth c H locs cells slots mc ms g rest (Qc (Value.ref b :: As).toArray) XC free := by
  obtain ⟨⟨hrc, hrs, hfr, hlo, hws, hcw⟩, hcode, hini, hy, hlen, hl, hin, hse⟩ := cw
  have hK : vx_Back l R p e below s args y 3 8 (PreOf R mc ms Pc) (PostOf Qc mc ms free) (vx_Post XC mc ms free) := vx_backW (hh := hh) (bytes := bytes) (maxL := maxL) (ret := ret) hM hp.1 hrc hrs hfr hlo hws hcw (fun a' U hW => word_at hW (Or.inl (by first | rfl | simp [Cond.onTables, Cond.keeps, Cond.steady])) hini)
  obtain ⟨hx, hb, hml, ho, -⟩ := S
  obtain ⟨-, ⟨cellB, hcB, hoB, hclB⟩, hPc⟩ := hp
  intro T hT X
  rcases vx_callVX X hx (C := C) (hh := hh) (bytes := bytes) (maxL := maxL) (ret := ret) ho hl hin hse hcode hy hK (by rw [hT]; exact hcB) hoB hclB hg (hsize.trans hml.symm) (argsL := As) (rest := rest) (fun sig h => hn.trans (hlen sig h)) hstack hW (by rw [hb]; exact hdg)
    (fun vm₁ hW₁ => ⟨hf.1, hf.2, hPc (T.setVm vm₁) hT hW₁⟩) with ⟨v, vm₁, ⟨U', l2, c2, s2⟩, hW₁, X', ⟨g', mk, t, L, e1, e2, hq, h1, hL, h2, h3⟩, st⟩ | ⟨q, vm₁, ⟨U', l2, c2, s2⟩, hW₁, X', ⟨g', mk, t, L, E, ce, e1, e2, hq, hce, hcv, hcl, h1, hL, h2, h3⟩, st⟩
  · dsimp only [Pt.U, Pt.locs, Pt.cells, Pt.slots] at X' e1 e2 h1 h2 h3 st
    subst h1; subst h2; subst h3
    exact Or.inl ⟨v, (T.setVm vm₁).calling g' mk (Value.ref b :: As).toArray, t, U', L, hT, X', hL, e1, e2, hq, st⟩
  · dsimp only [Pt.U, Pt.locs, Pt.cells, Pt.slots] at X' e1 e2 h1 h2 h3 st hcl
    subst h1; subst h2; subst h3
    exact Or.inr ⟨q, (T.setVm vm₁).calling g' mk (Value.ref b :: As).toArray, t, U', L, E, ce, hT, X', hL, e1, e2, hq, hce, hcv, vx_cls hW₁ hcl, st⟩
theorem vx_runSX {hh : List (Nat × Nat × Nat × Nat)} (S : CallFix p m c cc nL s args Ts own) (hM : vx_Met l y ws rm Pc Qc XC mc ms free) (cw : vx_CSW R s args own index y bytes maxL ret hh ws rm mc ms n) (hp : PreS s H Pc As)
    (hg : g.method = m) (hn : As.length = n) (hsize : g.locals.size = nL) (hstack : g.stack = As.reverse ++ rest) (hW : 2 * g.monitorRoom + (rest.map fun v => v.category).sum ≤ 8) (hdg : decode cc g.pc = .ok (.invokestatic index, 3)) (hf : cells + mc ≤ R.cells ∧ slots + ms ≤ R.slots) :
    vx_Run p l e R s m args below meth c H locs cells slots mc ms g rest (Qc As.toArray) XC free := by
  obtain ⟨⟨hrc, hrs, hfr, hlo, hws, hcw⟩, hcode, hini, hy, hlen, hl, hstt⟩ := cw
  have hK : vx_Back l R p e below s args y 3 8 (PreOf R mc ms Pc) (PostOf Qc mc ms free) (vx_Post XC mc ms free) := vx_backW (hh := hh) (bytes := bytes) (maxL := maxL) (ret := ret) hM hp.1 hrc hrs hfr hlo hws hcw (fun a' U hW => word_at hW (Or.inl (by first | rfl | simp [Cond.onTables, Cond.keeps, Cond.steady])) hini)
  obtain ⟨hx, hb, hml, ho, -⟩ := S
  intro T hT X
  rcases vx_callSX X hx (hh := hh) (bytes := bytes) (maxL := maxL) (ret := ret) ho hl hstt hini hcode hy hK hg (hsize.trans hml.symm) (argsL := As) (rest := rest) (fun sig h => hn.trans (hlen sig h)) hstack hW (by rw [hb]; exact hdg)
    (fun vm₁ hW₁ => ⟨hf.1, hf.2, hp.2 (T.setVm vm₁) hT hW₁⟩) with ⟨v, vm₁, ⟨U', l2, c2, s2⟩, hW₁, X', ⟨g', mk, t, L, e1, e2, hq, h1, hL, h2, h3⟩, st⟩ | ⟨q, vm₁, ⟨U', l2, c2, s2⟩, hW₁, X', ⟨g', mk, t, L, E, ce, e1, e2, hq, hce, hcv, hcl, h1, hL, h2, h3⟩, st⟩
  · dsimp only [Pt.U, Pt.locs, Pt.cells, Pt.slots] at X' e1 e2 h1 h2 h3 st
    subst h1; subst h2; subst h3
    exact Or.inl ⟨v, (T.setVm vm₁).calling g' mk As.toArray, t, U', L, hT, X', hL, e1, e2, hq, st⟩
  · dsimp only [Pt.U, Pt.locs, Pt.cells, Pt.slots] at X' e1 e2 h1 h2 h3 st hcl
    subst h1; subst h2; subst h3
    exact Or.inr ⟨q, (T.setVm vm₁).calling g' mk As.toArray, t, U', L, E, ce, hT, X', hL, e1, e2, hq, hce, hcv, vx_cls hW₁ hcl, st⟩
end
end VXH
theorem vx_ofWH {l : Launch} {y : MethodName} {ws ws' : List Cond} {rm : Room} {Pc : Array Value → State → Prop} {Qc : Array Value → State → Outcome → State → Prop} {XC : String → State → State → Prop} {mc ms : Nat} {free : Addr → Prop} {cc : ByteArray} {maxL : Nat} {ret : Option FieldType} {hh : List (Nat × Nat × Nat × Nat)}
    (hy : plainName y.cls = true) (hw : ws = Cond.codeWith y cc maxL ret hh :: ws')
    (body : ∀ p e s m args below meth c s₁, BodyLoose p l y (headSpec ws rm) cc maxL ret e s m args below meth c s₁ → c.maxLocals = maxL → Pc args s →
      W p l e (headSpec ws rm).room s m args below meth c s.heap [] 0 0 (vx_MQ below Qc XC args s mc ms free) (entryFrame m args maxL)) : vx_Met l y ws rm Pc Qc XC mc ms free := by
  refine MetFree.of_bodyS (code := cc) (maxLocals := maxL) (ret := ret) hy ?_ ?_
  · intro args s m h hn
    obtain ⟨m9, meth, c, hn9, h1, h2, h3, h4, -, h5, h6, -⟩ := Cond.codeWith_spec (atoms_spec (ws := ws) h _ (by rw [hw]; exact List.mem_cons_self))
    cases hn.symm.trans hn9
    exact ⟨meth, c, h1, h2, h3, h4, h5, h6⟩
  · intro p e s m args below meth c s₁ B hml hP _
    have hh0 : s₁.heap = s.heap := by rw [B.state]; rfl
    obtain ⟨t, a1, o, b1, b2, b3⟩ := body p e s m args below meth c s₁ B hml hP s₁ hh0 (Stand.of_body B)
    exact ⟨t, o, a1, b1, b2, b3⟩
/-! ===== END ===== -/
end
section
def RX0 : String := "GlobRows$Answer"
def TX0 : u_T := fun k => match k with
  | 0 => ("GlobRows$Answer", "count", "I", false)
  | 1 => ("GlobRows$Answer", "counted", "I", false)
  | 2 => ("GlobRows$Answer", "letters", "[C", true)
  | _ => ("GlobRows$Answer", "lengths", "[I", true)
def tyX0 : Nat → FieldType := fun k => match k with
  | 0 => .int
  | 1 => .int
  | 2 => .array .char
  | _ => .array .int
abbrev wsX00 : List Cond := u_ws RX0 TX0 4
theorem nmX0 : ∀ a, a < 4 → ∀ b, b < 4 → a ≠ b → (TX0 a).2.1 ≠ (TX0 b).2.1 := by decide +kernel
theorem tyX0_ok : ∀ k, k < 4 → parseFieldDescriptor (TX0 k).2.2.1 = some (tyX0 k) := by decide +kernel
abbrev cX0_init : ByteArray := prog_2_method_1_code
def yX0_init : MethodName := ⟨RX0, "<init>", "()V"⟩
abbrev cX0_clear : ByteArray := prog_2_method_2_code
def yX0_clear : MethodName := ⟨RX0, "clear", "()V"⟩
abbrev cX0_add : ByteArray := prog_2_method_3_code
def yX0_add : MethodName := ⟨RX0, "add", "(Ljava/lang/StringBuilder;)V"⟩
abbrev cX0_letter : ByteArray := prog_2_method_4_code
def yX0_letter : MethodName := ⟨RX0, "letter", "(II)I"⟩
def RX1 : String := "GlobRows$Node"
def TX1 : u_T := fun k => match k with
  | 0 => ("GlobRows$Node", "name", "Ljava/lang/String;", true)
  | 1 => ("GlobRows$Node", "parent", "LGlobRows$Node;", true)
  | 2 => ("GlobRows$Node", "isFolder", "Z", true)
  | 3 => ("GlobRows$Node", "children", "Ljava/util/ArrayList;", true)
  | 4 => ("GlobRows$Node", "seen", "[I", true)
  | _ => ("GlobRows$Node", "isPackage", "Z", false)
def tyX1 : Nat → FieldType := fun k => match k with
  | 0 => .object "java/lang/String"
  | 1 => .object "GlobRows$Node"
  | 2 => .boolean
  | 3 => .object "java/util/ArrayList"
  | 4 => .array .int
  | _ => .boolean
abbrev wsX10 : List Cond := u_ws RX1 TX1 6
theorem nmX1 : ∀ a, a < 6 → ∀ b, b < 6 → a ≠ b → (TX1 a).2.1 ≠ (TX1 b).2.1 := by decide +kernel
theorem tyX1_ok : ∀ k, k < 6 → parseFieldDescriptor (TX1 k).2.2.1 = some (tyX1 k) := by decide +kernel
abbrev cX1_init : ByteArray := prog_3_method_1_code
def yX1_init : MethodName := ⟨RX1, "<init>", "(Ljava/lang/String;LGlobRows$Node;Z)V"⟩
abbrev cX1_child : ByteArray := prog_3_method_2_code
def yX1_child : MethodName := ⟨RX1, "child", "(Ljava/lang/String;)LGlobRows$Node;"⟩
abbrev cX1_insert : ByteArray := prog_3_method_3_code
def yX1_insert : MethodName := ⟨RX1, "insert", "(LGlobRows$Node;)V"⟩
abbrev cX1_drop : ByteArray := prog_3_method_4_code
def yX1_drop : MethodName := ⟨RX1, "drop", "(LGlobRows$Node;)V"⟩
abbrev cX1_touch : ByteArray := prog_3_method_5_code
def yX1_touch : MethodName := ⟨RX1, "touch", "()V"⟩
abbrev cX1_comesBefore : ByteArray := prog_3_method_6_code
def yX1_comesBefore : MethodName := ⟨RX1, "comesBefore", "(Ljava/lang/String;Ljava/lang/String;)Z"⟩
def RX2 : String := "GlobRows$Part"
def TX2 : u_T := fun k => match k with
  | _ => ("GlobRows$Part", "letters", "Ljava/lang/String;", true)
def tyX2 : Nat → FieldType := fun k => match k with
  | _ => .object "java/lang/String"
abbrev wsX20 : List Cond := u_ws RX2 TX2 1
theorem nmX2 : ∀ a, a < 1 → ∀ b, b < 1 → a ≠ b → (TX2 a).2.1 ≠ (TX2 b).2.1 := by decide +kernel
theorem tyX2_ok : ∀ k, k < 1 → parseFieldDescriptor (TX2 k).2.2.1 = some (tyX2 k) := by decide +kernel
abbrev cX2_init : ByteArray := prog_4_method_1_code
def yX2_init : MethodName := ⟨RX2, "<init>", "(Ljava/lang/String;)V"⟩
def RX3 : String := "GlobRows$Path"
def TX3 : u_T := fun k => match k with
  | 0 => ("GlobRows$Path", "text", "Ljava/lang/String;", true)
  | 1 => ("GlobRows$Path", "starts", "[I", true)
  | 2 => ("GlobRows$Path", "ends", "[I", true)
  | _ => ("GlobRows$Path", "count", "I", false)
def tyX3 : Nat → FieldType := fun k => match k with
  | 0 => .object "java/lang/String"
  | 1 => .array .int
  | 2 => .array .int
  | _ => .int
abbrev wsX30 : List Cond := u_ws RX3 TX3 4
theorem nmX3 : ∀ a, a < 4 → ∀ b, b < 4 → a ≠ b → (TX3 a).2.1 ≠ (TX3 b).2.1 := by decide +kernel
theorem tyX3_ok : ∀ k, k < 4 → parseFieldDescriptor (TX3 k).2.2.1 = some (tyX3 k) := by decide +kernel
abbrev cX3_init : ByteArray := prog_5_method_1_code
def yX3_init : MethodName := ⟨RX3, "<init>", "(Ljava/lang/String;)V"⟩
abbrev cX3_read : ByteArray := prog_5_method_2_code
def yX3_read : MethodName := ⟨RX3, "read", "(Ljava/lang/String;)LGlobRows$Path;"⟩
abbrev cX3_add : ByteArray := prog_5_method_3_code
def yX3_add : MethodName := ⟨RX3, "add", "(II)Z"⟩
abbrev cX3_isName : ByteArray := prog_5_method_4_code
def yX3_isName : MethodName := ⟨RX3, "isName", "(Ljava/lang/String;)Z"⟩
abbrev cX3_name : ByteArray := prog_5_method_5_code
def yX3_name : MethodName := ⟨RX3, "name", "(I)Ljava/lang/String;"⟩
def RX4 : String := "GlobRows$Pattern"
def TX4 : u_T := fun k => match k with
  | 0 => ("GlobRows$Pattern", "leavesOut", "Z", true)
  | 1 => ("GlobRows$Pattern", "wantsFolders", "Z", false)
  | 2 => ("GlobRows$Pattern", "pieces", "Ljava/util/ArrayList;", true)
  | 3 => ("GlobRows$Pattern", "states", "[I", true)
  | _ => ("GlobRows$Pattern", "deeps", "I", false)
def tyX4 : Nat → FieldType := fun k => match k with
  | 0 => .boolean
  | 1 => .boolean
  | 2 => .object "java/util/ArrayList"
  | 3 => .array .int
  | _ => .int
abbrev wsX40 : List Cond := u_ws RX4 TX4 5
theorem nmX4 : ∀ a, a < 5 → ∀ b, b < 5 → a ≠ b → (TX4 a).2.1 ≠ (TX4 b).2.1 := by decide +kernel
theorem tyX4_ok : ∀ k, k < 5 → parseFieldDescriptor (TX4 k).2.2.1 = some (tyX4 k) := by decide +kernel
abbrev cX4_init : ByteArray := prog_6_method_1_code
def yX4_init : MethodName := ⟨RX4, "<init>", "(Z)V"⟩
abbrev cX4_isFull : ByteArray := prog_6_method_2_code
def yX4_isFull : MethodName := ⟨RX4, "isFull", "()Z"⟩
abbrev cX4_endsDeep : ByteArray := prog_6_method_3_code
def yX4_endsDeep : MethodName := ⟨RX4, "endsDeep", "()Z"⟩
abbrev cX4_add : ByteArray := prog_6_method_4_code
def yX4_add : MethodName := ⟨RX4, "add", "(LGlobRows$Piece;)V"⟩
abbrev cX4_begin : ByteArray := prog_6_method_5_code
def yX4_begin : MethodName := ⟨RX4, "begin", "()V"⟩
abbrev cX4_pass : ByteArray := prog_6_method_6_code
def yX4_pass : MethodName := ⟨RX4, "pass", "(Ljava/lang/String;I)V"⟩
abbrev cX4_fits : ByteArray := prog_6_method_7_code
def yX4_fits : MethodName := ⟨RX4, "fits", "(ZI)Z"⟩
abbrev cX4_goesOn : ByteArray := prog_6_method_8_code
def yX4_goesOn : MethodName := ⟨RX4, "goesOn", "(I)Z"⟩
abbrev cX4_statesAt : ByteArray := prog_6_method_9_code
def yX4_statesAt : MethodName := ⟨RX4, "statesAt", "(I)I"⟩
def RX5 : String := "GlobRows$PatternReader"
def TX5 : u_T := fun k => match k with
  | 0 => ("GlobRows$PatternReader", "pattern", "LGlobRows$Pattern;", true)
  | 1 => ("GlobRows$PatternReader", "illAt", "I", false)
  | 2 => ("GlobRows$PatternReader", "text", "Ljava/lang/String;", true)
  | _ => ("GlobRows$PatternReader", "at", "I", false)
def tyX5 : Nat → FieldType := fun k => match k with
  | 0 => .object "GlobRows$Pattern"
  | 1 => .int
  | 2 => .object "java/lang/String"
  | _ => .int
abbrev wsX50 : List Cond := u_ws RX5 TX5 4
theorem nmX5 : ∀ a, a < 4 → ∀ b, b < 4 → a ≠ b → (TX5 a).2.1 ≠ (TX5 b).2.1 := by decide +kernel
theorem tyX5_ok : ∀ k, k < 4 → parseFieldDescriptor (TX5 k).2.2.1 = some (tyX5 k) := by decide +kernel
abbrev cX5_init : ByteArray := prog_7_method_1_code
def yX5_init : MethodName := ⟨RX5, "<init>", "(Ljava/lang/String;Z)V"⟩
abbrev cX5_read : ByteArray := prog_7_method_2_code
def yX5_read : MethodName := ⟨RX5, "read", "()V"⟩
abbrev cX5_passSlash : ByteArray := prog_7_method_3_code
def yX5_passSlash : MethodName := ⟨RX5, "passSlash", "()Z"⟩
abbrev cX5_readPiece : ByteArray := prog_7_method_4_code
def yX5_readPiece : MethodName := ⟨RX5, "readPiece", "()V"⟩
abbrev cX5_readDeepPiece : ByteArray := prog_7_method_5_code
def yX5_readDeepPiece : MethodName := ⟨RX5, "readDeepPiece", "()V"⟩
abbrev cX5_readPlainPiece : ByteArray := prog_7_method_6_code
def yX5_readPlainPiece : MethodName := ⟨RX5, "readPlainPiece", "()V"⟩
abbrev cX5_isInPiece : ByteArray := prog_7_method_7_code
def yX5_isInPiece : MethodName := ⟨RX5, "isInPiece", "()Z"⟩
abbrev cX5_readPart : ByteArray := prog_7_method_8_code
def yX5_readPart : MethodName := ⟨RX5, "readPart", "(LGlobRows$Piece;)V"⟩
abbrev cX5_readSet : ByteArray := prog_7_method_9_code
def yX5_readSet : MethodName := ⟨RX5, "readSet", "(LGlobRows$Piece;)V"⟩
def RX6 : String := "GlobRows$Piece"
def TX6 : u_T := fun k => match k with
  | 0 => ("GlobRows$Piece", "isDeep", "Z", true)
  | 1 => ("GlobRows$Piece", "parts", "Ljava/util/ArrayList;", true)
  | _ => ("GlobRows$Piece", "stars", "I", false)
def tyX6 : Nat → FieldType := fun k => match k with
  | 0 => .boolean
  | 1 => .object "java/util/ArrayList"
  | _ => .int
abbrev wsX60 : List Cond := u_ws RX6 TX6 3
theorem nmX6 : ∀ a, a < 3 → ∀ b, b < 3 → a ≠ b → (TX6 a).2.1 ≠ (TX6 b).2.1 := by decide +kernel
theorem tyX6_ok : ∀ k, k < 3 → parseFieldDescriptor (TX6 k).2.2.1 = some (tyX6 k) := by decide +kernel
abbrev cX6_init : ByteArray := prog_8_method_1_code
def yX6_init : MethodName := ⟨RX6, "<init>", "(Z)V"⟩
abbrev cX6_isFull : ByteArray := prog_8_method_2_code
def yX6_isFull : MethodName := ⟨RX6, "isFull", "()Z"⟩
abbrev cX6_addStar : ByteArray := prog_8_method_3_code
def yX6_addStar : MethodName := ⟨RX6, "addStar", "()V"⟩
abbrev cX6_addLetters : ByteArray := prog_8_method_4_code
def yX6_addLetters : MethodName := ⟨RX6, "addLetters", "(Ljava/lang/String;)V"⟩
abbrev cX6_fits : ByteArray := prog_8_method_5_code
def yX6_fits : MethodName := ⟨RX6, "fits", "(Ljava/lang/String;)Z"⟩
abbrev cX6_behind : ByteArray := prog_8_method_6_code
def yX6_behind : MethodName := ⟨RX6, "behind", "(IC)I"⟩
def RX7 : String := "GlobRows$Query"
def TX7 : u_T := fun k => match k with
  | 0 => ("GlobRows$Query", "path", "LGlobRows$Path;", true)
  | 1 => ("GlobRows$Query", "number", "I", true)
  | 2 => ("GlobRows$Query", "patterns", "Ljava/util/ArrayList;", true)
  | _ => ("GlobRows$Query", "round", "I", false)
def tyX7 : Nat → FieldType := fun k => match k with
  | 0 => .object "GlobRows$Path"
  | 1 => .int
  | 2 => .object "java/util/ArrayList"
  | _ => .int
abbrev wsX70 : List Cond := u_ws RX7 TX7 4
theorem nmX7 : ∀ a, a < 4 → ∀ b, b < 4 → a ≠ b → (TX7 a).2.1 ≠ (TX7 b).2.1 := by decide +kernel
theorem tyX7_ok : ∀ k, k < 4 → parseFieldDescriptor (TX7 k).2.2.1 = some (tyX7 k) := by decide +kernel
abbrev cX7_init : ByteArray := prog_9_method_1_code
def yX7_init : MethodName := ⟨RX7, "<init>", "(LGlobRows$Path;I)V"⟩
abbrev cX7_hasRoomFor : ByteArray := prog_9_method_2_code
def yX7_hasRoomFor : MethodName := ⟨RX7, "hasRoomFor", "(Z)Z"⟩
abbrev cX7_add : ByteArray := prog_9_method_3_code
def yX7_add : MethodName := ⟨RX7, "add", "(LGlobRows$Pattern;)V"⟩
abbrev cX7_beginRound : ByteArray := prog_9_method_4_code
def yX7_beginRound : MethodName := ⟨RX7, "beginRound", "()V"⟩
abbrev cX7_looksAnewAt : ByteArray := prog_9_method_5_code
def yX7_looksAnewAt : MethodName := ⟨RX7, "looksAnewAt", "(LGlobRows$Node;)Z"⟩
abbrev cX7_pass : ByteArray := prog_9_method_6_code
def yX7_pass : MethodName := ⟨RX7, "pass", "(Ljava/lang/String;I)V"⟩
abbrev cX7_takes : ByteArray := prog_9_method_7_code
def yX7_takes : MethodName := ⟨RX7, "takes", "(ZI)Z"⟩
abbrev cX7_fitsOne : ByteArray := prog_9_method_8_code
def yX7_fitsOne : MethodName := ⟨RX7, "fitsOne", "(ZZI)Z"⟩
abbrev cX7_goesOn : ByteArray := prog_9_method_9_code
def yX7_goesOn : MethodName := ⟨RX7, "goesOn", "(I)Z"⟩
def RX8 : String := "GlobRows$Tree"
def TX8 : u_T := fun k => match k with
  | 0 => ("GlobRows$Tree", "root", "LGlobRows$Node;", true)
  | _ => ("GlobRows$Tree", "nodes", "I", false)
def tyX8 : Nat → FieldType := fun k => match k with
  | 0 => .object "GlobRows$Node"
  | _ => .int
abbrev wsX80 : List Cond := u_ws RX8 TX8 2
theorem nmX8 : ∀ a, a < 2 → ∀ b, b < 2 → a ≠ b → (TX8 a).2.1 ≠ (TX8 b).2.1 := by decide +kernel
theorem tyX8_ok : ∀ k, k < 2 → parseFieldDescriptor (TX8 k).2.2.1 = some (tyX8 k) := by decide +kernel
abbrev cX8_init : ByteArray := prog_10_method_1_code
def yX8_init : MethodName := ⟨RX8, "<init>", "()V"⟩
abbrev cX8_at : ByteArray := prog_10_method_2_code
def yX8_at : MethodName := ⟨RX8, "at", "(LGlobRows$Path;)LGlobRows$Node;"⟩
abbrev cX8_make : ByteArray := prog_10_method_3_code
def yX8_make : MethodName := ⟨RX8, "make", "(LGlobRows$Path;Z)I"⟩
abbrev cX8_cut : ByteArray := prog_10_method_4_code
def yX8_cut : MethodName := ⟨RX8, "cut", "(LGlobRows$Node;)I"⟩
abbrev cX8_size : ByteArray := prog_10_method_5_code
def yX8_size : MethodName := ⟨RX8, "size", "(LGlobRows$Node;I)I"⟩
def RX9 : String := "GlobRows$Walk"
def TX9 : u_T := fun k => match k with
  | 0 => ("GlobRows$Walk", "answer", "LGlobRows$Answer;", true)
  | _ => ("GlobRows$Walk", "path", "Ljava/lang/StringBuilder;", true)
def tyX9 : Nat → FieldType := fun k => match k with
  | 0 => .object "GlobRows$Answer"
  | _ => .object "java/lang/StringBuilder"
abbrev wsX90 : List Cond := u_ws RX9 TX9 2
theorem nmX9 : ∀ a, a < 2 → ∀ b, b < 2 → a ≠ b → (TX9 a).2.1 ≠ (TX9 b).2.1 := by decide +kernel
theorem tyX9_ok : ∀ k, k < 2 → parseFieldDescriptor (TX9 k).2.2.1 = some (tyX9 k) := by decide +kernel
abbrev cX9_init : ByteArray := prog_11_method_1_code
def yX9_init : MethodName := ⟨RX9, "<init>", "()V"⟩
abbrev cX9_lookInto : ByteArray := prog_11_method_2_code
def yX9_lookInto : MethodName := ⟨RX9, "lookInto", "(LGlobRows$Query;LGlobRows$Node;I)V"⟩
abbrev cX9_passBy : ByteArray := prog_11_method_3_code
def yX9_passBy : MethodName := ⟨RX9, "passBy", "(LGlobRows$Query;LGlobRows$Node;I)V"⟩
def RX10 : String := "GlobRows"
def TX10 : u_T := fun k => match k with
  | 0 => ("GlobRows", "text", "Ljava/lang/StringBuilder;", true)
  | 1 => ("GlobRows", "tree", "LGlobRows$Tree;", true)
  | 2 => ("GlobRows", "queries", "Ljava/util/ArrayList;", true)
  | 3 => ("GlobRows", "walk", "LGlobRows$Walk;", true)
  | _ => ("GlobRows", "illAt", "I", false)
def tyX10 : Nat → FieldType := fun k => match k with
  | 0 => .object "java/lang/StringBuilder"
  | 1 => .object "GlobRows$Tree"
  | 2 => .object "java/util/ArrayList"
  | 3 => .object "GlobRows$Walk"
  | _ => .int
abbrev wsX100 : List Cond := u_ws RX10 TX10 5
theorem nmX10 : ∀ a, a < 5 → ∀ b, b < 5 → a ≠ b → (TX10 a).2.1 ≠ (TX10 b).2.1 := by decide +kernel
theorem tyX10_ok : ∀ k, k < 5 → parseFieldDescriptor (TX10 k).2.2.1 = some (tyX10 k) := by decide +kernel
abbrev cX10_init : ByteArray := prog_1_method_1_code
def yX10_init : MethodName := ⟨RX10, "<init>", "()V"⟩
abbrev cX10_type : ByteArray := prog_1_method_2_code
def yX10_type : MethodName := ⟨RX10, "type", "(C)Z"⟩
abbrev cX10_file : ByteArray := prog_1_method_3_code
def yX10_file : MethodName := ⟨RX10, "file", "()I"⟩
abbrev cX10_folder : ByteArray := prog_1_method_4_code
def yX10_folder : MethodName := ⟨RX10, "folder", "()I"⟩
abbrev cX10_remove : ByteArray := prog_1_method_5_code
def yX10_remove : MethodName := ⟨RX10, "remove", "()I"⟩
abbrev cX10_pack : ByteArray := prog_1_method_6_code
def yX10_pack : MethodName := ⟨RX10, "pack", "(Z)V"⟩
abbrev cX10_query : ByteArray := prog_1_method_7_code
def yX10_query : MethodName := ⟨RX10, "query", "()I"⟩
abbrev cX10_pattern : ByteArray := prog_1_method_8_code
def yX10_pattern : MethodName := ⟨RX10, "pattern", "(IZ)V"⟩
abbrev cX10_place : ByteArray := prog_1_method_9_code
def yX10_place : MethodName := ⟨RX10, "place", "()I"⟩
abbrev cX10_ask : ByteArray := prog_1_method_10_code
def yX10_ask : MethodName := ⟨RX10, "ask", "(I)I"⟩
abbrev cX10_looked : ByteArray := prog_1_method_11_code
def yX10_looked : MethodName := ⟨RX10, "looked", "()I"⟩
abbrev cX10_answer : ByteArray := prog_1_method_12_code
def yX10_answer : MethodName := ⟨RX10, "answer", "(II)I"⟩
abbrev cX10_takeText : ByteArray := prog_1_method_13_code
def yX10_takeText : MethodName := ⟨RX10, "takeText", "()Ljava/lang/String;"⟩
abbrev cX10_takePath : ByteArray := prog_1_method_14_code
def yX10_takePath : MethodName := ⟨RX10, "takePath", "()LGlobRows$Path;"⟩
abbrev cX10_queryAt : ByteArray := prog_1_method_15_code
def yX10_queryAt : MethodName := ⟨RX10, "queryAt", "(I)LGlobRows$Query;"⟩
abbrev cX10_isLetter : ByteArray := prog_1_method_16_code
def yX10_isLetter : MethodName := ⟨RX10, "isLetter", "(C)Z"⟩
abbrev cX10_isDots : ByteArray := prog_1_method_17_code
def yX10_isDots : MethodName := ⟨RX10, "isDots", "(Ljava/lang/String;)Z"⟩
abbrev cX10_withSkipped : ByteArray := prog_1_method_18_code
def yX10_withSkipped : MethodName := ⟨RX10, "withSkipped", "(II)I"⟩
def RX11 : String := "GlobRowsModel"
def TX11 : u_T := fun k => match k with
  | 0 => ("GlobRowsModel", "thrown", "I", false)
  | 1 => ("GlobRowsModel", "text", "[B", true)
  | 2 => ("GlobRowsModel", "textSize", "I", false)
  | 3 => ("GlobRowsModel", "names", "I", false)
  | 4 => ("GlobRowsModel", "wordAt", "[I", true)
  | 5 => ("GlobRowsModel", "wordSize", "[I", true)
  | 6 => ("GlobRowsModel", "kind", "[I", true)
  | 7 => ("GlobRowsModel", "around", "[I", true)
  | 8 => ("GlobRowsModel", "nameSize", "[I", true)
  | 9 => ("GlobRowsModel", "touched", "[I", true)
  | 10 => ("GlobRowsModel", "own", "[I", true)
  | 11 => ("GlobRowsModel", "packed", "[Z", true)
  | 12 => ("GlobRowsModel", "name", "[B", true)
  | 13 => ("GlobRowsModel", "made", "I", false)
  | 14 => ("GlobRowsModel", "changes", "I", false)
  | 15 => ("GlobRowsModel", "queries", "I", false)
  | 16 => ("GlobRowsModel", "packageSize", "[I", true)
  | 17 => ("GlobRowsModel", "takesIn", "[I", true)
  | 18 => ("GlobRowsModel", "leavesOut", "[I", true)
  | 19 => ("GlobRowsModel", "askedAt", "[I", true)
  | 20 => ("GlobRowsModel", "patternSize", "[I", true)
  | 21 => ("GlobRowsModel", "packagePath", "[B", true)
  | 22 => ("GlobRowsModel", "patterns", "[B", true)
  | 23 => ("GlobRowsModel", "anew", "[Z", true)
  | 24 => ("GlobRowsModel", "seen", "[I", true)
  | 25 => ("GlobRowsModel", "place", "I", false)
  | 26 => ("GlobRowsModel", "lookedMany", "I", false)
  | 27 => ("GlobRowsModel", "answers", "I", false)
  | 28 => ("GlobRowsModel", "answerSize", "[I", true)
  | 29 => ("GlobRowsModel", "answerPath", "[B", true)
  | 30 => ("GlobRowsModel", "level", "I", false)
  | 31 => ("GlobRowsModel", "folder", "[I", true)
  | 32 => ("GlobRowsModel", "last", "[I", true)
  | 33 => ("GlobRowsModel", "pathEnd", "[I", true)
  | 34 => ("GlobRowsModel", "trail", "[I", true)
  | 35 => ("GlobRowsModel", "path", "[B", true)
  | 36 => ("GlobRowsModel", "gone", "I", false)
  | 37 => ("GlobRowsModel", "typed", "[B", true)
  | _ => ("GlobRowsModel", "now", "[I", true)
def tyX11 : Nat → FieldType := fun k => match k with
  | 0 => .int
  | 1 => .array .byte
  | 2 => .int
  | 3 => .int
  | 4 => .array .int
  | 5 => .array .int
  | 6 => .array .int
  | 7 => .array .int
  | 8 => .array .int
  | 9 => .array .int
  | 10 => .array .int
  | 11 => .array .boolean
  | 12 => .array .byte
  | 13 => .int
  | 14 => .int
  | 15 => .int
  | 16 => .array .int
  | 17 => .array .int
  | 18 => .array .int
  | 19 => .array .int
  | 20 => .array .int
  | 21 => .array .byte
  | 22 => .array .byte
  | 23 => .array .boolean
  | 24 => .array .int
  | 25 => .int
  | 26 => .int
  | 27 => .int
  | 28 => .array .int
  | 29 => .array .byte
  | 30 => .int
  | 31 => .array .int
  | 32 => .array .int
  | 33 => .array .int
  | 34 => .array .int
  | 35 => .array .byte
  | 36 => .int
  | 37 => .array .byte
  | _ => .array .int
abbrev wsX110 : List Cond := u_ws RX11 TX11 39
theorem nmX11 : ∀ a, a < 39 → ∀ b, b < 39 → a ≠ b → (TX11 a).2.1 ≠ (TX11 b).2.1 := by decide +kernel
theorem tyX11_ok : ∀ k, k < 39 → parseFieldDescriptor (TX11 k).2.2.1 = some (tyX11 k) := by decide +kernel
abbrev cX11_init : ByteArray := prog_13_method_1_code
def yX11_init : MethodName := ⟨RX11, "<init>", "()V"⟩
abbrev cX11_thrown : ByteArray := prog_13_method_2_code
def yX11_thrown : MethodName := ⟨RX11, "thrown", "()I"⟩
abbrev cX11_type : ByteArray := prog_13_method_3_code
def yX11_type : MethodName := ⟨RX11, "type", "(C)Z"⟩
abbrev cX11_isSign : ByteArray := prog_13_method_4_code
def yX11_isSign : MethodName := ⟨RX11, "isSign", "(I)Z"⟩
abbrev cX11_isPath : ByteArray := prog_13_method_5_code
def yX11_isPath : MethodName := ⟨RX11, "isPath", "()Z"⟩
abbrev cX11_isNamed : ByteArray := prog_13_method_6_code
def yX11_isNamed : MethodName := ⟨RX11, "isNamed", "(II)Z"⟩
abbrev cX11_child : ByteArray := prog_13_method_7_code
def yX11_child : MethodName := ⟨RX11, "child", "(II)I"⟩
abbrev cX11_go : ByteArray := prog_13_method_8_code
def yX11_go : MethodName := ⟨RX11, "go", "()I"⟩
abbrev cX11_many : ByteArray := prog_13_method_9_code
def yX11_many : MethodName := ⟨RX11, "many", "()I"⟩
abbrev cX11_touch : ByteArray := prog_13_method_10_code
def yX11_touch : MethodName := ⟨RX11, "touch", "(I)V"⟩
abbrev cX11_add : ByteArray := prog_13_method_11_code
def yX11_add : MethodName := ⟨RX11, "add", "(III)I"⟩
abbrev cX11_takes : ByteArray := prog_13_method_12_code
def yX11_takes : MethodName := ⟨RX11, "takes", "()Z"⟩
abbrev cX11_put : ByteArray := prog_13_method_13_code
def yX11_put : MethodName := ⟨RX11, "put", "(I)I"⟩
abbrev cX11_file : ByteArray := prog_13_method_14_code
def yX11_file : MethodName := ⟨RX11, "file", "()I"⟩
abbrev cX11_folder : ByteArray := prog_13_method_15_code
def yX11_folder : MethodName := ⟨RX11, "folder", "()I"⟩
abbrev cX11_remove : ByteArray := prog_13_method_16_code
def yX11_remove : MethodName := ⟨RX11, "remove", "()I"⟩
abbrev cX11_orphans : ByteArray := prog_13_method_17_code
def yX11_orphans : MethodName := ⟨RX11, "orphans", "()I"⟩
abbrev cX11_pack : ByteArray := prog_13_method_18_code
def yX11_pack : MethodName := ⟨RX11, "pack", "(Z)V"⟩
abbrev cX11_query : ByteArray := prog_13_method_19_code
def yX11_query : MethodName := ⟨RX11, "query", "()I"⟩
abbrev cX11_at : ByteArray := prog_13_method_20_code
def yX11_at : MethodName := ⟨RX11, "at", "(I)I"⟩
abbrev cX11_part : ByteArray := prog_13_method_21_code
def yX11_part : MethodName := ⟨RX11, "part", "(I)I"⟩
abbrev cX11_piece : ByteArray := prog_13_method_22_code
def yX11_piece : MethodName := ⟨RX11, "piece", "(IZ)I"⟩
abbrev cX11_ill : ByteArray := prog_13_method_23_code
def yX11_ill : MethodName := ⟨RX11, "ill", "()I"⟩
abbrev cX11_pattern : ByteArray := prog_13_method_24_code
def yX11_pattern : MethodName := ⟨RX11, "pattern", "(IZ)V"⟩
abbrev cX11_place : ByteArray := prog_13_method_25_code
def yX11_place : MethodName := ⟨RX11, "place", "()I"⟩
abbrev cX11_byteOf : ByteArray := prog_13_method_26_code
def yX11_byteOf : MethodName := ⟨RX11, "byteOf", "(II)I"⟩
abbrev cX11_fitsName : ByteArray := prog_13_method_27_code
def yX11_fitsName : MethodName := ⟨RX11, "fitsName", "(IIII)Z"⟩
abbrev cX11_isOne : ByteArray := prog_13_method_28_code
def yX11_isOne : MethodName := ⟨RX11, "isOne", "(IIII)Z"⟩
abbrev cX11_pieceEnd : ByteArray := prog_13_method_29_code
def yX11_pieceEnd : MethodName := ⟨RX11, "pieceEnd", "(II)I"⟩
abbrev cX11_isStars : ByteArray := prog_13_method_30_code
def yX11_isStars : MethodName := ⟨RX11, "isStars", "(III)Z"⟩
abbrev cX11_pieces : ByteArray := prog_13_method_31_code
def yX11_pieces : MethodName := ⟨RX11, "pieces", "(I)I"⟩
abbrev cX11_isForFolders : ByteArray := prog_13_method_32_code
def yX11_isForFolders : MethodName := ⟨RX11, "isForFolders", "(I)Z"⟩
abbrev cX11_closed : ByteArray := prog_13_method_33_code
def yX11_closed : MethodName := ⟨RX11, "closed", "(II)I"⟩
abbrev cX11_on : ByteArray := prog_13_method_34_code
def yX11_on : MethodName := ⟨RX11, "on", "(III)I"⟩
abbrev cX11_bitsOf : ByteArray := prog_13_method_35_code
def yX11_bitsOf : MethodName := ⟨RX11, "bitsOf", "(II)I"⟩
abbrev cX11_fits : ByteArray := prog_13_method_36_code
def yX11_fits : MethodName := ⟨RX11, "fits", "(II)Z"⟩
abbrev cX11_isAnswer : ByteArray := prog_13_method_37_code
def yX11_isAnswer : MethodName := ⟨RX11, "isAnswer", "(II)Z"⟩
abbrev cX11_isLooked : ByteArray := prog_13_method_38_code
def yX11_isLooked : MethodName := ⟨RX11, "isLooked", "(I)Z"⟩
abbrev cX11_compare : ByteArray := prog_13_method_39_code
def yX11_compare : MethodName := ⟨RX11, "compare", "(II)I"⟩
abbrev cX11_following : ByteArray := prog_13_method_40_code
def yX11_following : MethodName := ⟨RX11, "following", "()I"⟩
abbrev cX11_spell : ByteArray := prog_13_method_41_code
def yX11_spell : MethodName := ⟨RX11, "spell", "(I)I"⟩
abbrev cX11_enter : ByteArray := prog_13_method_42_code
def yX11_enter : MethodName := ⟨RX11, "enter", "(II)V"⟩
abbrev cX11_packageOf : ByteArray := prog_13_method_43_code
def yX11_packageOf : MethodName := ⟨RX11, "packageOf", "(I)I"⟩
abbrev cX11_counts : ByteArray := prog_13_method_44_code
def yX11_counts : MethodName := ⟨RX11, "counts", "(II)Z"⟩
abbrev cX11_tell : ByteArray := prog_13_method_45_code
def yX11_tell : MethodName := ⟨RX11, "tell", "(I)V"⟩
abbrev cX11_ask : ByteArray := prog_13_method_46_code
def yX11_ask : MethodName := ⟨RX11, "ask", "(I)I"⟩
abbrev cX11_look : ByteArray := prog_13_method_47_code
def yX11_look : MethodName := ⟨RX11, "look", "(I)V"⟩
abbrev cX11_walk : ByteArray := prog_13_method_48_code
def yX11_walk : MethodName := ⟨RX11, "walk", "(II)V"⟩
abbrev cX11_looked : ByteArray := prog_13_method_49_code
def yX11_looked : MethodName := ⟨RX11, "looked", "()I"⟩
abbrev cX11_answer : ByteArray := prog_13_method_50_code
def yX11_answer : MethodName := ⟨RX11, "answer", "(II)I"⟩
def RJx145de : String := "java/io/Serializable"
def TJx145de : u_T := fun k => match k with
  | _ => ("", "", "", false)
def tyJx145de : Nat → FieldType := fun k => match k with
  | _ => .int
abbrev wsJx145de0 : List Cond := u_ws RJx145de TJx145de 0
theorem nmJx145de : ∀ a, a < 0 → ∀ b, b < 0 → a ≠ b → (TJx145de a).2.1 ≠ (TJx145de b).2.1 := by decide +kernel
theorem tyJx145de_ok : ∀ k, k < 0 → parseFieldDescriptor (TJx145de k).2.2.1 = some (tyJx145de k) := by decide +kernel
def RJ5 : String := "java/lang/AbstractStringBuilder"
def TJ5 : u_T := fun k => match k with
  | _ => ("", "", "", false)
def tyJ5 : Nat → FieldType := fun k => match k with
  | _ => .int
abbrev wsJ50 : List Cond := u_ws RJ5 TJ5 0
theorem nmJ5 : ∀ a, a < 0 → ∀ b, b < 0 → a ≠ b → (TJ5 a).2.1 ≠ (TJ5 b).2.1 := by decide +kernel
theorem tyJ5_ok : ∀ k, k < 0 → parseFieldDescriptor (TJ5 k).2.2.1 = some (tyJ5 k) := by decide +kernel
abbrev cJ5_init_d00df : ByteArray := prog_15_method_2_code
def yJ5_init_d00df : MethodName := ⟨RJ5, "<init>", "(I)V"⟩
abbrev cJ5_length_8abf5 : ByteArray := prog_15_method_6_code
def yJ5_length_8abf5 : MethodName := ⟨RJ5, "length", "()I"⟩
abbrev cJ5_ensureCapacityInternal_d00df : ByteArray := prog_15_method_9_code
def yJ5_ensureCapacityInternal_d00df : MethodName := ⟨RJ5, "ensureCapacityInternal", "(I)V"⟩
abbrev cJ5_newCapacity_0f7a4 : ByteArray := prog_15_method_10_code
def yJ5_newCapacity_0f7a4 : MethodName := ⟨RJ5, "newCapacity", "(I)I"⟩
abbrev cJ5_inflate_da8c8 : ByteArray := prog_15_method_11_code
def yJ5_inflate_da8c8 : MethodName := ⟨RJ5, "inflate", "()V"⟩
abbrev cJ5_setLength_d00df : ByteArray := prog_15_method_13_code
def yJ5_setLength_d00df : MethodName := ⟨RJ5, "setLength", "(I)V"⟩
abbrev cJ5_charAt_5068e : ByteArray := prog_15_method_14_code
def yJ5_charAt_5068e : MethodName := ⟨RJ5, "charAt", "(I)C"⟩
abbrev cJ5_append_cf1ce : ByteArray := prog_15_method_22_code
def yJ5_append_cf1ce : MethodName := ⟨RJ5, "append", "(Ljava/lang/String;)Ljava/lang/AbstractStringBuilder;"⟩
abbrev cJ5_appendNull_278bc : ByteArray := prog_15_method_26_code
def yJ5_appendNull_278bc : MethodName := ⟨RJ5, "appendNull", "()Ljava/lang/AbstractStringBuilder;"⟩
abbrev cJ5_append_3fe6f : ByteArray := prog_15_method_31_code
def yJ5_append_3fe6f : MethodName := ⟨RJ5, "append", "(C)Ljava/lang/AbstractStringBuilder;"⟩
abbrev cJ5_append_c97b9 : ByteArray := prog_15_method_32_code
def yJ5_append_c97b9 : MethodName := ⟨RJ5, "append", "(I)Ljava/lang/AbstractStringBuilder;"⟩
abbrev cJ5_getValue_6d5f1 : ByteArray := prog_15_method_64_code
def yJ5_getValue_6d5f1 : MethodName := ⟨RJ5, "getValue", "()[B"⟩
abbrev cJ5_isLatin1_aae02 : ByteArray := prog_15_method_68_code
def yJ5_isLatin1_aae02 : MethodName := ⟨RJ5, "isLatin1", "()Z"⟩
abbrev cJ5_inflateIfNeededFor_a7421 : ByteArray := prog_15_method_71_code
def yJ5_inflateIfNeededFor_a7421 : MethodName := ⟨RJ5, "inflateIfNeededFor", "(Ljava/lang/String;)V"⟩
abbrev cJ5_putStringAt_47b60 : ByteArray := prog_15_method_73_code
def yJ5_putStringAt_47b60 : MethodName := ⟨RJ5, "putStringAt", "(ILjava/lang/String;)V"⟩
def RJ11 : String := "java/lang/Character"
def TJ11 : u_T := fun k => match k with
  | _ => ("", "", "", false)
def tyJ11 : Nat → FieldType := fun k => match k with
  | _ => .int
abbrev wsJ110 : List Cond := u_ws RJ11 TJ11 0
theorem nmJ11 : ∀ a, a < 0 → ∀ b, b < 0 → a ≠ b → (TJ11 a).2.1 ≠ (TJ11 b).2.1 := by decide +kernel
theorem tyJ11_ok : ∀ k, k < 0 → parseFieldDescriptor (TJ11 k).2.2.1 = some (tyJ11 k) := by decide +kernel
abbrev cJ11_isValidCodePoint_9a6ad : ByteArray := prog_16_method_11_code
def yJ11_isValidCodePoint_9a6ad : MethodName := ⟨RJ11, "isValidCodePoint", "(I)Z"⟩
abbrev cJ11_highSurrogate_5068e : ByteArray := prog_16_method_28_code
def yJ11_highSurrogate_5068e : MethodName := ⟨RJ11, "highSurrogate", "(I)C"⟩
abbrev cJ11_lowSurrogate_5068e : ByteArray := prog_16_method_29_code
def yJ11_lowSurrogate_5068e : MethodName := ⟨RJ11, "lowSurrogate", "(I)C"⟩
def RJx8e188 : String := "java/lang/Cloneable"
def TJx8e188 : u_T := fun k => match k with
  | _ => ("", "", "", false)
def tyJx8e188 : Nat → FieldType := fun k => match k with
  | _ => .int
abbrev wsJx8e1880 : List Cond := u_ws RJx8e188 TJx8e188 0
theorem nmJx8e188 : ∀ a, a < 0 → ∀ b, b < 0 → a ≠ b → (TJx8e188 a).2.1 ≠ (TJx8e188 b).2.1 := by decide +kernel
theorem tyJx8e188_ok : ∀ k, k < 0 → parseFieldDescriptor (TJx8e188 k).2.2.1 = some (tyJx8e188 k) := by decide +kernel
def RJ6 : String := "java/lang/Integer"
def TJ6 : u_T := fun k => match k with
  | _ => ("", "", "", false)
def tyJ6 : Nat → FieldType := fun k => match k with
  | _ => .int
abbrev wsJ60 : List Cond := u_ws RJ6 TJ6 0
theorem nmJ6 : ∀ a, a < 0 → ∀ b, b < 0 → a ≠ b → (TJ6 a).2.1 ≠ (TJ6 b).2.1 := by decide +kernel
theorem tyJ6_ok : ∀ k, k < 0 → parseFieldDescriptor (TJ6 k).2.2.1 = some (tyJ6 k) := by decide +kernel
abbrev cJ6_getChars_ba4f3 : ByteArray := prog_21_method_12_code
def yJ6_getChars_ba4f3 : MethodName := ⟨RJ6, "getChars", "(II[B)I"⟩
abbrev cJ6_stringSize_0f7a4 : ByteArray := prog_21_method_13_code
def yJ6_stringSize_0f7a4 : MethodName := ⟨RJ6, "stringSize", "(I)I"⟩
def RJxab1ab : String := "java/lang/Iterable"
def TJxab1ab : u_T := fun k => match k with
  | _ => ("", "", "", false)
def tyJxab1ab : Nat → FieldType := fun k => match k with
  | _ => .int
abbrev wsJxab1ab0 : List Cond := u_ws RJxab1ab TJxab1ab 0
theorem nmJxab1ab : ∀ a, a < 0 → ∀ b, b < 0 → a ≠ b → (TJxab1ab a).2.1 ≠ (TJxab1ab b).2.1 := by decide +kernel
theorem tyJxab1ab_ok : ∀ k, k < 0 → parseFieldDescriptor (TJxab1ab k).2.2.1 = some (tyJxab1ab k) := by decide +kernel
def RJ9 : String := "java/lang/Math"
def TJ9 : u_T := fun k => match k with
  | _ => ("", "", "", false)
def tyJ9 : Nat → FieldType := fun k => match k with
  | _ => .int
abbrev wsJ90 : List Cond := u_ws RJ9 TJ9 0
theorem nmJ9 : ∀ a, a < 0 → ∀ b, b < 0 → a ≠ b → (TJ9 a).2.1 ≠ (TJ9 b).2.1 := by decide +kernel
theorem tyJ9_ok : ∀ k, k < 0 → parseFieldDescriptor (TJ9 k).2.2.1 = some (tyJ9 k) := by decide +kernel
abbrev cJ9_max_7cf53 : ByteArray := prog_23_method_65_code
def yJ9_max_7cf53 : MethodName := ⟨RJ9, "max", "(II)I"⟩
abbrev cJ9_min_7cf53 : ByteArray := prog_23_method_69_code
def yJ9_min_7cf53 : MethodName := ⟨RJ9, "min", "(II)I"⟩
def RJ0 : String := "java/lang/String"
def TJ0 : u_T := fun k => match k with
  | 0 => ("java/lang/String", "value", "[B", true)
  | 1 => ("java/lang/String", "coder", "B", true)
  | 2 => ("java/lang/String", "hash", "I", false)
  | _ => ("java/lang/String", "hashIsZero", "Z", false)
def tyJ0 : Nat → FieldType := fun k => match k with
  | 0 => .array .byte
  | 1 => .byte
  | 2 => .int
  | _ => .boolean
abbrev wsJ00 : List Cond := u_ws RJ0 TJ0 4
theorem nmJ0 : ∀ a, a < 4 → ∀ b, b < 4 → a ≠ b → (TJ0 a).2.1 ≠ (TJ0 b).2.1 := by decide +kernel
theorem tyJ0_ok : ∀ k, k < 4 → parseFieldDescriptor (TJ0 k).2.2.1 = some (tyJ0 k) := by decide +kernel
abbrev cJ0_init_81219 : ByteArray := prog_25_method_53_code
def yJ0_init_81219 : MethodName := ⟨RJ0, "<init>", "(Ljava/lang/StringBuilder;)V"⟩
abbrev cJ0_length_8abf5 : ByteArray := prog_25_method_54_code
def yJ0_length_8abf5 : MethodName := ⟨RJ0, "length", "()I"⟩
abbrev cJ0_isEmpty_aae02 : ByteArray := prog_25_method_55_code
def yJ0_isEmpty_aae02 : MethodName := ⟨RJ0, "isEmpty", "()Z"⟩
abbrev cJ0_charAt_5068e : ByteArray := prog_25_method_56_code
def yJ0_charAt_5068e : MethodName := ⟨RJ0, "charAt", "(I)C"⟩
abbrev cJ0_equals_9ea2d : ByteArray := prog_25_method_66_code
def yJ0_equals_9ea2d : MethodName := ⟨RJ0, "equals", "(Ljava/lang/Object;)Z"⟩
abbrev cJ0_indexOf_0f7a4 : ByteArray := prog_25_method_79_code
def yJ0_indexOf_0f7a4 : MethodName := ⟨RJ0, "indexOf", "(I)I"⟩
abbrev cJ0_indexOf_7cf53 : ByteArray := prog_25_method_80_code
def yJ0_indexOf_7cf53 : MethodName := ⟨RJ0, "indexOf", "(II)I"⟩
abbrev cJ0_substring_37a41 : ByteArray := prog_25_method_92_code
def yJ0_substring_37a41 : MethodName := ⟨RJ0, "substring", "(II)Ljava/lang/String;"⟩
abbrev cJ0_getBytes_840e7 : ByteArray := prog_25_method_147_code
def yJ0_getBytes_840e7 : MethodName := ⟨RJ0, "getBytes", "([BIB)V"⟩
abbrev cJ0_init_db425 : ByteArray := prog_25_method_150_code
def yJ0_init_db425 : MethodName := ⟨RJ0, "<init>", "(Ljava/lang/AbstractStringBuilder;Ljava/lang/Void;)V"⟩
abbrev cJ0_init_031fb : ByteArray := prog_25_method_151_code
def yJ0_init_031fb : MethodName := ⟨RJ0, "<init>", "([BB)V"⟩
abbrev cJ0_coder_7d493 : ByteArray := prog_25_method_152_code
def yJ0_coder_7d493 : MethodName := ⟨RJ0, "coder", "()B"⟩
abbrev cJ0_isLatin1_aae02 : ByteArray := prog_25_method_154_code
def yJ0_isLatin1_aae02 : MethodName := ⟨RJ0, "isLatin1", "()Z"⟩
abbrev cJ0_checkIndex_df160 : ByteArray := prog_25_method_155_code
def yJ0_checkIndex_df160 : MethodName := ⟨RJ0, "checkIndex", "(II)V"⟩
abbrev cJ0_checkBoundsOffCount_cabcc : ByteArray := prog_25_method_157_code
def yJ0_checkBoundsOffCount_cabcc : MethodName := ⟨RJ0, "checkBoundsOffCount", "(III)I"⟩
abbrev cJ0_checkBoundsBeginEnd_23922 : ByteArray := prog_25_method_158_code
def yJ0_checkBoundsBeginEnd_23922 : MethodName := ⟨RJ0, "checkBoundsBeginEnd", "(III)V"⟩
def RJ4 : String := "java/lang/StringBuilder"
def TJ4 : u_T := fun k => match k with
  | 0 => ("java/lang/AbstractStringBuilder", "value", "[B", false)
  | 1 => ("java/lang/AbstractStringBuilder", "coder", "B", false)
  | 2 => ("java/lang/AbstractStringBuilder", "maybeLatin1", "Z", false)
  | _ => ("java/lang/AbstractStringBuilder", "count", "I", false)
def tyJ4 : Nat → FieldType := fun k => match k with
  | 0 => .array .byte
  | 1 => .byte
  | 2 => .boolean
  | _ => .int
abbrev wsJ40 : List Cond := u_ws RJ4 TJ4 4
theorem nmJ4 : ∀ a, a < 4 → ∀ b, b < 4 → a ≠ b → (TJ4 a).2.1 ≠ (TJ4 b).2.1 := by decide +kernel
theorem tyJ4_ok : ∀ k, k < 4 → parseFieldDescriptor (TJ4 k).2.2.1 = some (tyJ4 k) := by decide +kernel
abbrev cJ4_init_da8c8 : ByteArray := prog_26_method_1_code
def yJ4_init_da8c8 : MethodName := ⟨RJ4, "<init>", "()V"⟩
abbrev cJ4_append_15ec4 : ByteArray := prog_26_method_7_code
def yJ4_append_15ec4 : MethodName := ⟨RJ4, "append", "(Ljava/lang/String;)Ljava/lang/StringBuilder;"⟩
abbrev cJ4_append_cf468 : ByteArray := prog_26_method_14_code
def yJ4_append_cf468 : MethodName := ⟨RJ4, "append", "(C)Ljava/lang/StringBuilder;"⟩
abbrev cJ4_append_bf812 : ByteArray := prog_26_method_15_code
def yJ4_append_bf812 : MethodName := ⟨RJ4, "append", "(I)Ljava/lang/StringBuilder;"⟩
abbrev cJ4_toString_0e30d : ByteArray := prog_26_method_42_code
def yJ4_toString_0e30d : MethodName := ⟨RJ4, "toString", "()Ljava/lang/String;"⟩
abbrev cJ4_charAt_5068e : ByteArray := prog_26_method_88_code
def yJ4_charAt_5068e : MethodName := ⟨RJ4, "charAt", "(I)C"⟩
abbrev cJ4_setLength_d00df : ByteArray := prog_26_method_89_code
def yJ4_setLength_d00df : MethodName := ⟨RJ4, "setLength", "(I)V"⟩
abbrev cJ4_length_8abf5 : ByteArray := prog_26_method_93_code
def yJ4_length_8abf5 : MethodName := ⟨RJ4, "length", "()I"⟩
def RJ1 : String := "java/lang/StringLatin1"
def TJ1 : u_T := fun k => match k with
  | _ => ("", "", "", false)
def tyJ1 : Nat → FieldType := fun k => match k with
  | _ => .int
abbrev wsJ10 : List Cond := u_ws RJ1 TJ1 0
theorem nmJ1 : ∀ a, a < 0 → ∀ b, b < 0 → a ≠ b → (TJ1 a).2.1 ≠ (TJ1 b).2.1 := by decide +kernel
theorem tyJ1_ok : ∀ k, k < 0 → parseFieldDescriptor (TJ1 k).2.2.1 = some (tyJ1 k) := by decide +kernel
abbrev cJ1_charAt_3b067 : ByteArray := prog_27_method_2_code
def yJ1_charAt_3b067 : MethodName := ⟨RJ1, "charAt", "([BI)C"⟩
abbrev cJ1_canEncode_fc78d : ByteArray := prog_27_method_3_code
def yJ1_canEncode_fc78d : MethodName := ⟨RJ1, "canEncode", "(C)Z"⟩
abbrev cJ1_canEncode_9a6ad : ByteArray := prog_27_method_4_code
def yJ1_canEncode_9a6ad : MethodName := ⟨RJ1, "canEncode", "(I)Z"⟩
abbrev cJ1_equals_b5fdf : ByteArray := prog_27_method_13_code
def yJ1_equals_b5fdf : MethodName := ⟨RJ1, "equals", "([B[B)Z"⟩
abbrev cJ1_indexOf_4cfef : ByteArray := prog_27_method_22_code
def yJ1_indexOf_4cfef : MethodName := ⟨RJ1, "indexOf", "([BIII)I"⟩
abbrev cJ1_indexOfChar_4cfef : ByteArray := prog_27_method_23_code
def yJ1_indexOfChar_4cfef : MethodName := ⟨RJ1, "indexOfChar", "([BIII)I"⟩
abbrev cJ1_newString_b4f7a : ByteArray := prog_27_method_47_code
def yJ1_newString_b4f7a : MethodName := ⟨RJ1, "newString", "([BII)Ljava/lang/String;"⟩
abbrev cJ1_fillNull_b72d1 : ByteArray := prog_27_method_48_code
def yJ1_fillNull_b72d1 : MethodName := ⟨RJ1, "fillNull", "([BII)V"⟩
abbrev cJ1_inflate_0e8fd : ByteArray := prog_27_method_50_code
def yJ1_inflate_0e8fd : MethodName := ⟨RJ1, "inflate", "([BI[BII)V"⟩
def RJ2 : String := "java/lang/StringUTF16"
def TJ2 : u_T := fun k => match k with
  | _ => ("", "", "", false)
def tyJ2 : Nat → FieldType := fun k => match k with
  | _ => .int
abbrev wsJ20 : List Cond := u_ws RJ2 TJ2 0
theorem nmJ2 : ∀ a, a < 0 → ∀ b, b < 0 → a ≠ b → (TJ2 a).2.1 ≠ (TJ2 b).2.1 := by decide +kernel
theorem tyJ2_ok : ∀ k, k < 0 → parseFieldDescriptor (TJ2 k).2.2.1 = some (tyJ2 k) := by decide +kernel
abbrev cJ2_newBytesFor_77867 : ByteArray := prog_28_method_2_code
def yJ2_newBytesFor_77867 : MethodName := ⟨RJ2, "newBytesFor", "(I)[B"⟩
abbrev cJ2_newBytesLength_0f7a4 : ByteArray := prog_28_method_3_code
def yJ2_newBytesLength_0f7a4 : MethodName := ⟨RJ2, "newBytesLength", "(I)I"⟩
abbrev cJ2_putChar_b72d1 : ByteArray := prog_28_method_4_code
def yJ2_putChar_b72d1 : MethodName := ⟨RJ2, "putChar", "([BII)V"⟩
abbrev cJ2_getChar_3b067 : ByteArray := prog_28_method_5_code
def yJ2_getChar_3b067 : MethodName := ⟨RJ2, "getChar", "([BI)C"⟩
abbrev cJ2_length_9d52b : ByteArray := prog_28_method_6_code
def yJ2_length_9d52b : MethodName := ⟨RJ2, "length", "([B)I"⟩
abbrev cJ2_coderFromArrayLen_85cad : ByteArray := prog_28_method_15_code
def yJ2_coderFromArrayLen_85cad : MethodName := ⟨RJ2, "coderFromArrayLen", "([BI)B"⟩
abbrev cJ2_compress_39247 : ByteArray := prog_28_method_17_code
def yJ2_compress_39247 : MethodName := ⟨RJ2, "compress", "([BII)[B"⟩
abbrev cJ2_compress_5af95 : ByteArray := prog_28_method_22_code
def yJ2_compress_5af95 : MethodName := ⟨RJ2, "compress", "([BI[BII)I"⟩
abbrev cJ2_indexOf_4cfef : ByteArray := prog_28_method_40_code
def yJ2_indexOf_4cfef : MethodName := ⟨RJ2, "indexOf", "([BIII)I"⟩
abbrev cJ2_indexOfChar_4cfef : ByteArray := prog_28_method_47_code
def yJ2_indexOfChar_4cfef : MethodName := ⟨RJ2, "indexOfChar", "([BIII)I"⟩
abbrev cJ2_indexOfCharUnsafe_4cfef : ByteArray := prog_28_method_48_code
def yJ2_indexOfCharUnsafe_4cfef : MethodName := ⟨RJ2, "indexOfCharUnsafe", "([BIII)I"⟩
abbrev cJ2_indexOfSupplementary_4cfef : ByteArray := prog_28_method_49_code
def yJ2_indexOfSupplementary_4cfef : MethodName := ⟨RJ2, "indexOfSupplementary", "([BIII)I"⟩
abbrev cJ2_newString_b4f7a : ByteArray := prog_28_method_69_code
def yJ2_newString_b4f7a : MethodName := ⟨RJ2, "newString", "([BII)Ljava/lang/String;"⟩
abbrev cJ2_fillNull_b72d1 : ByteArray := prog_28_method_70_code
def yJ2_fillNull_b72d1 : MethodName := ⟨RJ2, "fillNull", "([BII)V"⟩
abbrev cJ2_putCharSB_b72d1 : ByteArray := prog_28_method_71_code
def yJ2_putCharSB_b72d1 : MethodName := ⟨RJ2, "putCharSB", "([BII)V"⟩
abbrev cJ2_getChars_46870 : ByteArray := prog_28_method_77_code
def yJ2_getChars_46870 : MethodName := ⟨RJ2, "getChars", "(III[B)I"⟩
abbrev cJ2_putCharsAt_cd4e5 : ByteArray := prog_28_method_81_code
def yJ2_putCharsAt_cd4e5 : MethodName := ⟨RJ2, "putCharsAt", "([BICCCC)I"⟩
abbrev cJ2_charAt_3b067 : ByteArray := prog_28_method_83_code
def yJ2_charAt_3b067 : MethodName := ⟨RJ2, "charAt", "([BI)C"⟩
abbrev cJ2_inflate_0e8fd : ByteArray := prog_28_method_86_code
def yJ2_inflate_0e8fd : MethodName := ⟨RJ2, "inflate", "([BI[BII)V"⟩
abbrev cJ2_getChars_ba4f3 : ByteArray := prog_28_method_89_code
def yJ2_getChars_ba4f3 : MethodName := ⟨RJ2, "getChars", "(II[B)I"⟩
abbrev cJ2_checkIndex_2214a : ByteArray := prog_28_method_91_code
def yJ2_checkIndex_2214a : MethodName := ⟨RJ2, "checkIndex", "(I[B)V"⟩
abbrev cJ2_checkBoundsBeginEnd_d044e : ByteArray := prog_28_method_93_code
def yJ2_checkBoundsBeginEnd_d044e : MethodName := ⟨RJ2, "checkBoundsBeginEnd", "(II[B)V"⟩
abbrev cJ2_checkBoundsOffCount_d044e : ByteArray := prog_28_method_94_code
def yJ2_checkBoundsOffCount_d044e : MethodName := ⟨RJ2, "checkBoundsOffCount", "(II[B)V"⟩
def RJ10 : String := "java/lang/System"
def TJ10 : u_T := fun k => match k with
  | _ => ("", "", "", false)
def tyJ10 : Nat → FieldType := fun k => match k with
  | _ => .int
abbrev wsJ100 : List Cond := u_ws RJ10 TJ10 0
theorem nmJ10 : ∀ a, a < 0 → ∀ b, b < 0 → a ≠ b → (TJ10 a).2.1 ≠ (TJ10 b).2.1 := by decide +kernel
theorem tyJ10_ok : ∀ k, k < 0 → parseFieldDescriptor (TJ10 k).2.2.1 = some (tyJ10 k) := by decide +kernel
def RJxa1e45 : String := "java/util/AbstractCollection"
def TJxa1e45 : u_T := fun k => match k with
  | _ => ("", "", "", false)
def tyJxa1e45 : Nat → FieldType := fun k => match k with
  | _ => .int
abbrev wsJxa1e450 : List Cond := u_ws RJxa1e45 TJxa1e45 0
theorem nmJxa1e45 : ∀ a, a < 0 → ∀ b, b < 0 → a ≠ b → (TJxa1e45 a).2.1 ≠ (TJxa1e45 b).2.1 := by decide +kernel
theorem tyJxa1e45_ok : ∀ k, k < 0 → parseFieldDescriptor (TJxa1e45 k).2.2.1 = some (tyJxa1e45 k) := by decide +kernel
abbrev cJxa1e45_init_da8c8 : ByteArray := prog_31_method_1_code
def yJxa1e45_init_da8c8 : MethodName := ⟨RJxa1e45, "<init>", "()V"⟩
def RJxc12de : String := "java/util/AbstractList"
def TJxc12de : u_T := fun k => match k with
  | _ => ("", "", "", false)
def tyJxc12de : Nat → FieldType := fun k => match k with
  | _ => .int
abbrev wsJxc12de0 : List Cond := u_ws RJxc12de TJxc12de 0
theorem nmJxc12de : ∀ a, a < 0 → ∀ b, b < 0 → a ≠ b → (TJxc12de a).2.1 ≠ (TJxc12de b).2.1 := by decide +kernel
theorem tyJxc12de_ok : ∀ k, k < 0 → parseFieldDescriptor (TJxc12de k).2.2.1 = some (tyJxc12de k) := by decide +kernel
abbrev cJxc12de_init_da8c8 : ByteArray := prog_32_method_1_code
def yJxc12de_init_da8c8 : MethodName := ⟨RJxc12de, "<init>", "()V"⟩
def RJx4a65c : String := "java/util/ArrayList"
def TJx4a65c : u_T := fun k => match k with
  | 0 => ("java/util/AbstractList", "modCount", "I", false)
  | 1 => ("java/util/ArrayList", "elementData", "[Ljava/lang/Object;", false)
  | _ => ("java/util/ArrayList", "size", "I", false)
def tyJx4a65c : Nat → FieldType := fun k => match k with
  | 0 => .int
  | 1 => .array (.object "java/lang/Object")
  | _ => .int
abbrev wsJx4a65c0 : List Cond := u_ws RJx4a65c TJx4a65c 3
theorem nmJx4a65c : ∀ a, a < 3 → ∀ b, b < 3 → a ≠ b → (TJx4a65c a).2.1 ≠ (TJx4a65c b).2.1 := by decide +kernel
theorem tyJx4a65c_ok : ∀ k, k < 3 → parseFieldDescriptor (TJx4a65c k).2.2.1 = some (tyJx4a65c k) := by decide +kernel
abbrev cJx4a65c_init_da8c8 : ByteArray := prog_33_method_2_code
def yJx4a65c_init_da8c8 : MethodName := ⟨RJx4a65c, "<init>", "()V"⟩
abbrev cJx4a65c_grow_92f84 : ByteArray := prog_33_method_6_code
def yJx4a65c_grow_92f84 : MethodName := ⟨RJx4a65c, "grow", "(I)[Ljava/lang/Object;"⟩
abbrev cJx4a65c_grow_d5877 : ByteArray := prog_33_method_7_code
def yJx4a65c_grow_d5877 : MethodName := ⟨RJx4a65c, "grow", "()[Ljava/lang/Object;"⟩
abbrev cJx4a65c_size_8abf5 : ByteArray := prog_33_method_8_code
def yJx4a65c_size_8abf5 : MethodName := ⟨RJx4a65c, "size", "()I"⟩
abbrev cJx4a65c_isEmpty_aae02 : ByteArray := prog_33_method_9_code
def yJx4a65c_isEmpty_aae02 : MethodName := ⟨RJx4a65c, "isEmpty", "()Z"⟩
abbrev cJx4a65c_elementData_915e3 : ByteArray := prog_33_method_18_code
def yJx4a65c_elementData_915e3 : MethodName := ⟨RJx4a65c, "elementData", "(I)Ljava/lang/Object;"⟩
abbrev cJx4a65c_get_915e3 : ByteArray := prog_33_method_20_code
def yJx4a65c_get_915e3 : MethodName := ⟨RJx4a65c, "get", "(I)Ljava/lang/Object;"⟩
abbrev cJx4a65c_add_72be8 : ByteArray := prog_33_method_24_code
def yJx4a65c_add_72be8 : MethodName := ⟨RJx4a65c, "add", "(Ljava/lang/Object;[Ljava/lang/Object;I)V"⟩
abbrev cJx4a65c_add_9ea2d : ByteArray := prog_33_method_25_code
def yJx4a65c_add_9ea2d : MethodName := ⟨RJx4a65c, "add", "(Ljava/lang/Object;)Z"⟩
abbrev cJx4a65c_add_7a177 : ByteArray := prog_33_method_26_code
def yJx4a65c_add_7a177 : MethodName := ⟨RJx4a65c, "add", "(ILjava/lang/Object;)V"⟩
abbrev cJx4a65c_remove_915e3 : ByteArray := prog_33_method_29_code
def yJx4a65c_remove_915e3 : MethodName := ⟨RJx4a65c, "remove", "(I)Ljava/lang/Object;"⟩
abbrev cJx4a65c_fastRemove_b59b0 : ByteArray := prog_33_method_39_code
def yJx4a65c_fastRemove_b59b0 : MethodName := ⟨RJx4a65c, "fastRemove", "([Ljava/lang/Object;I)V"⟩
abbrev cJx4a65c_rangeCheckForAdd_d00df : ByteArray := prog_33_method_45_code
def yJx4a65c_rangeCheckForAdd_d00df : MethodName := ⟨RJx4a65c, "rangeCheckForAdd", "(I)V"⟩
def RJ7 : String := "java/util/Arrays"
def TJ7 : u_T := fun k => match k with
  | _ => ("", "", "", false)
def tyJ7 : Nat → FieldType := fun k => match k with
  | _ => .int
abbrev wsJ70 : List Cond := u_ws RJ7 TJ7 0
theorem nmJ7 : ∀ a, a < 0 → ∀ b, b < 0 → a ≠ b → (TJ7 a).2.1 ≠ (TJ7 b).2.1 := by decide +kernel
theorem tyJ7_ok : ∀ k, k < 0 → parseFieldDescriptor (TJ7 k).2.2.1 = some (tyJ7 k) := by decide +kernel
abbrev cJ7_rangeCheck_23922 : ByteArray := prog_34_method_30_code
def yJ7_rangeCheck_23922 : MethodName := ⟨RJ7, "rangeCheck", "(III)V"⟩
abbrev cJ7_fill_53178 : ByteArray := prog_34_method_103_code
def yJ7_fill_53178 : MethodName := ⟨RJ7, "fill", "([II)V"⟩
abbrev cJ7_fill_eb02e : ByteArray := prog_34_method_110_code
def yJ7_fill_eb02e : MethodName := ⟨RJ7, "fill", "([BIIB)V"⟩
abbrev cJ7_copyOf_1904c : ByteArray := prog_34_method_119_code
def yJ7_copyOf_1904c : MethodName := ⟨RJ7, "copyOf", "([Ljava/lang/Object;I)[Ljava/lang/Object;"⟩
abbrev cJ7_copyOf_6403c : ByteArray := prog_34_method_120_code
def yJ7_copyOf_6403c : MethodName := ⟨RJ7, "copyOf", "([Ljava/lang/Object;ILjava/lang/Class;)[Ljava/lang/Object;"⟩
abbrev cJ7_copyOf_9075b : ByteArray := prog_34_method_121_code
def yJ7_copyOf_9075b : MethodName := ⟨RJ7, "copyOf", "([BI)[B"⟩
abbrev cJ7_checkLength_df160 : ByteArray := prog_34_method_131_code
def yJ7_checkLength_df160 : MethodName := ⟨RJ7, "checkLength", "(II)V"⟩
abbrev cJ7_copyOfRange_39247 : ByteArray := prog_34_method_132_code
def yJ7_copyOfRange_39247 : MethodName := ⟨RJ7, "copyOfRange", "([BII)[B"⟩
abbrev cJ7_copyOfRangeByte_39247 : ByteArray := prog_34_method_133_code
def yJ7_copyOfRangeByte_39247 : MethodName := ⟨RJ7, "copyOfRangeByte", "([BII)[B"⟩
def RJx5ef63 : String := "java/util/Collection"
def TJx5ef63 : u_T := fun k => match k with
  | _ => ("", "", "", false)
def tyJx5ef63 : Nat → FieldType := fun k => match k with
  | _ => .int
abbrev wsJx5ef630 : List Cond := u_ws RJx5ef63 TJx5ef63 0
theorem nmJx5ef63 : ∀ a, a < 0 → ∀ b, b < 0 → a ≠ b → (TJx5ef63 a).2.1 ≠ (TJx5ef63 b).2.1 := by decide +kernel
theorem tyJx5ef63_ok : ∀ k, k < 0 → parseFieldDescriptor (TJx5ef63 k).2.2.1 = some (tyJx5ef63 k) := by decide +kernel
def RJxbd725 : String := "java/util/List"
def TJxbd725 : u_T := fun k => match k with
  | _ => ("", "", "", false)
def tyJxbd725 : Nat → FieldType := fun k => match k with
  | _ => .int
abbrev wsJxbd7250 : List Cond := u_ws RJxbd725 TJxbd725 0
theorem nmJxbd725 : ∀ a, a < 0 → ∀ b, b < 0 → a ≠ b → (TJxbd725 a).2.1 ≠ (TJxbd725 b).2.1 := by decide +kernel
theorem tyJxbd725_ok : ∀ k, k < 0 → parseFieldDescriptor (TJxbd725 k).2.2.1 = some (tyJxbd725 k) := by decide +kernel
def RJ15 : String := "java/util/Objects"
def TJ15 : u_T := fun k => match k with
  | _ => ("", "", "", false)
def tyJ15 : Nat → FieldType := fun k => match k with
  | _ => .int
abbrev wsJ150 : List Cond := u_ws RJ15 TJ15 0
theorem nmJ15 : ∀ a, a < 0 → ∀ b, b < 0 → a ≠ b → (TJ15 a).2.1 ≠ (TJ15 b).2.1 := by decide +kernel
theorem tyJ15_ok : ∀ k, k < 0 → parseFieldDescriptor (TJ15 k).2.2.1 = some (tyJ15 k) := by decide +kernel
abbrev cJ15_checkIndex_7cf53 : ByteArray := prog_37_method_17_code
def yJ15_checkIndex_7cf53 : MethodName := ⟨RJ15, "checkIndex", "(II)I"⟩
def RJxf0a74 : String := "java/util/RandomAccess"
def TJxf0a74 : u_T := fun k => match k with
  | _ => ("", "", "", false)
def tyJxf0a74 : Nat → FieldType := fun k => match k with
  | _ => .int
abbrev wsJxf0a740 : List Cond := u_ws RJxf0a74 TJxf0a74 0
theorem nmJxf0a74 : ∀ a, a < 0 → ∀ b, b < 0 → a ≠ b → (TJxf0a74 a).2.1 ≠ (TJxf0a74 b).2.1 := by decide +kernel
theorem tyJxf0a74_ok : ∀ k, k < 0 → parseFieldDescriptor (TJxf0a74 k).2.2.1 = some (tyJxf0a74 k) := by decide +kernel
def RJxa66e6 : String := "java/util/SequencedCollection"
def TJxa66e6 : u_T := fun k => match k with
  | _ => ("", "", "", false)
def tyJxa66e6 : Nat → FieldType := fun k => match k with
  | _ => .int
abbrev wsJxa66e60 : List Cond := u_ws RJxa66e6 TJxa66e6 0
theorem nmJxa66e6 : ∀ a, a < 0 → ∀ b, b < 0 → a ≠ b → (TJxa66e6 a).2.1 ≠ (TJxa66e6 b).2.1 := by decide +kernel
theorem tyJxa66e6_ok : ∀ k, k < 0 → parseFieldDescriptor (TJxa66e6 k).2.2.1 = some (tyJxa66e6 k) := by decide +kernel
def RJ8 : String := "jdk/internal/util/ArraysSupport"
def TJ8 : u_T := fun k => match k with
  | _ => ("", "", "", false)
def tyJ8 : Nat → FieldType := fun k => match k with
  | _ => .int
abbrev wsJ80 : List Cond := u_ws RJ8 TJ8 0
theorem nmJ8 : ∀ a, a < 0 → ∀ b, b < 0 → a ≠ b → (TJ8 a).2.1 ≠ (TJ8 b).2.1 := by decide +kernel
theorem tyJ8_ok : ∀ k, k < 0 → parseFieldDescriptor (TJ8 k).2.2.1 = some (tyJ8 k) := by decide +kernel
abbrev cJ8_newLength_cabcc : ByteArray := prog_40_method_27_code
def yJ8_newLength_cabcc : MethodName := ⟨RJ8, "newLength", "(III)I"⟩
abbrev cJ8_hugeLength_7cf53 : ByteArray := prog_40_method_28_code
def yJ8_hugeLength_7cf53 : MethodName := ⟨RJ8, "hugeLength", "(II)I"⟩
def RJ3 : String := "jdk/internal/util/Preconditions"
def TJ3 : u_T := fun k => match k with
  | _ => ("", "", "", false)
def tyJ3 : Nat → FieldType := fun k => match k with
  | _ => .int
abbrev wsJ30 : List Cond := u_ws RJ3 TJ3 0
theorem nmJ3 : ∀ a, a < 0 → ∀ b, b < 0 → a ≠ b → (TJ3 a).2.1 ≠ (TJ3 b).2.1 := by decide +kernel
theorem tyJ3_ok : ∀ k, k < 0 → parseFieldDescriptor (TJ3 k).2.2.1 = some (tyJ3 k) := by decide +kernel
abbrev cJ3_checkIndex_8e157 : ByteArray := prog_41_method_11_code
def yJ3_checkIndex_8e157 : MethodName := ⟨RJ3, "checkIndex", "(IILjava/util/function/BiFunction;)I"⟩
abbrev cJ3_checkFromToIndex_8c36e : ByteArray := prog_41_method_12_code
def yJ3_checkFromToIndex_8c36e : MethodName := ⟨RJ3, "checkFromToIndex", "(IIILjava/util/function/BiFunction;)I"⟩
abbrev cJ3_checkFromIndexSize_8c36e : ByteArray := prog_41_method_13_code
def yJ3_checkFromIndexSize_8c36e : MethodName := ⟨RJ3, "checkFromIndexSize", "(IIILjava/util/function/BiFunction;)I"⟩
def RL : String := "GlobRowsLaw"
abbrev cL_file : ByteArray := method_3_code
def yL_file : MethodName := ⟨RL, "file", "(LGlobRows;[J)I"⟩
abbrev cL_folder : ByteArray := method_4_code
def yL_folder : MethodName := ⟨RL, "folder", "(LGlobRows;[J)I"⟩
abbrev cL_remove : ByteArray := method_5_code
def yL_remove : MethodName := ⟨RL, "remove", "(LGlobRows;[J)I"⟩
abbrev cL_pack : ByteArray := method_6_code
def yL_pack : MethodName := ⟨RL, "pack", "(LGlobRows;Z)I"⟩
abbrev cL_query : ByteArray := method_7_code
def yL_query : MethodName := ⟨RL, "query", "(LGlobRows;[J)I"⟩
abbrev cL_pattern : ByteArray := method_8_code
def yL_pattern : MethodName := ⟨RL, "pattern", "(LGlobRows;IZ)I"⟩
abbrev cL_law : ByteArray := code
def yL_law : MethodName := ⟨RL, "law", "([I)Z"⟩
abbrev vwCl : List vw_C := [(RJ0, TJ0, 4), (RJ4, TJ4, 4), (RJx4a65c, TJx4a65c, 3), (RX0, TX0, 4), (RX1, TX1, 6), (RX2, TX2, 1), (RX3, TX3, 4), (RX4, TX4, 5), (RX5, TX5, 4), (RX6, TX6, 3), (RX7, TX7, 4), (RX8, TX8, 2), (RX9, TX9, 2), (RX10, TX10, 5), (RX11, TX11, 39)]
end
section
/-- the tables' words that keep while a method runs -/
def vg_T : List Cond := lw_tbl.filter goodWord
theorem vg_in {w : Cond} (h : w ∈ lw_tbl) (g : goodWord w = true) : w ∈ vg_T := List.mem_filter.mpr ⟨h, g⟩
theorem vg_tn {w : Cond} {i : Nat} (h : tables_1[i]? = some w) (g : goodWord w = true) : w ∈ vg_T := vg_in (List.mem_append_right _ (List.mem_of_getElem? h)) g
theorem vg_Tgood : ∀ w ∈ vg_T, goodWord w = true := fun _ h => (List.mem_filter.mp h).2
end
section
/-! Abstract memory: a map of the cells that the run has made (and of the constants it reads), how large the heap is, where the new cells begin. Programs over it answer a value, the memory behind, and how many cells and slots came. -/
abbrev vg_E : Type := (Nat × vp_A) ⊕ (Nat × List Value)
abbrev vg_M : Type := (Nat → Option vg_E) × Nat × Nat
abbrev vg_R (α : Type) : Type := Option (α × vg_M × Nat × Nat)
def vg_c (cy : Nat → ClassId) (e : vg_E) : va_E := match e with
  | .inl x => .inl (cy x.1, x.2)
  | .inr o => .inr o
def vg_H (D : va_G) (cy : Nat → ClassId) (H0 : Heap) (μ : vg_M) (H : Heap) : Prop :=
  H.size = μ.2.1 ∧ μ.2.2 = H0.size ∧ H0.size ≤ H.size ∧ (∀ (a : Nat) (e : vg_E), μ.1 a = some e → va_at D vwCl (a, vg_c cy e) H) ∧ ∀ a, a < H0.size → H[a]? = H0[a]?
def vg_tys (cy : Nat → ClassId) : List (ClassId × FieldType) := [(cy 0, .byte), (cy 1, .char), (cy 2, .int), (cy 3, .boolean), (cy 4, .long), (cy 5, .object "java/lang/Object")]
def vg_K (D : va_G) (cy : Nat → ClassId) (U : State) : Prop := va_K D vwCl (vg_tys cy) U
theorem vg_K.moved {D : va_G} {cy : Nat → ClassId} {u U : State} (hvm : u.vm.Alike U.vm) (h : vg_K D cy u) : vg_K D cy U := va_K.moved hvm h
theorem vg_H.put {D : va_G} {cy : Nat → ClassId} {H0 H H1 : Heap} {μ : vg_M} {a : Nat} {e : vg_E} (h : vg_H D cy H0 μ H) (ha : μ.2.2 ≤ a) (he : va_at D vwCl (a, vg_c cy e) H1) (z : H1.size = H.size) (oq : ∀ q : Nat, q ≠ a → H1[q]? = H[q]?) :
    vg_H D cy H0 (va_up μ.1 a (some e), μ.2) H1 := by
  obtain ⟨h1, h2, h3, h4, h5⟩ := h
  refine ⟨z.trans h1, h2, by omega, fun b x hb => ?_, fun b hb => ?_⟩
  · have hb : va_up μ.1 a (some e) b = some x := hb
    by_cases hba : b = a
    · subst hba
      rw [va_up_self] at hb
      cases hb
      exact he
    · rw [va_up_ne _ _ hba] at hb
      exact (h4 b x hb).kept (oq b hba)
  · rw [oq b (by omega)]
    exact h5 b hb
theorem vg_H.new {D : va_G} {cy : Nat → ClassId} {H0 H H1 : Heap} {μ : vg_M} {e : vg_E} (h : vg_H D cy H0 μ H) (he : va_at D vwCl (μ.2.1, vg_c cy e) H1) (z : H1.size = μ.2.1 + 1) (oq : ∀ q : Nat, q < μ.2.1 → H1[q]? = H[q]?) :
    vg_H D cy H0 (va_up μ.1 μ.2.1 (some e), μ.2.1 + 1, μ.2.2) H1 := by
  obtain ⟨h1, h2, h3, h4, h5⟩ := h
  refine ⟨z, h2, by omega, fun b x hb => ?_, fun b hb => ?_⟩
  · have hb : va_up μ.1 μ.2.1 (some e) b = some x := hb
    by_cases hba : b = μ.2.1
    · subst hba
      rw [va_up_self] at hb
      cases hb
      exact he
    · rw [va_up_ne _ _ hba] at hb
      have hl : b < H.size := (h4 b x hb).lt
      exact (h4 b x hb).kept (oq b (by omega))
  · rw [oq b (by omega)]
    exact h5 b hb
-- programs
def vg_o {α β : Type} (x : Option α) (f : α → vg_R β) : vg_R β := match x with
  | none => none
  | some a => f a
def vg_b {α β : Type} (x : vg_R α) (f : α → vg_M → vg_R β) : vg_R β := match x with
  | none => none
  | some q => match f q.1 q.2.1 with
    | none => none
    | some w => some (w.1, w.2.1, q.2.2.1 + w.2.2.1, q.2.2.2 + w.2.2.2)
def vg_n {β : Type} (k : Nat) (x : vg_R β) : vg_R β := match x with
  | none => none
  | some w => some (w.1, w.2.1, 1 + w.2.2.1, k + w.2.2.2)
theorem vg_o_inv {α β : Type} {x : Option α} {f : α → vg_R β} {r : β × vg_M × Nat × Nat} (h : vg_o x f = some r) : ∃ a, x = some a ∧ f a = some r := by
  cases x with
  | none => cases h
  | some a => exact ⟨a, rfl, h⟩
theorem vg_b_inv {α β : Type} {x : vg_R α} {f : α → vg_M → vg_R β} {r : β} {μ' : vg_M} {c n : Nat} (h : vg_b x f = some (r, μ', c, n)) :
    ∃ (a : α) (μ1 : vg_M) (c1 n1 c2 n2 : Nat), x = some (a, μ1, c1, n1) ∧ f a μ1 = some (r, μ', c2, n2) ∧ c = c1 + c2 ∧ n = n1 + n2 := by
  cases x with
  | none => cases h
  | some q =>
    obtain ⟨a, μ1, c1, n1⟩ := q
    cases hf : f a μ1 with
    | none => simp [vg_b, hf] at h
    | some w =>
      obtain ⟨b, μ2, c2, n2⟩ := w
      simp only [vg_b, hf, Option.some.injEq, Prod.mk.injEq] at h
      obtain ⟨rfl, rfl, rfl, rfl⟩ := h
      exact ⟨a, μ1, c1, n1, c2, n2, rfl, hf, rfl, rfl⟩
theorem vg_n_inv {β : Type} {k : Nat} {x : vg_R β} {r : β} {μ' : vg_M} {c n : Nat} (h : vg_n k x = some (r, μ', c, n)) :
    ∃ (c2 n2 : Nat), x = some (r, μ', c2, n2) ∧ c = 1 + c2 ∧ n = k + n2 := by
  cases x with
  | none => cases h
  | some w =>
    obtain ⟨b, μ2, c2, n2⟩ := w
    simp only [vg_n, Option.some.injEq, Prod.mk.injEq] at h
    obtain ⟨rfl, rfl, rfl, rfl⟩ := h
    exact ⟨c2, n2, rfl, rfl, rfl⟩
-- reads and writes
def vg_gI (μ : vg_M) (a ci k : Nat) : Option Int32 := match μ.1 a with
  | some (.inr o) => if o.1 = ci then (match o.2[k]? with
    | some (.int x) => some x
    | _ => none) else none
  | _ => none
def vg_gR (μ : vg_M) (a ci k : Nat) : Option (Option Nat) := match μ.1 a with
  | some (.inr o) => if o.1 = ci then (match o.2[k]? with
    | some (.ref x) => some (some x)
    | some .null => some none
    | _ => none) else none
  | _ => none
def vg_p (μ : vg_M) (a ci k : Nat) (v : Value) : Option vg_M := match μ.1 a with
  | some (.inr o) => if o.1 = ci ∧ k < o.2.length ∧ μ.2.2 ≤ a then some (va_up μ.1 a (some (.inr (o.1, o.2.set k v))), μ.2) else none
  | _ => none
/-- an int that a field or an answer of a small type keeps as it is -/
def vg_z (ty : FieldType) (x : Int32) : Option Int32 := if vp_nar ty x = x then some x else none
/-- an array's length -/
def vg_al (μ : vg_M) (a : Nat) : Option Int32 := match μ.1 a with
  | some (.inl x) => if x.1 < 6 then some (Int32.ofNat x.2.1) else none
  | _ => none
def vg_ix (i : Int32) (n : Nat) : Option Nat := if i < 0 then none else if n ≤ i.toNatClampNeg then none else some i.toNatClampNeg
def vg_aI (μ : vg_M) (a t : Nat) (i : Int32) : Option Int32 := match μ.1 a with
  | some (.inl (t', n, .inl f)) => if t' = t then (match vg_ix i n with
    | some j => some (f j)
    | none => none) else none
  | _ => none
def vg_tyI (t : Nat) : FieldType := match t with
  | 0 => .byte
  | 1 => .char
  | 2 => .int
  | _ => .boolean
def vg_sI (μ : vg_M) (a t : Nat) (i x : Int32) : Option vg_M := match μ.1 a with
  | some (.inl (t', n, .inl f)) => if t' = t ∧ μ.2.2 ≤ a then (match vg_ix i n with
    | some j => some (va_up μ.1 a (some (.inl (t', n, .inl (upd f j (vp_nar (vg_tyI t) x))))), μ.2)
    | none => none) else none
  | _ => none
def vg_aR (μ : vg_M) (a : Nat) (i : Int32) : Option (Option Nat) := match μ.1 a with
  | some (.inl (t', n, .inr (.inr (.inr (.inr f))))) => if t' = 5 then (match vg_ix i n with
    | some j => some (f j)
    | none => none) else none
  | _ => none
/-- a new object, its address is the heap's size -/
def vg_nO (μ : vg_M) (ci : Nat) (fs : List Value) : vg_M := (va_up μ.1 μ.2.1 (some (.inr (ci, fs))), μ.2.1 + 1, μ.2.2)
/-- a new array of zeros -/
def vg_nA (μ : vg_M) (t n : Nat) : vg_M := (va_up μ.1 μ.2.1 (some (.inl (t, n, .inl (fun _ => 0)))), μ.2.1 + 1, μ.2.2)
def vg_len (n : Int32) : Option Nat := if n < 0 then none else if 67108864 < n.toNatClampNeg then none else some n.toNatClampNeg
theorem vg_gI_inv {μ : vg_M} {a ci k : Nat} {x : Int32} (h : vg_gI μ a ci k = some x) : ∃ fs : List Value, μ.1 a = some (.inr (ci, fs)) ∧ fs[k]? = some (.int x) := by
  unfold vg_gI at h
  split at h
  · next o ho =>
    split at h
    · next hc =>
      split at h
      · next y hy =>
        cases h
        exact ⟨o.2, by rw [ho, ← hc], hy⟩
      · cases h
    · cases h
  · cases h
theorem vg_gR_inv {μ : vg_M} {a ci k : Nat} {x : Option Nat} (h : vg_gR μ a ci k = some x) : ∃ fs : List Value, μ.1 a = some (.inr (ci, fs)) ∧ fs[k]? = some (va_rf x) := by
  unfold vg_gR at h
  split at h
  · next o ho =>
    split at h
    · next hc =>
      split at h
      · next y hy =>
        cases h
        exact ⟨o.2, by rw [ho, ← hc], hy⟩
      · next hy =>
        cases h
        exact ⟨o.2, by rw [ho, ← hc], hy⟩
      · cases h
    · cases h
  · cases h
theorem vg_p_inv {μ μ' : vg_M} {a ci k : Nat} {v : Value} (h : vg_p μ a ci k v = some μ') : ∃ fs : List Value, μ.1 a = some (.inr (ci, fs)) ∧ k < fs.length ∧ μ.2.2 ≤ a ∧ μ' = (va_up μ.1 a (some (.inr (ci, fs.set k v))), μ.2) := by
  unfold vg_p at h
  split at h
  · next o ho =>
    split at h
    · next hc =>
      cases h
      exact ⟨o.2, by rw [ho, ← hc.1], hc.2.1, hc.2.2, by rw [hc.1]⟩
    · cases h
  · cases h
theorem vg_z_inv {ty : FieldType} {x y : Int32} (h : vg_z ty x = some y) : y = x ∧ vp_nar ty x = x := by
  unfold vg_z at h
  split at h
  · next hz => cases h; exact ⟨rfl, hz⟩
  · cases h
theorem vg_ix_inv {i : Int32} {n j : Nat} (h : vg_ix i n = some j) : vp_in i n ∧ j = i.toNatClampNeg := by
  unfold vg_ix at h
  split at h
  · cases h
  · next h1 =>
    split at h
    · cases h
    · next h2 => cases h; exact ⟨fun q => q.elim h1 h2, rfl⟩
theorem vg_al_inv {μ : vg_M} {a : Nat} {x : Int32} (h : vg_al μ a = some x) : ∃ (t : Nat) (v : vp_A), μ.1 a = some (.inl (t, v)) ∧ t < 6 ∧ Int32.ofNat v.1 = x := by
  unfold vg_al at h
  split at h
  · next q hq =>
    split at h
    · next ht => cases h; exact ⟨q.1, q.2, hq, ht, rfl⟩
    · cases h
  · cases h
theorem vg_aI_inv {μ : vg_M} {a t : Nat} {i x : Int32} (h : vg_aI μ a t i = some x) : ∃ (n : Nat) (f : Nat → Int32), μ.1 a = some (.inl (t, n, .inl f)) ∧ vp_in i n ∧ x = f i.toNatClampNeg := by
  unfold vg_aI at h
  split at h
  · next t' n f hq =>
    split at h
    · next ht =>
      subst ht
      split at h
      · next j hj =>
        cases h
        obtain ⟨h1, rfl⟩ := vg_ix_inv hj
        exact ⟨n, f, hq, h1, rfl⟩
      · cases h
    · cases h
  · cases h
theorem vg_aR_inv {μ : vg_M} {a : Nat} {i : Int32} {x : Option Nat} (h : vg_aR μ a i = some x) : ∃ (n : Nat) (f : Nat → Option Nat), μ.1 a = some (.inl (5, n, .inr (.inr (.inr (.inr f))))) ∧ vp_in i n ∧ x = f i.toNatClampNeg := by
  unfold vg_aR at h
  split at h
  · next t' n f hq =>
    split at h
    · next ht =>
      subst ht
      split at h
      · next j hj =>
        cases h
        obtain ⟨h1, rfl⟩ := vg_ix_inv hj
        exact ⟨n, f, hq, h1, rfl⟩
      · cases h
    · cases h
  · cases h
theorem vg_sI_inv {μ μ' : vg_M} {a t : Nat} {i x : Int32} (h : vg_sI μ a t i x = some μ') : ∃ (n : Nat) (f : Nat → Int32), μ.1 a = some (.inl (t, n, .inl f)) ∧ vp_in i n ∧ μ.2.2 ≤ a ∧ μ' = (va_up μ.1 a (some (.inl (t, n, .inl (upd f i.toNatClampNeg (vp_nar (vg_tyI t) x))))), μ.2) := by
  unfold vg_sI at h
  split at h
  · next t' n f hq =>
    split at h
    · next ht =>
      obtain ⟨ht, ha⟩ := ht
      subst ht
      split at h
      · next j hj =>
        cases h
        obtain ⟨h1, rfl⟩ := vg_ix_inv hj
        exact ⟨n, f, hq, h1, ha, rfl⟩
      · cases h
    · cases h
  · cases h
theorem vg_len_inv {n : Int32} {N : Nat} (h : vg_len n = some N) : ¬ n < 0 ∧ n.toNatClampNeg = N ∧ N ≤ 67108864 := by
  unfold vg_len at h
  split at h
  · cases h
  · next h1 =>
    split at h
    · cases h
    · next h2 => cases h; exact ⟨h1, rfl, by omega⟩
end
section
/-! Rows of the machine over the abstract memory. -/
def vg_X (D : va_G) (cy : Nat → ClassId) (p : Program) (s : State) (m : MethodId) (args : Array Value) (c : Code) (cc : ByteArray) (own : String) : Prop :=
  p.tables.exec = Jvm.exec ∧ c.code = cc ∧ (∀ w ∈ vg_T, w.before args s = true) ∧ s.vm.findClass own = some m.cls ∧ vg_K D cy s
/-- a class of the worlds: its words are there -/
def vg_Cl (ci : Nat) (C : String) (T : u_T) (N : Nat) (ty0 : Nat → FieldType) : Prop :=
  vwCl[ci]? = some (C, T, N) ∧ (∀ w ∈ u_ws C T N, w ∈ vg_T) ∧ (∀ k, k < N → parseFieldDescriptor (T k).2.2.1 = some (ty0 k)) ∧ ∀ a, a < N → ∀ b, b < N → a ≠ b → (T a).2.1 ≠ (T b).2.1
/-- entry index of own's pool is field k of class ci, of type ty -/
def vg_F (own : String) (index ci k : Nat) (ty : FieldType) (fin : Bool) : Prop := ∃ (ref C : String) (T : u_T) (N : Nat) (ty0 : Nat → FieldType), vg_Cl ci C T N ty0 ∧ k < N ∧ Cond.fieldLink own index ref (T k).2.1 (T k).2.2.1 ∈ vg_T ∧
  (ref = (T k).1 ∨ Cond.sameField ref (T k).1 (T k).2.1 (T k).2.2.1 ∈ vg_T) ∧ (T k).2.2.2 = fin ∧ (fin = true → (T k).1 = own) ∧ parseFieldDescriptor (T k).2.2.1 = some ty
theorem vg_one {D : va_G} {cl : List vw_C} {q : Nat × va_E} {H : Heap} (h : va_at D cl q H) : va_P D cl [q] H := by
  intro k x hk
  have hz : k < 1 := (List.getElem?_eq_some_iff.mp hk).1
  rw [show k = 0 by omega] at hk
  cases hk
  exact h
theorem vg_fit {ty : FieldType} {x : Int32} (hty : ty = .int ∨ ty = .boolean ∨ ty = .byte ∨ ty = .char ∨ ty = .short) (h : vp_nar ty x = x) : narrow ty (.int x) = .int x ∧ fits ty (.int x) = true := by
  have h1 : narrow ty (.int x) = .int x := by
    rcases hty with rfl | rfl | rfl | rfl | rfl <;> first | rfl | (unfold vp_nar at h; simp only [narrow] at h; simp only [narrow]; exact congrArg Value.int h)
  refine ⟨h1, ?_⟩
  rcases hty with rfl | rfl | rfl | rfl | rfl
  · rfl
  · rw [← h1]; exact fits_narrow_boolean _
  · rw [← h1]; exact fits_narrow_byte _
  · rw [← h1]; exact fits_narrow_char _
  · rw [← h1]; exact fits_narrow_short _
section VG
variable {p : Program} {l : Launch} {e : Env} {R : Room} {s : State} {m : MethodId} {args : Array Value} {below : List Frame} {meth : Method} {c : Code} {H : Heap} {locs : List Loc} {cells slots : Nat} {Q : State → Prop}
variable {cc : ByteArray} {pc : Nat} {ls : Array Slot} {rest : List Value} {D : va_G} {cy : Nat → ClassId} {H0 : Heap} {μ : vg_M} {own : String} {a : Nat}
theorem vg_getV (X : vg_X D cy p s m args c cc own) (hH : vg_H D cy H0 μ H) {index ci k : Nat} {ty : FieldType} {fin : Bool} (hF : vg_F own index ci k ty fin) {fs : List Value} (h1 : μ.1 a = some (.inr (ci, fs))) {v : Value} (h2 : fs[k]? = some v) (hdg : decode cc pc = .ok (.getfield index, 3))
    (kk : W p l e R s m args below meth c H locs cells slots Q (F0 m (pc + 3) ls (v :: rest))) : W p l e R s m args below meth c H locs cells slots Q (F0 m pc ls (.ref a :: rest)) := by
  obtain ⟨hx, hb, hts, hown, hK⟩ := X
  obtain ⟨ref, C, T, N, ty0, ⟨hc, hin, -, -⟩, hk, hl, hs, -⟩ := hF
  have hat : va_at D vwCl (a, .inr (ci, fs)) H := hH.2.2.2.1 a _ h1
  refine va_get (D := D) (cl := vwCl) (tys := vg_tys cy) (ws := [(a, .inr (ci, fs))]) (ci := ci) (C := C) (T := T) (N := N) (ref := ref) hx hb hts hin hown hK (vg_one hat) 0 rfl hc k hk (hts _ hl) ?_ h2 hdg kk
  rcases hs with rfl | hs
  · exact fun _ h => h
  · exact fun x h => u_same (hts _ hs) x h
theorem vg_getI (X : vg_X D cy p s m args c cc own) (hH : vg_H D cy H0 μ H) {index ci k : Nat} {ty : FieldType} {fin : Bool} (hF : vg_F own index ci k ty fin) (hdg : decode cc pc = .ok (.getfield index, 3)) {β : Type} {kont : Int32 → vg_R β} {res : β × vg_M × Nat × Nat} (hf : vg_o (vg_gI μ a ci k) kont = some res)
    (kk : ∀ x : Int32, kont x = some res → W p l e R s m args below meth c H locs cells slots Q (F0 m (pc + 3) ls (.int x :: rest))) : W p l e R s m args below meth c H locs cells slots Q (F0 m pc ls (.ref a :: rest)) := by
  obtain ⟨x, h0, hf⟩ := vg_o_inv hf
  obtain ⟨fs, h1, h2⟩ := vg_gI_inv h0
  exact vg_getV X hH hF h1 h2 hdg (kk x hf)
theorem vg_getR (X : vg_X D cy p s m args c cc own) (hH : vg_H D cy H0 μ H) {index ci k : Nat} {ty : FieldType} {fin : Bool} (hF : vg_F own index ci k ty fin) (hdg : decode cc pc = .ok (.getfield index, 3)) {β : Type} {kont : Option Nat → vg_R β} {res : β × vg_M × Nat × Nat} (hf : vg_o (vg_gR μ a ci k) kont = some res)
    (kk : ∀ x : Option Nat, kont x = some res → W p l e R s m args below meth c H locs cells slots Q (F0 m (pc + 3) ls (va_rf x :: rest))) : W p l e R s m args below meth c H locs cells slots Q (F0 m pc ls (.ref a :: rest)) := by
  obtain ⟨x, h0, hf⟩ := vg_o_inv hf
  obtain ⟨fs, h1, h2⟩ := vg_gR_inv h0
  exact vg_getV X hH hF h1 h2 hdg (kk x hf)
theorem vg_putV (X : vg_X D cy p s m args c cc own) (hH : vg_H D cy H0 μ H) (hL : ∀ z ∈ locs, H0.size ≤ z.base) {index ci k : Nat} {ty : FieldType} (hF : vg_F own index ci k ty false) {v : Value} (hn : narrow ty v = v) (hfit : fits ty v = true) (hdg : decode cc pc = .ok (.putfield index, 3)) {β : Type} {kont : vg_M → vg_R β} {res : β × vg_M × Nat × Nat} (hf : vg_o (vg_p μ a ci k v) kont = some res)
    (kk : ∀ (μ1 : vg_M) (H1 : Heap) (locs1 : List Loc), kont μ1 = some res → vg_H D cy H0 μ1 H1 → (∀ z ∈ locs1, H0.size ≤ z.base) → W p l e R s m args below meth c H1 locs1 cells slots Q (F0 m (pc + 3) ls rest)) : W p l e R s m args below meth c H locs cells slots Q (F0 m pc ls (v :: .ref a :: rest)) := by
  obtain ⟨hx, hb, hts, hown, hK⟩ := X
  obtain ⟨ref, C, T, N, ty0, ⟨hc, hin, hty, hnm⟩, hk, hl, hs, hfin, -, hd⟩ := hF
  obtain ⟨μ1, h0, hf⟩ := vg_o_inv hf
  obtain ⟨fs, h1, hkl, ha, rfl⟩ := vg_p_inv h0
  have hat : va_at D vwCl (a, .inr (ci, fs)) H := hH.2.2.2.1 a _ h1
  have hap := va_apart (own := own) hts hin ty0 hty hnm hK hc
  have hsame : ∀ x, s.fieldFound? (T k).1 (T k).2.1 (T k).2.2.1 = some x → s.fieldFound? ref (T k).2.1 (T k).2.2.1 = some x := by
    rcases hs with rfl | hs
    · exact fun _ h => h
    · exact fun x h => u_same (hts _ hs) x h
  obtain ⟨r, hr1, cell, q1, q2, q3, q4⟩ := hat
  have hr : r = (C, T, N) := Option.some.inj (hr1.symm.trans hc)
  subst hr
  obtain ⟨hS, hfc, kC, hkC, hkind⟩ := hK.1 ci _ hc
  obtain ⟨cf, kf, fi, f, hi, hsl⟩ := hS k hk
  have hlay := hts _ (hin _ (u_in_lay hk))
  unfold u_lay at hlay
  rw [if_neg (by rw [hfin]; decide)] at hlay
  have hst := (u_facts hfc hkC (u_lays hts hin hk) hi).1
  have h6 := u_store hfc hkC hkind hlay hi hd hn hfit
  refine W.putK hx hb (f := f) ⟨hown, hts _ hl, ⟨_, _, _, hsame _ hi⟩, hst⟩ (by rw [q2]; exact h6) q1 q3 (by rw [hsl]; exact k2_hasslot (q4 k hk)) rfl rfl hdg fun H' e1 e2 e3 => ?_
  rw [hsl] at e1 ⊢
  refine kk _ H' _ hf (hH.put (e := .inr (ci, fs.set k v)) ha ⟨_, hc, t_OB.to (V := updV (vp_V fs) k v) ⟨_, e1, q2, q3, t_set q4 hap hk v⟩ (fun j _ => vp_updV_set hkl v j)⟩ e2 e3) ?_
  intro z hz
  rcases List.mem_append.mp hz with h | h
  · exact hL z h
  · rw [List.mem_singleton.mp h, ← hH.2.1]
    exact ha
theorem vg_putF (X : vg_X D cy p s m args c cc own) (hinit : meth.name = "<init>") (hH : vg_H D cy H0 μ H) (hL : ∀ z ∈ locs, H0.size ≤ z.base) {index ci k : Nat} {ty : FieldType} (hF : vg_F own index ci k ty true) {v : Value} (hn : narrow ty v = v) (hfit : fits ty v = true) (hdg : decode cc pc = .ok (.putfield index, 3)) {β : Type} {kont : vg_M → vg_R β} {res : β × vg_M × Nat × Nat} (hf : vg_o (vg_p μ a ci k v) kont = some res)
    (kk : ∀ (μ1 : vg_M) (H1 : Heap) (locs1 : List Loc), kont μ1 = some res → vg_H D cy H0 μ1 H1 → (∀ z ∈ locs1, H0.size ≤ z.base) → W p l e R s m args below meth c H1 locs1 cells slots Q (F0 m (pc + 3) ls rest)) : W p l e R s m args below meth c H locs cells slots Q (F0 m pc ls (v :: .ref a :: rest)) := by
  obtain ⟨hx, hb, hts, hown, hK⟩ := X
  obtain ⟨ref, C, T, N, ty0, ⟨hc, hin, hty, hnm⟩, hk, hl, hs, hfin, hdecl, hd⟩ := hF
  obtain ⟨μ1, h0, hf⟩ := vg_o_inv hf
  obtain ⟨fs, h1, hkl, ha, rfl⟩ := vg_p_inv h0
  have hat : va_at D vwCl (a, .inr (ci, fs)) H := hH.2.2.2.1 a _ h1
  have hap := va_apart (own := own) hts hin ty0 hty hnm hK hc
  have hsame : ∀ x, s.fieldFound? (T k).1 (T k).2.1 (T k).2.2.1 = some x → s.fieldFound? ref (T k).2.1 (T k).2.2.1 = some x := by
    rcases hs with rfl | hs
    · exact fun _ h => h
    · exact fun x h => u_same (hts _ hs) x h
  obtain ⟨r, hr1, cell, q1, q2, q3, q4⟩ := hat
  have hr : r = (C, T, N) := Option.some.inj (hr1.symm.trans hc)
  subst hr
  obtain ⟨hS, hfc, kC, hkC, hkind⟩ := hK.1 ci _ hc
  obtain ⟨cf, kf, fi, f, hi, hsl⟩ := hS k hk
  have hlay := hts _ (hin _ (u_in_lay hk))
  unfold u_lay at hlay
  rw [if_pos hfin] at hlay
  have hst := (u_facts hfc hkC (u_lays hts hin hk) hi).1
  have hcf : m.cls = cf := by
    obtain ⟨_, _, c', _, _, _, -, -, hf', -, -, -, hown2, -⟩ := Cond.laysFinal_spec hlay
    have e1 : c' = cf := by have := hi.symm.trans hf'; simp at this; exact this.1.symm
    rw [hdecl rfl] at hown2
    rw [← e1]; exact Option.some.inj (hown.symm.trans hown2)
  have h6 := u_fits hfc hkC hkind (Or.inr hlay) hi hd hn hfit
  refine W.putFinK hx hb hown (hts _ hl) (hsame _ hi) hst hcf hinit (by rw [q2]; exact h6) q1 q3 (by rw [hsl]; exact k2_hasslot (q4 k hk)) rfl rfl hdg fun H' e1 e2 e3 => ?_
  rw [hsl] at e1 ⊢
  refine kk _ H' _ hf (hH.put (e := .inr (ci, fs.set k v)) ha ⟨_, hc, t_OB.to (V := updV (vp_V fs) k v) ⟨_, e1, q2, q3, t_set q4 hap hk v⟩ (fun j _ => vp_updV_set hkl v j)⟩ e2 e3) ?_
  intro z hz
  rcases List.mem_append.mp hz with h | h
  · exact hL z h
  · rw [List.mem_singleton.mp h, ← hH.2.1]
    exact ha
theorem vg_alen (X : vg_X D cy p s m args c cc own) (hH : vg_H D cy H0 μ H) (hdg : decode cc pc = .ok (.arraylength, 1)) {β : Type} {kont : Int32 → vg_R β} {res : β × vg_M × Nat × Nat} (hf : vg_o (vg_al μ a) kont = some res)
    (kk : ∀ x : Int32, kont x = some res → W p l e R s m args below meth c H locs cells slots Q (F0 m (pc + 1) ls (.int x :: rest))) : W p l e R s m args below meth c H locs cells slots Q (F0 m pc ls (.ref a :: rest)) := by
  obtain ⟨hx, hb, hts, hown, hK⟩ := X
  obtain ⟨x, h0, hf⟩ := vg_o_inv hf
  obtain ⟨t, v, h1, ht, hv⟩ := vg_al_inv h0
  have hat : va_at D vwCl (a, .inl (cy t, v)) H := hH.2.2.2.1 a _ h1
  have key : ∀ ty : FieldType, (vg_tys cy)[t]? = some (cy t, ty) → W p l e R s m args below meth c H locs cells slots Q (F0 m pc ls (.ref a :: rest)) := fun ty hty =>
    va_alen (D := D) (cl := vwCl) (tys := vg_tys cy) (ws := [(a, .inl (cy t, v))]) hx hb hK (vg_one hat) 0 t rfl hty hv hdg (kk x hf)
  match t, ht with
  | 0, _ => exact key _ rfl
  | 1, _ => exact key _ rfl
  | 2, _ => exact key _ rfl
  | 3, _ => exact key _ rfl
  | 4, _ => exact key _ rfl
  | 5, _ => exact key _ rfl
theorem vg_iald (X : vg_X D cy p s m args c cc own) (hH : vg_H D cy H0 μ H) {i : Int32} (hdg : decode cc pc = .ok (.iaload, 1)) {β : Type} {kont : Int32 → vg_R β} {res : β × vg_M × Nat × Nat} (hf : vg_o (vg_aI μ a 2 i) kont = some res)
    (kk : ∀ x : Int32, kont x = some res → W p l e R s m args below meth c H locs cells slots Q (F0 m (pc + 1) ls (.int x :: rest))) : W p l e R s m args below meth c H locs cells slots Q (F0 m pc ls (.int i :: .ref a :: rest)) := by
  obtain ⟨hx, hb, hts, hown, hK⟩ := X
  obtain ⟨x, h0, hf⟩ := vg_o_inv hf
  obtain ⟨n, f, h1, hin, rfl⟩ := vg_aI_inv h0
  have hat : va_at D vwCl (a, .inl (cy 2, n, .inl f)) H := hH.2.2.2.1 a _ h1
  exact va_iald (D := D) (cl := vwCl) (tys := vg_tys cy) (ws := [(a, .inl (cy 2, n, .inl f))]) hx hb hK (vg_one hat) 0 2 rfl rfl hin hdg (kk _ hf)
theorem vg_bald (X : vg_X D cy p s m args c cc own) (hH : vg_H D cy H0 μ H) {i : Int32} (hdg : decode cc pc = .ok (.baload, 1)) {β : Type} {kont : Int32 → vg_R β} {res : β × vg_M × Nat × Nat} (hf : vg_o (vg_aI μ a 0 i) kont = some res)
    (kk : ∀ x : Int32, kont x = some res → W p l e R s m args below meth c H locs cells slots Q (F0 m (pc + 1) ls (.int x :: rest))) : W p l e R s m args below meth c H locs cells slots Q (F0 m pc ls (.int i :: .ref a :: rest)) := by
  obtain ⟨hx, hb, hts, hown, hK⟩ := X
  obtain ⟨x, h0, hf⟩ := vg_o_inv hf
  obtain ⟨n, f, h1, hin, rfl⟩ := vg_aI_inv h0
  have hat : va_at D vwCl (a, .inl (cy 0, n, .inl f)) H := hH.2.2.2.1 a _ h1
  exact va_bald (D := D) (cl := vwCl) (tys := vg_tys cy) (ws := [(a, .inl (cy 0, n, .inl f))]) hx hb hK (vg_one hat) 0 0 rfl rfl hin hdg (kk _ hf)
theorem vg_zald (X : vg_X D cy p s m args c cc own) (hH : vg_H D cy H0 μ H) {i : Int32} (hdg : decode cc pc = .ok (.baload, 1)) {β : Type} {kont : Int32 → vg_R β} {res : β × vg_M × Nat × Nat} (hf : vg_o (vg_aI μ a 3 i) kont = some res)
    (kk : ∀ x : Int32, kont x = some res → W p l e R s m args below meth c H locs cells slots Q (F0 m (pc + 1) ls (.int x :: rest))) : W p l e R s m args below meth c H locs cells slots Q (F0 m pc ls (.int i :: .ref a :: rest)) := by
  obtain ⟨hx, hb, hts, hown, hK⟩ := X
  obtain ⟨x, h0, hf⟩ := vg_o_inv hf
  obtain ⟨n, f, h1, hin, rfl⟩ := vg_aI_inv h0
  have hat : va_at D vwCl (a, .inl (cy 3, n, .inl f)) H := hH.2.2.2.1 a _ h1
  exact va_zald (D := D) (cl := vwCl) (tys := vg_tys cy) (ws := [(a, .inl (cy 3, n, .inl f))]) hx hb hK (vg_one hat) 0 3 rfl rfl hin hdg (kk _ hf)
theorem vg_cald (X : vg_X D cy p s m args c cc own) (hH : vg_H D cy H0 μ H) {i : Int32} (hdg : decode cc pc = .ok (.caload, 1)) {β : Type} {kont : Int32 → vg_R β} {res : β × vg_M × Nat × Nat} (hf : vg_o (vg_aI μ a 1 i) kont = some res)
    (kk : ∀ x : Int32, kont x = some res → W p l e R s m args below meth c H locs cells slots Q (F0 m (pc + 1) ls (.int x :: rest))) : W p l e R s m args below meth c H locs cells slots Q (F0 m pc ls (.int i :: .ref a :: rest)) := by
  obtain ⟨hx, hb, hts, hown, hK⟩ := X
  obtain ⟨x, h0, hf⟩ := vg_o_inv hf
  obtain ⟨n, f, h1, hin, rfl⟩ := vg_aI_inv h0
  have hat : va_at D vwCl (a, .inl (cy 1, n, .inl f)) H := hH.2.2.2.1 a _ h1
  exact va_cald (D := D) (cl := vwCl) (tys := vg_tys cy) (ws := [(a, .inl (cy 1, n, .inl f))]) hx hb hK (vg_one hat) 0 1 rfl rfl hin hdg (kk _ hf)
theorem vg_aald (X : vg_X D cy p s m args c cc own) (hH : vg_H D cy H0 μ H) {i : Int32} (hdg : decode cc pc = .ok (.aaload, 1)) {β : Type} {kont : Option Nat → vg_R β} {res : β × vg_M × Nat × Nat} (hf : vg_o (vg_aR μ a i) kont = some res)
    (kk : ∀ x : Option Nat, kont x = some res → W p l e R s m args below meth c H locs cells slots Q (F0 m (pc + 1) ls (va_rf x :: rest))) : W p l e R s m args below meth c H locs cells slots Q (F0 m pc ls (.int i :: .ref a :: rest)) := by
  obtain ⟨hx, hb, hts, hown, hK⟩ := X
  obtain ⟨x, h0, hf⟩ := vg_o_inv hf
  obtain ⟨n, f, h1, hin, rfl⟩ := vg_aR_inv h0
  have hat : va_at D vwCl (a, .inl (cy 5, n, .inr (.inr (.inr (.inr f))))) H := hH.2.2.2.1 a _ h1
  exact va_aldq (D := D) (cl := vwCl) (tys := vg_tys cy) (ws := [(a, .inl (cy 5, n, .inr (.inr (.inr (.inr f)))))]) hx hb hK (vg_one hat) 0 5 rfl rfl hin hdg (kk _ hf)
theorem vg_arrSet {t n : Nat} {f : Nat → Int32} {i x : Int32} {H1 : Heap} (hin : vp_in i n) (e : H1[a]? = some ((vp_cell (cy t) (n, .inl f)).setSlot i.toNatClampNeg (.int x))) : va_at D vwCl (a, vg_c cy (.inl (t, n, .inl (upd f i.toNatClampNeg x)))) H1 := by
  show H1[a]? = some (vp_cell (cy t) (n, .inl (upd f i.toNatClampNeg x)))
  rw [e, vp_cell_i, vp_cell_i, arrV_store]
  congr 2
  funext q
  by_cases hq : q = i.toNatClampNeg
  · subst hq
    simp [updV, upd]
  · simp [updV, upd, hq]
theorem vg_locs {k : Nat} (hL : ∀ z ∈ locs, H0.size ≤ z.base) (hH : vg_H D cy H0 μ H) (ha : μ.2.2 ≤ a) : ∀ z ∈ locs ++ [⟨a, k⟩], H0.size ≤ z.base := by
  intro z hz
  rcases List.mem_append.mp hz with h | h
  · exact hL z h
  · rw [List.mem_singleton.mp h, ← hH.2.1]
    exact ha
theorem vg_iast (X : vg_X D cy p s m args c cc own) (hH : vg_H D cy H0 μ H) (hL : ∀ z ∈ locs, H0.size ≤ z.base) {i x : Int32} (hdg : decode cc pc = .ok (.iastore, 1)) {β : Type} {kont : vg_M → vg_R β} {res : β × vg_M × Nat × Nat} (hf : vg_o (vg_sI μ a 2 i x) kont = some res)
    (kk : ∀ (μ1 : vg_M) (H1 : Heap) (locs1 : List Loc), kont μ1 = some res → vg_H D cy H0 μ1 H1 → (∀ z ∈ locs1, H0.size ≤ z.base) → W p l e R s m args below meth c H1 locs1 cells slots Q (F0 m (pc + 1) ls rest)) : W p l e R s m args below meth c H locs cells slots Q (F0 m pc ls (.int x :: .int i :: .ref a :: rest)) := by
  obtain ⟨hx, hb, hts, hown, hK⟩ := X
  obtain ⟨μ1, h0, hf⟩ := vg_o_inv hf
  obtain ⟨n, f, h1, hin, ha, rfl⟩ := vg_sI_inv h0
  have hat : va_at D vwCl (a, .inl (cy 2, n, .inl f)) H := hH.2.2.2.1 a _ h1
  refine W.iast hx hb hat ((hK.2 2 _ rfl).1 n (fun j => .int (f j))) (fun q => by cases q) (by show ¬ (i < 0 ∨ (arrV _ _ _).slots.size ≤ _); rw [arrV_size]; exact hin) rfl rfl hdg fun H1 e z oq => ?_
  exact kk _ H1 _ hf (hH.put ha (vg_arrSet hin e) z oq) (vg_locs hL hH ha)
theorem vg_bast (X : vg_X D cy p s m args c cc own) (hH : vg_H D cy H0 μ H) (hL : ∀ z ∈ locs, H0.size ≤ z.base) {i x : Int32} (hdg : decode cc pc = .ok (.bastore, 1)) {β : Type} {kont : vg_M → vg_R β} {res : β × vg_M × Nat × Nat} (hf : vg_o (vg_sI μ a 0 i x) kont = some res)
    (kk : ∀ (μ1 : vg_M) (H1 : Heap) (locs1 : List Loc), kont μ1 = some res → vg_H D cy H0 μ1 H1 → (∀ z ∈ locs1, H0.size ≤ z.base) → W p l e R s m args below meth c H1 locs1 cells slots Q (F0 m (pc + 1) ls rest)) : W p l e R s m args below meth c H locs cells slots Q (F0 m pc ls (.int x :: .int i :: .ref a :: rest)) := by
  obtain ⟨hx, hb, hts, hown, hK⟩ := X
  obtain ⟨μ1, h0, hf⟩ := vg_o_inv hf
  obtain ⟨n, f, h1, hin, ha, rfl⟩ := vg_sI_inv h0
  have hat : va_at D vwCl (a, .inl (cy 0, n, .inl f)) H := hH.2.2.2.1 a _ h1
  refine W.bast hx hb hat ((hK.2 0 _ rfl).1 n (fun j => .int (f j))) (fun q => by cases q) (by show ¬ (i < 0 ∨ (arrV _ _ _).slots.size ≤ _); rw [arrV_size]; exact hin) rfl rfl hdg fun H1 e z oq => ?_
  exact kk _ H1 _ hf (hH.put ha (vg_arrSet hin e) z oq) (vg_locs hL hH ha)
theorem vg_zast (X : vg_X D cy p s m args c cc own) (hH : vg_H D cy H0 μ H) (hL : ∀ z ∈ locs, H0.size ≤ z.base) {i x : Int32} (hdg : decode cc pc = .ok (.bastore, 1)) {β : Type} {kont : vg_M → vg_R β} {res : β × vg_M × Nat × Nat} (hf : vg_o (vg_sI μ a 3 i x) kont = some res)
    (kk : ∀ (μ1 : vg_M) (H1 : Heap) (locs1 : List Loc), kont μ1 = some res → vg_H D cy H0 μ1 H1 → (∀ z ∈ locs1, H0.size ≤ z.base) → W p l e R s m args below meth c H1 locs1 cells slots Q (F0 m (pc + 1) ls rest)) : W p l e R s m args below meth c H locs cells slots Q (F0 m pc ls (.int x :: .int i :: .ref a :: rest)) := by
  obtain ⟨hx, hb, hts, hown, hK⟩ := X
  obtain ⟨μ1, h0, hf⟩ := vg_o_inv hf
  obtain ⟨n, f, h1, hin, ha, rfl⟩ := vg_sI_inv h0
  have hat : va_at D vwCl (a, .inl (cy 3, n, .inl f)) H := hH.2.2.2.1 a _ h1
  refine W.zast hx hb hat ((hK.2 3 _ rfl).1 n (fun j => .int (f j))) (fun q => by cases q) (by show ¬ (i < 0 ∨ (arrV _ _ _).slots.size ≤ _); rw [arrV_size]; exact hin) rfl rfl hdg fun H1 e z oq => ?_
  exact kk _ H1 _ hf (hH.put ha (vg_arrSet hin e) z oq) (vg_locs hL hH ha)
theorem vg_cast (X : vg_X D cy p s m args c cc own) (hH : vg_H D cy H0 μ H) (hL : ∀ z ∈ locs, H0.size ≤ z.base) {i x : Int32} (hdg : decode cc pc = .ok (.castore, 1)) {β : Type} {kont : vg_M → vg_R β} {res : β × vg_M × Nat × Nat} (hf : vg_o (vg_sI μ a 1 i x) kont = some res)
    (kk : ∀ (μ1 : vg_M) (H1 : Heap) (locs1 : List Loc), kont μ1 = some res → vg_H D cy H0 μ1 H1 → (∀ z ∈ locs1, H0.size ≤ z.base) → W p l e R s m args below meth c H1 locs1 cells slots Q (F0 m (pc + 1) ls rest)) : W p l e R s m args below meth c H locs cells slots Q (F0 m pc ls (.int x :: .int i :: .ref a :: rest)) := by
  obtain ⟨hx, hb, hts, hown, hK⟩ := X
  obtain ⟨μ1, h0, hf⟩ := vg_o_inv hf
  obtain ⟨n, f, h1, hin, ha, rfl⟩ := vg_sI_inv h0
  have hat : va_at D vwCl (a, .inl (cy 1, n, .inl f)) H := hH.2.2.2.1 a _ h1
  refine W.cast hx hb hat ((hK.2 1 _ rfl).1 n (fun j => .int (f j))) (fun q => by cases q) (by show ¬ (i < 0 ∨ (arrV _ _ _).slots.size ≤ _); rw [arrV_size]; exact hin) rfl rfl hdg fun H1 e z oq => ?_
  exact kk _ H1 _ hf (hH.put ha (vg_arrSet hin e) z oq) (vg_locs hL hH ha)
end VG
end
section
/-! Rows: locals, new cells, answers, calls. -/
theorem vg_rfc (x : Option Nat) : (va_rf x).category = 1 := by cases x <;> rfl
theorem vg_ip {P : Prop} [Decidable P] {α : Type} {A B r : α} (hp : P) (hf : (if P then A else B) = r) : A = r := by rw [if_pos hp] at hf; exact hf
theorem vg_if {P : Prop} [Decidable P] {α : Type} {A B r : α} (hp : ¬ P) (hf : (if P then A else B) = r) : B = r := by rw [if_neg hp] at hf; exact hf
def vg_m {β : Type} (x : Option Nat) (A : β) (B : Nat → β) : β := match x with
  | none => A
  | some a => B a
def vg_ret {α : Type} (v : α) (μ : vg_M) : vg_R α := some (v, μ, 0, 0)
def vg_nw {β : Type} (k q : Nat) (μ1 : vg_M) (f : Nat → vg_M → vg_R β) : vg_R β := vg_n k (f q μ1)
/-- a call on an object of class ci -/
def vg_cv {α β : Type} (ci a : Nat) (μ : vg_M) (x : vg_R α) (f : α → vg_M → vg_R β) : vg_R β := match μ.1 a with
  | some (.inr o) => if o.1 = ci then vg_b x f else none
  | _ => none
theorem vg_cv_inv {α β : Type} {ci a : Nat} {μ : vg_M} {x : vg_R α} {f : α → vg_M → vg_R β} {r : β × vg_M × Nat × Nat} (h : vg_cv ci a μ x f = some r) : ∃ fs : List Value, μ.1 a = some (.inr (ci, fs)) ∧ vg_b x f = some r := by
  unfold vg_cv at h
  split at h
  · next o ho =>
    split at h
    · next hc => exact ⟨o.2, by rw [ho, ← hc], h⟩
    · cases h
  · cases h
def vg_rm (h c n : Nat) : Room := { frames := h, cells := c, slots := n, locals := 60 * h }
def vg_Pc (D : va_G) (cy : Nat → ClassId) (H0 : Heap) (μ : vg_M) (av : List Value) : Array Value → State → Prop := fun v U => v = av.toArray ∧ vg_H D cy H0 μ U.heap ∧ vg_K D cy U
def vg_Qc (D : va_G) (cy : Nat → ClassId) (H0 : Heap) (μ' : vg_M) (rv : Option Value) : Array Value → State → Outcome → State → Prop := fun _ _ o t => o = .returned rv ∧ vg_H D cy H0 μ' t.heap
def vg_fr (H0 : Heap) : Addr → Prop := fun q => H0.size ≤ q
/-- a contract: the method does what its program says -/
def vg_Met (l : Launch) (D : va_G) (cy : Nat → ClassId) (H0 : Heap) (y : MethodName) (bytes : ByteArray) (maxL : Nat) (ret : Option FieldType) (h : Nat) (μ : vg_M) (av : List Value) (rv : Option Value) (μ1 : vg_M) (c1 n1 : Nat) : Prop :=
  Met l y (.code y bytes maxL ret :: vg_T) (vg_rm h c1 n1) (vg_Pc D cy H0 μ av) (vg_Qc D cy H0 μ1 rv) c1 n1 (vg_fr H0)
theorem vg_blind {D : va_G} {cy : Nat → ClassId} {H0 : Heap} {μ : vg_M} {av : List Value} : FrameBlind (vg_Pc D cy H0 μ av) := fun a U g mk q => ⟨q.1, q.2.1, va_K.moved (u := U) (U := U.calling g mk a) (Vm.Alike.refl U.vm) q.2.2⟩
def vg_l (ls : Array Slot) (nL : Nat) (lv : List (Nat × Value)) : Prop := lv_has ls nL lv ∧ ∀ q ∈ lv, q.2.category = 1
theorem vg_l.sub {ls : Array Slot} {nL : Nat} {lv lv' : List (Nat × Value)} (h : vg_l ls nL lv) (ks : List Nat) (hl : lv_pick lv ks = lv') : vg_l ls nL lv' := by
  refine ⟨lv_sub h.1 ks hl, fun q hq => h.2 q ?_⟩
  subst hl
  unfold lv_pick at hq
  obtain ⟨i, -, hi⟩ := List.mem_filterMap.mp hq
  exact List.mem_of_getElem? hi
theorem vg_lset {lv lv' : List (Nat × Value)} {i : Nat} {v : Value} (h : ∀ q ∈ lv, q.2.category = 1) (hl : (i, v) :: lv.filter (fun q => !(q.1 == i)) = lv') : (i, v) :: lv.filter (fun q => !(q.1 == i) && !(q.1 + 1 == i && q.2.category == 2)) = lv' := by
  rw [← hl]
  congr 1
  apply List.filter_congr
  intro q hq
  rw [h q hq]
  simp
theorem vg_lcat {lv lv' : List (Nat × Value)} {i : Nat} {v : Value} (h : ∀ q ∈ lv, q.2.category = 1) (hv : v.category = 1) (hl : (i, v) :: lv.filter (fun q => !(q.1 == i)) = lv') : ∀ q ∈ lv', q.2.category = 1 := by
  intro q hq
  rw [← hl] at hq
  rcases List.mem_cons.mp hq with rfl | hq
  · exact hv
  · exact h q (List.mem_filter.mp hq).1
theorem vg_largs (vs : List Value) (h : ∀ v ∈ vs, v.category = 1) (i : Nat) : lv_args i vs = (vs.zipIdx i).map (fun q => (q.2, q.1)) := by
  induction vs generalizing i with
  | nil => rfl
  | cons v vs ih =>
    have hv := h v List.mem_cons_self
    simp only [lv_args, hv, List.zipIdx_cons, List.map_cons]
    rw [ih (fun w hw => h w (List.mem_cons_of_mem _ hw))]
    rfl
theorem vg_sl (vs : List Value) (h : ∀ v ∈ vs, v.category = 1) : (lg_sl vs).length = vs.length := by
  induction vs with
  | nil => rfl
  | cons v vs ih =>
    have hv := h v List.mem_cons_self
    have e : lg_sl (v :: vs) = .val v :: lg_sl vs := by simp [lg_sl, hv]
    rw [e, List.length_cons, List.length_cons, ih (fun w hw => h w (List.mem_cons_of_mem _ hw))]
section VG
variable {p : Program} {l : Launch} {e : Env} {R : Room} {s : State} {m : MethodId} {args : Array Value} {below : List Frame} {meth : Method} {c : Code} {H : Heap} {locs : List Loc} {cells slots : Nat} {Q : State → Prop}
variable {cc : ByteArray} {pc : Nat} {ls : Array Slot} {rest : List Value} {D : va_G} {cy : Nat → ClassId} {H0 : Heap} {μ μ' : vg_M} {own : String} {a cn nn C0 N0 nL : Nat} {lv lv' : List (Nat × Value)}
theorem vg_aload (hexec : p.tables.exec = Jvm.exec) (hb : c.code = cc) {i : Nat} {x : Option Nat} (hdg : decode cc pc = .ok (.aload i, 2)) (hl : ls[i]? = some (.val (va_rf x)))
    (kk : W p l e R s m args below meth c H locs cells slots Q (F0 m (pc + 2) ls (va_rf x :: rest))) : W p l e R s m args below meth c H locs cells slots Q (F0 m pc ls rest) := by
  cases x with
  | none => exact lv_aloadN hexec hb hdg hl kk
  | some a => exact lv_aload hexec hb hdg hl kk
theorem vg_aload_n (hexec : p.tables.exec = Jvm.exec) (hb : c.code = cc) {k : Fin 4} {i : Nat} {x : Option Nat} (hdg : decode cc pc = .ok (.aload_n k, 1)) (hi : (k : Nat) = i) (hl : ls[i]? = some (.val (va_rf x)))
    (kk : W p l e R s m args below meth c H locs cells slots Q (F0 m (pc + 1) ls (va_rf x :: rest))) : W p l e R s m args below meth c H locs cells slots Q (F0 m pc ls rest) := by
  cases x with
  | none => exact lv_aload_nN hexec hb hdg hi hl kk
  | some a => exact lv_aload_n hexec hb hdg hi hl kk
theorem vg_istore (hexec : p.tables.exec = Jvm.exec) (hb : c.code = cc) {i : Nat} {x : Int32} (hdg : decode cc pc = .ok (.istore i, 2)) (h : vg_l ls nL lv) (hn : i < nL) (hl : (i, Value.int x) :: lv.filter (fun q => !(q.1 == i)) = lv')
    (kk : ∀ ls' : Array Slot, vg_l ls' nL lv' → W p l e R s m args below meth c H locs cells slots Q (F0 m (pc + 2) ls' rest)) : W p l e R s m args below meth c H locs cells slots Q (F0 m pc ls (.int x :: rest)) :=
  lv_istore hexec hb hdg h.1 hn (vg_lset h.2 hl) fun ls' h' => kk ls' ⟨h', vg_lcat h.2 rfl hl⟩
theorem vg_istore_n (hexec : p.tables.exec = Jvm.exec) (hb : c.code = cc) {k : Fin 4} {i : Nat} {x : Int32} (hdg : decode cc pc = .ok (.istore_n k, 1)) (hi : (k : Nat) = i) (h : vg_l ls nL lv) (hn : i < nL) (hl : (i, Value.int x) :: lv.filter (fun q => !(q.1 == i)) = lv')
    (kk : ∀ ls' : Array Slot, vg_l ls' nL lv' → W p l e R s m args below meth c H locs cells slots Q (F0 m (pc + 1) ls' rest)) : W p l e R s m args below meth c H locs cells slots Q (F0 m pc ls (.int x :: rest)) :=
  lv_istore_n hexec hb hdg hi h.1 hn (vg_lset h.2 hl) fun ls' h' => kk ls' ⟨h', vg_lcat h.2 rfl hl⟩
theorem vg_astore (hexec : p.tables.exec = Jvm.exec) (hb : c.code = cc) {i : Nat} {x : Option Nat} (hdg : decode cc pc = .ok (.astore i, 2)) (h : vg_l ls nL lv) (hn : i < nL) (hl : (i, va_rf x) :: lv.filter (fun q => !(q.1 == i)) = lv')
    (kk : ∀ ls' : Array Slot, vg_l ls' nL lv' → W p l e R s m args below meth c H locs cells slots Q (F0 m (pc + 2) ls' rest)) : W p l e R s m args below meth c H locs cells slots Q (F0 m pc ls (va_rf x :: rest)) := by
  cases x with
  | none => exact lv_astoreN hexec hb hdg h.1 hn (vg_lset h.2 hl) fun ls' h' => kk ls' ⟨h', vg_lcat h.2 rfl hl⟩
  | some a => exact lv_astore hexec hb hdg h.1 hn (vg_lset h.2 hl) fun ls' h' => kk ls' ⟨h', vg_lcat h.2 rfl hl⟩
theorem vg_astore_n (hexec : p.tables.exec = Jvm.exec) (hb : c.code = cc) {k : Fin 4} {i : Nat} {x : Option Nat} (hdg : decode cc pc = .ok (.astore_n k, 1)) (hi : (k : Nat) = i) (h : vg_l ls nL lv) (hn : i < nL) (hl : (i, va_rf x) :: lv.filter (fun q => !(q.1 == i)) = lv')
    (kk : ∀ ls' : Array Slot, vg_l ls' nL lv' → W p l e R s m args below meth c H locs cells slots Q (F0 m (pc + 1) ls' rest)) : W p l e R s m args below meth c H locs cells slots Q (F0 m pc ls (va_rf x :: rest)) := by
  cases x with
  | none => exact lv_astore_nN hexec hb hdg hi h.1 hn (vg_lset h.2 hl) fun ls' h' => kk ls' ⟨h', vg_lcat h.2 rfl hl⟩
  | some a => exact lv_astore_n hexec hb hdg hi h.1 hn (vg_lset h.2 hl) fun ls' h' => kk ls' ⟨h', vg_lcat h.2 rfl hl⟩
theorem vg_iinc (hexec : p.tables.exec = Jvm.exec) (hb : c.code = cc) {i k : Nat} {n : Int} {x v : Int32} (hdg : decode cc pc = .ok (.iinc i n, 3)) (h : vg_l ls nL lv) (hk : lv[k]? = some (i, .int x)) (hv : x + Int32.ofInt n = v) (hn : i < nL) (hl : (i, Value.int v) :: lv.filter (fun q => !(q.1 == i)) = lv')
    (kk : ∀ ls' : Array Slot, vg_l ls' nL lv' → W p l e R s m args below meth c H locs cells slots Q (F0 m (pc + 3) ls' rest)) : W p l e R s m args below meth c H locs cells slots Q (F0 m pc ls rest) :=
  lv_iinc hexec hb hdg h.1 hk hv hn (vg_lset h.2 hl) fun ls' h' => kk ls' ⟨h', vg_lcat h.2 rfl hl⟩
theorem vg_ifnull (hexec : p.tables.exec = Jvm.exec) (hb : c.code = cc) {x : Option Nat} {off : Int} {tgt : Nat} (hdg : decode cc pc = .ok (.ifnull off, 3)) (ht : (pc : Int) + off = (tgt : Int)) {α : Type} {A : α} {B : Nat → α} {r : α} (hf : vg_m x A B = r)
    (kt : x = none → A = r → W p l e R s m args below meth c H locs cells slots Q (F0 m tgt ls rest)) (kf : ∀ a, x = some a → B a = r → W p l e R s m args below meth c H locs cells slots Q (F0 m (pc + 3) ls rest)) : W p l e R s m args below meth c H locs cells slots Q (F0 m pc ls (va_rf x :: rest)) := by
  cases x with
  | none => exact lv_ifnullN hexec hb hdg ht (kt rfl hf)
  | some a => exact lv_ifnull hexec hb hdg (kf a rfl hf)
theorem vg_ifnonnull (hexec : p.tables.exec = Jvm.exec) (hb : c.code = cc) {x : Option Nat} {off : Int} {tgt : Nat} (hdg : decode cc pc = .ok (.ifnonnull off, 3)) (ht : (pc : Int) + off = (tgt : Int)) {α : Type} {A : α} {B : Nat → α} {r : α} (hf : vg_m x A B = r)
    (kt : ∀ a, x = some a → B a = r → W p l e R s m args below meth c H locs cells slots Q (F0 m tgt ls rest)) (kf : x = none → A = r → W p l e R s m args below meth c H locs cells slots Q (F0 m (pc + 3) ls rest)) : W p l e R s m args below meth c H locs cells slots Q (F0 m pc ls (va_rf x :: rest)) := by
  cases x with
  | none => exact lv_ifnonnullN hexec hb hdg (kf rfl hf)
  | some a => exact lv_ifnonnull hexec hb hdg ht (kt a rfl hf)
/-- entry index of own's pool is class ci; fs: its fields at the beginning -/
def vg_N (own : String) (index ci N : Nat) (fs : List Value) : Prop := ∃ (C : String) (T : u_T) (ty0 : Nat → FieldType), vg_Cl ci C T N ty0 ∧ Cond.classLink own index C ∈ vg_T ∧ Cond.instantiable C N ∈ vg_T ∧ Cond.initialized C ∈ vg_T ∧ ∀ j, j < N → defaultValue (ty0 j) = vp_V fs j
theorem vg_new (X : vg_X D cy p s m args c cc own) (hH : vg_H D cy H0 μ H) {index ci N : Nat} {fs : List Value} (hS : vg_N own index ci N fs) (hdg : decode cc pc = .ok (.new index, 3)) {β : Type} {kont : Nat → vg_M → vg_R β} {r : β} (hf : vg_nw N μ.2.1 (vg_nO μ ci fs) kont = some (r, μ', cn, nn)) (hC : cells + cn = C0) (hN : slots + nn = N0) (hRc : C0 ≤ R.cells) (hRs : N0 ≤ R.slots)
    (kk : ∀ (q : Nat) (μ1 : vg_M) (c2 n2 : Nat) (H1 : Heap), kont q μ1 = some (r, μ', c2, n2) → cells + 1 + c2 = C0 → slots + N + n2 = N0 → vg_H D cy H0 μ1 H1 → W p l e R s m args below meth c H1 locs (cells + 1) (slots + N) Q (F0 m (pc + 3) ls (.ref q :: rest))) : W p l e R s m args below meth c H locs cells slots Q (F0 m pc ls rest) := by
  obtain ⟨hx, hb, hts, hown, hK⟩ := X
  obtain ⟨C, T, ty0, ⟨hc, hin, hty, hnm⟩, hcl, hins, hini, hfs⟩ := hS
  obtain ⟨c2, n2, hf2, rfl, rfl⟩ := vg_n_inv hf
  have hKn := hK.1 ci _ hc
  refine W.newcK hx hb hown (hts _ hcl) (hts _ hins) (hts _ hini) rfl hdg (by omega) (by omega) hKn.2.1 hH.1 fun H1 kC hkC e1 z1 o1 => ?_
  refine kk μ.2.1 _ c2 n2 H1 hf2 (by omega) (by omega) (hH.new (e := .inr (ci, fs)) ?_ z1 o1)
  exact ⟨_, hc, (u_born ty0 hts hin hKn hkC e1 hty).to hfs⟩
theorem vg_newa (X : vg_X D cy p s m args c cc own) (hH : vg_H D cy H0 μ H) {atype : ArrayType} {t : Nat} {n : Int32} (harr : Cond.arrayClass (newarray.typeOf atype) ∈ vg_T) (hty : newarray.typeOf atype = vg_tyI t) (ht : t < 4) (hdg : decode cc pc = .ok (.newarray atype, 2)) {β : Type} {kont : Nat → vg_M → vg_R β} {r : β} (hf : vg_o (vg_len n) (fun N => vg_nw N μ.2.1 (vg_nA μ t N) kont) = some (r, μ', cn, nn)) (hC : cells + cn = C0) (hN : slots + nn = N0) (hRc : C0 ≤ R.cells) (hRs : N0 ≤ R.slots)
    (kk : ∀ (N q : Nat) (μ1 : vg_M) (c2 n2 : Nat) (H1 : Heap), kont q μ1 = some (r, μ', c2, n2) → cells + 1 + c2 = C0 → slots + N + n2 = N0 → vg_H D cy H0 μ1 H1 → W p l e R s m args below meth c H1 locs (cells + 1) (slots + N) Q (F0 m (pc + 2) ls (.ref q :: rest))) : W p l e R s m args below meth c H locs cells slots Q (F0 m pc ls (.int n :: rest)) := by
  obtain ⟨hx, hb, hts, hown, hK⟩ := X
  obtain ⟨N, h0, hf⟩ := vg_o_inv hf
  obtain ⟨hn, hNn, hle⟩ := vg_len_inv h0
  obtain ⟨c2, n2, hf2, rfl, rfl⟩ := vg_n_inv hf
  refine va_newaK hx hb (hts _ harr) rfl hdg rfl hn hNn ?_ (by omega) (by omega) hH.1 fun H1 cA e1 z1 o1 hAr hNm => ?_
  · have hcb : componentBytes (newarray.typeOf atype) ≤ 8 := by
      rw [hty]
      match t, ht with
      | 0, _ => decide
      | 1, _ => decide
      | 2, _ => decide
      | 3, _ => decide
    calc N * componentBytes (newarray.typeOf atype) ≤ 67108864 * 8 := Nat.mul_le_mul hle hcb
      _ = 536870912 := rfl
  · refine kk N μ.2.1 _ c2 n2 H1 hf2 (by omega) (by omega) (hH.new (e := .inl (t, N, .inl (fun _ => 0))) ?_ z1 o1)
    have hcA : cA = cy t := by
      rw [hty] at hNm
      match t, ht with
      | 0, _ => exact Option.some.inj (hNm.symm.trans (hK.2 0 _ rfl).2)
      | 1, _ => exact Option.some.inj (hNm.symm.trans (hK.2 1 _ rfl).2)
      | 2, _ => exact Option.some.inj (hNm.symm.trans (hK.2 2 _ rfl).2)
      | 3, _ => exact Option.some.inj (hNm.symm.trans (hK.2 3 _ rfl).2)
    subst hcA
    show H1[μ.2.1]? = some (vp_cell (cy t) (N, .inl (fun _ => 0)))
    rw [e1, hty, vp_cell_i]
    match t, ht with
    | 0, _ => rfl
    | 1, _ => rfl
    | 2, _ => rfl
    | 3, _ => rfl
theorem vg_reti (X : vg_X D cy p s m args c cc own) (hr : meth.sig.returnType = some .int) (hlocks : meth.locks = false) (hH : vg_H D cy H0 μ H) (hL : ∀ z ∈ locs, H0.size ≤ z.base) (hdg : decode cc pc = .ok (.ireturn, 1)) {v r : Int32} (hf : vg_ret v μ = some (r, μ', cn, nn)) (hC : cells + cn = C0) (hN : slots + nn = N0) :
    W p l e R s m args below meth c H locs cells slots (MQ below (vg_Qc D cy H0 μ' (some (.int r))) args s C0 N0 (vg_fr H0)) (F0 m pc ls [.int v]) := by
  cases hf
  subst hC hN
  exact W.iret X.1 X.2.1 hr (fun t ht _ => ⟨rfl, by rw [ht]; exact hH⟩) hL hdg hlocks
theorem vg_retz (X : vg_X D cy p s m args c cc own) {ty : FieldType} (hty : ty = .int ∨ ty = .boolean ∨ ty = .byte ∨ ty = .char ∨ ty = .short) (hr : meth.sig.returnType = some ty) (hlocks : meth.locks = false) (hH : vg_H D cy H0 μ H) (hL : ∀ z ∈ locs, H0.size ≤ z.base) (hdg : decode cc pc = .ok (.ireturn, 1)) {v r : Int32} (hf : vg_o (vg_z ty v) (fun v => vg_ret v μ) = some (r, μ', cn, nn)) (hC : cells + cn = C0) (hN : slots + nn = N0) :
    W p l e R s m args below meth c H locs cells slots (MQ below (vg_Qc D cy H0 μ' (some (.int r))) args s C0 N0 (vg_fr H0)) (F0 m pc ls [.int v]) := by
  obtain ⟨v', h0, hf2⟩ := vg_o_inv hf
  obtain ⟨hv, hz⟩ := vg_z_inv h0
  clear hf h0
  subst hv
  cases hf2
  subst hC hN
  exact W.zret X.1 X.2.1 hr (vg_fit hty hz).1 (fun t ht _ => ⟨rfl, by rw [ht]; exact hH⟩) hL hdg hlocks
theorem vg_retv (X : vg_X D cy p s m args c cc own) (hr : meth.sig.returnType = none) (hlocks : meth.locks = false) (hH : vg_H D cy H0 μ H) (hL : ∀ z ∈ locs, H0.size ≤ z.base) (hdg : decode cc pc = .ok (.return_, 1)) {r : Unit} (hf : vg_ret () μ = some (r, μ', cn, nn)) (hC : cells + cn = C0) (hN : slots + nn = N0) :
    W p l e R s m args below meth c H locs cells slots (MQ below (vg_Qc D cy H0 μ' none) args s C0 N0 (vg_fr H0)) (F0 m pc ls []) := by
  cases hf
  subst hC hN
  exact W.vret X.1 X.2.1 hr (fun t ht _ => ⟨rfl, by rw [ht]; exact hH⟩) hL hdg hlocks
theorem vg_reta (X : vg_X D cy p s m args c cc own) {rt : FieldType} (hrt : (∃ n, rt = .object n) ∨ ∃ t, rt = .array t) (hr : meth.sig.returnType = some rt) (hlocks : meth.locks = false) (hH : vg_H D cy H0 μ H) (hL : ∀ z ∈ locs, H0.size ≤ z.base) (hdg : decode cc pc = .ok (.areturn, 1)) {v r : Option Nat} (hf : vg_ret v μ = some (r, μ', cn, nn)) (hC : cells + cn = C0) (hN : slots + nn = N0) :
    W p l e R s m args below meth c H locs cells slots (MQ below (vg_Qc D cy H0 μ' (some (va_rf r))) args s C0 N0 (vg_fr H0)) (F0 m pc ls [va_rf v]) := by
  cases hf
  subst hC hN
  exact W.aret X.1 X.2.1 hr hrt (by cases v <;> simp [va_rf]) (fun t ht _ => ⟨rfl, by rw [ht]; exact hH⟩) hL hdg hlocks
/-- the words of a call -/
def vg_CV (own : String) (index : Nat) (C : String) (y : MethodName) (bytes : ByteArray) (maxL : Nat) (ret : Option FieldType) (n : Nat) : Prop := Cond.methodLink own index y ∈ vg_T ∧ Cond.instanceMethod y ∈ vg_T ∧ Cond.selects C y y ∈ vg_T ∧ Cond.initialized C ∈ vg_T ∧ Cond.code y bytes maxL ret ∈ vg_T ∧
  (y.cls = C ∧ y.cls ≠ "java/lang/invoke/MethodHandle" ∧ y.cls ≠ "java/lang/invoke/VarHandle" ∧ (parseMethodDescriptor y.desc).map (fun d => d.parameters.length) = some n) ∧ maxL ≤ 41
def vg_CS (own : String) (index : Nat) (y : MethodName) (bytes : ByteArray) (maxL : Nat) (ret : Option FieldType) (n : Nat) : Prop := Cond.methodLink own index y ∈ vg_T ∧ Cond.static y ∈ vg_T ∧ Cond.initialized y.cls ∈ vg_T ∧ Cond.code y bytes maxL ret ∈ vg_T ∧
  (y.cls ≠ "java/lang/invoke/MethodHandle" ∧ y.cls ≠ "java/lang/invoke/VarHandle" ∧ (parseMethodDescriptor y.desc).map (fun d => d.parameters.length) = some n) ∧ maxL ≤ 41
def vg_CI (own : String) (index : Nat) (y : MethodName) (bytes : ByteArray) (maxL : Nat) (n : Nat) : Prop := Cond.methodLink own index y ∈ vg_T ∧ Cond.instanceMethod y ∈ vg_T ∧ Cond.initialized y.cls ∈ vg_T ∧ Cond.code y bytes maxL none ∈ vg_T ∧ y.name = "<init>" ∧
  (y.cls ≠ "java/lang/invoke/MethodHandle" ∧ y.cls ≠ "java/lang/invoke/VarHandle" ∧ (parseMethodDescriptor y.desc).map (fun d => d.parameters.length) = some n) ∧ maxL ≤ 41
theorem vg_goodT {w : Cond} (h : w ∈ vg_T) : GoodIn vg_T [w] := fun x hx => by rw [List.mem_singleton.mp hx]; exact ⟨h, good_of_word (vg_Tgood w h)⟩
theorem vg_goodC {w : Cond} (h : w ∈ vg_T) : GoodIn vg_T (w :: vg_T) := fun x hx => by
  rcases List.mem_cons.mp hx with rfl | hx
  · exact ⟨h, good_of_word (vg_Tgood _ h)⟩
  · exact ⟨hx, good_of_word (vg_Tgood _ hx)⟩
theorem vg_after {mc ms : Nat} {st0 : List Value} {μ1 : vg_M} {rv : Option Value} {av : Array Value} (hr : va_Run p l e R s m args below meth c H locs cells slots mc ms (F0 m pc ls st0) rest (vg_Qc D cy H0 μ1 rv av) (vg_fr H0)) (hL : ∀ z ∈ locs, H0.size ≤ z.base)
    (kk : ∀ (H1 : Heap) (locs1 : List Loc), vg_H D cy H0 μ1 H1 → (∀ z ∈ locs1, H0.size ≤ z.base) → W p l e R s m args below meth c H1 locs1 (cells + mc) (slots + ms) Q (F0 m (pc + 3) ls (rv.toList ++ rest))) : W p l e R s m args below meth c H locs cells slots Q (F0 m pc ls st0) := by
  intro T hT X
  obtain ⟨v, st₀, t, T', L, h0, X', hL', e1, e2, ⟨hv, hh⟩, st⟩ := hr T hT X
  cases hv
  obtain ⟨t2, a1, b1⟩ := kk T'.heap (locs ++ L) (by rw [e1]; exact hh) (fun q hq => by
      rcases List.mem_append.mp hq with h | h
      · exact hL q h
      · exact hL' q h) T' rfl X'
  exact ⟨t2, st t2 a1, b1⟩
theorem vg_callV (X : vg_X D cy p s m args c cc own) (hml : c.maxLocals = nL) (hl : vg_l ls nL lv) (hH : vg_H D cy H0 μ H) (hL : ∀ z ∈ locs, H0.size ≤ z.base) {index ci maxL n h : Nat} {C : String} {y : MethodName} {bytes : ByteArray} {ret : Option FieldType} (hS : vg_CV own index C y bytes maxL ret n) {T : u_T} {N : Nat} (hci : vwCl[ci]? = some (C, T, N))
    (As : List Value) (hn : As.length = n) {st0 : List Value} (hst : st0 = As.reverse ++ .ref a :: rest) (hcat : (rest.map fun v => v.category).sum ≤ 8) (hdg : decode cc pc = .ok (.invokevirtual index, 3))
    {α β : Type} {fy : vg_R α} {kont : α → vg_M → vg_R β} {r : β} (hf : vg_cv ci a μ fy kont = some (r, μ', cn, nn)) (hC : cells + cn = C0) (hN : slots + nn = N0) (hRc : C0 ≤ R.cells) (hRs : N0 ≤ R.slots) (hRf : h + 1 ≤ R.frames) (hRl : 60 * (h + 1) ≤ R.locals) (rv : α → Option Value)
    (hM : ∀ (x : α) (μ1 : vg_M) (c1 n1 : Nat), fy = some (x, μ1, c1, n1) → vg_Met l D cy H0 y bytes maxL ret h μ (.ref a :: As) (rv x) μ1 c1 n1)
    (kk : ∀ (x : α) (μ1 : vg_M) (c1 n1 c2 n2 : Nat) (H1 : Heap) (locs1 : List Loc), kont x μ1 = some (r, μ', c2, n2) → cells + c1 + c2 = C0 → slots + n1 + n2 = N0 → vg_H D cy H0 μ1 H1 → (∀ z ∈ locs1, H0.size ≤ z.base) → W p l e R s m args below meth c H1 locs1 (cells + c1) (slots + n1) Q (F0 m (pc + 3) ls ((rv x).toList ++ rest))) : W p l e R s m args below meth c H locs cells slots Q (F0 m pc ls st0) := by
  subst hst
  obtain ⟨hx, hb, hts, hown, hK⟩ := X
  obtain ⟨hmk, hins, hsel, hini, hcode, hd, hmx⟩ := hS
  obtain ⟨fs, hrc, hf⟩ := vg_cv_inv hf
  obtain ⟨x, μ1, c1, n1, c2, n2, hfy, hf2, rfl, rfl⟩ := vg_b_inv hf
  have hat : va_at D vwCl (a, .inr (ci, fs)) H := hH.2.2.2.1 a _ hrc
  have hrecv := va_recv (D := D) (cl := vwCl) (tys := vg_tys cy) (ws := [(a, .inr (ci, fs))]) (q0 := 0) hK (vg_one hat) hci rfl
  have hG : GoodIn vg_T (wsV own index C y (Cond.code y bytes maxL ret :: vg_T)) := by
    intro w hw
    have hw' : w ∈ ([.methodLink own index y, .instanceMethod y, .selects C y y, .initialized C] : List Cond) ++ (Cond.code y bytes maxL ret :: vg_T) := hw
    rcases List.mem_append.mp hw' with h1 | h1
    · simp only [List.mem_cons, List.not_mem_nil, or_false] at h1
      rcases h1 with rfl | rfl | rfl | rfl
      · exact vg_goodT hmk _ List.mem_cons_self
      · exact vg_goodT hins _ List.mem_cons_self
      · exact vg_goodT hsel _ List.mem_cons_self
      · exact vg_goodT hini _ List.mem_cons_self
    · exact vg_goodC hcode w h1
  refine vg_after (va_runV (As := As) (rest := rest) ⟨hx, hb, hml, hown, hts⟩ (hM x μ1 c1 n1 hfy) (cwV n hts hG rfl rfl rfl hd ⟨?_, ?_⟩) ⟨vg_blind, hrecv, fun U hU hW => ⟨rfl, by rw [hU]; exact hH, va_K.moved hW.alike hK⟩⟩ rfl hn hl.1.1 rfl ?_ hdg ⟨by omega, by omega⟩) hL (fun H1 locs1 h1 h2 => kk x μ1 c1 n1 c2 n2 H1 locs1 hf2 (by omega) (by omega) h1 h2)
  · exact hRf
  · show 8 + (maxL + 11) + 60 * h ≤ R.locals
    omega
  · exact lv_room hcat
theorem vg_callS (X : vg_X D cy p s m args c cc own) (hml : c.maxLocals = nL) (hl : vg_l ls nL lv) (hH : vg_H D cy H0 μ H) (hL : ∀ z ∈ locs, H0.size ≤ z.base) {index maxL n h : Nat} {y : MethodName} {bytes : ByteArray} {ret : Option FieldType} (hS : vg_CS own index y bytes maxL ret n)
    (As : List Value) (hn : As.length = n) {st0 : List Value} (hst : st0 = As.reverse ++ rest) (hcat : (rest.map fun v => v.category).sum ≤ 8) (hdg : decode cc pc = .ok (.invokestatic index, 3))
    {α β : Type} {fy : vg_R α} {kont : α → vg_M → vg_R β} {r : β} (hf : vg_b fy kont = some (r, μ', cn, nn)) (hC : cells + cn = C0) (hN : slots + nn = N0) (hRc : C0 ≤ R.cells) (hRs : N0 ≤ R.slots) (hRf : h + 1 ≤ R.frames) (hRl : 60 * (h + 1) ≤ R.locals) (rv : α → Option Value)
    (hM : ∀ (x : α) (μ1 : vg_M) (c1 n1 : Nat), fy = some (x, μ1, c1, n1) → vg_Met l D cy H0 y bytes maxL ret h μ As (rv x) μ1 c1 n1)
    (kk : ∀ (x : α) (μ1 : vg_M) (c1 n1 c2 n2 : Nat) (H1 : Heap) (locs1 : List Loc), kont x μ1 = some (r, μ', c2, n2) → cells + c1 + c2 = C0 → slots + n1 + n2 = N0 → vg_H D cy H0 μ1 H1 → (∀ z ∈ locs1, H0.size ≤ z.base) → W p l e R s m args below meth c H1 locs1 (cells + c1) (slots + n1) Q (F0 m (pc + 3) ls ((rv x).toList ++ rest))) : W p l e R s m args below meth c H locs cells slots Q (F0 m pc ls st0) := by
  subst hst
  obtain ⟨hx, hb, hts, hown, hK⟩ := X
  obtain ⟨hmk, hstt, hini, hcode, hd, hmx⟩ := hS
  obtain ⟨x, μ1, c1, n1, c2, n2, hfy, hf2, rfl, rfl⟩ := vg_b_inv hf
  refine vg_after (va_runS (As := As) (rest := rest) ⟨hx, hb, hml, hown, hts⟩ (hM x μ1 c1 n1 hfy) ⟨callB_of n hts (vg_goodC hcode) rfl rfl rfl (hts _ hini) (hts _ hmk) hd ⟨?_, ?_⟩, hts _ hstt⟩ ⟨vg_blind, fun U hU hW => ⟨rfl, by rw [hU]; exact hH, va_K.moved hW.alike hK⟩⟩ rfl hn hl.1.1 rfl ?_ hdg ⟨by omega, by omega⟩) hL (fun H1 locs1 h1 h2 => kk x μ1 c1 n1 c2 n2 H1 locs1 hf2 (by omega) (by omega) h1 h2)
  · exact hRf
  · show 8 + (maxL + 11) + 60 * h ≤ R.locals
    omega
  · exact lv_room hcat
theorem vg_callI (X : vg_X D cy p s m args c cc own) (hml : c.maxLocals = nL) (hl : vg_l ls nL lv) (hH : vg_H D cy H0 μ H) (hL : ∀ z ∈ locs, H0.size ≤ z.base) {index maxL n h : Nat} {y : MethodName} {bytes : ByteArray} (hS : vg_CI own index y bytes maxL n)
    (As : List Value) (hn : As.length = n) {st0 : List Value} (hst : st0 = As.reverse ++ .ref a :: rest) (hcat : (rest.map fun v => v.category).sum ≤ 8) (hdg : decode cc pc = .ok (.invokespecial index, 3))
    {α β : Type} {fy : vg_R α} {kont : α → vg_M → vg_R β} {r : β} (hf : vg_b fy kont = some (r, μ', cn, nn)) (hC : cells + cn = C0) (hN : slots + nn = N0) (hRc : C0 ≤ R.cells) (hRs : N0 ≤ R.slots) (hRf : h + 1 ≤ R.frames) (hRl : 60 * (h + 1) ≤ R.locals)
    (hM : ∀ (x : α) (μ1 : vg_M) (c1 n1 : Nat), fy = some (x, μ1, c1, n1) → vg_Met l D cy H0 y bytes maxL none h μ (.ref a :: As) none μ1 c1 n1)
    (kk : ∀ (x : α) (μ1 : vg_M) (c1 n1 c2 n2 : Nat) (H1 : Heap) (locs1 : List Loc), kont x μ1 = some (r, μ', c2, n2) → cells + c1 + c2 = C0 → slots + n1 + n2 = N0 → vg_H D cy H0 μ1 H1 → (∀ z ∈ locs1, H0.size ≤ z.base) → W p l e R s m args below meth c H1 locs1 (cells + c1) (slots + n1) Q (F0 m (pc + 3) ls rest)) : W p l e R s m args below meth c H locs cells slots Q (F0 m pc ls st0) := by
  subst hst
  obtain ⟨hx, hb, hts, hown, hK⟩ := X
  obtain ⟨hmk, hins, hini, hcode, hnm, hd, hmx⟩ := hS
  obtain ⟨x, μ1, c1, n1, c2, n2, hfy, hf2, rfl, rfl⟩ := vg_b_inv hf
  refine vg_after (va_runI (As := As) (rest := rest) ⟨hx, hb, hml, hown, hts⟩ (hM x μ1 c1 n1 hfy) ⟨callB_of n hts (vg_goodC hcode) rfl rfl rfl (hts _ hini) (hts _ hmk) hd ⟨?_, ?_⟩, hnm, hts _ hins⟩ ⟨vg_blind, fun U hU hW => ⟨rfl, by rw [hU]; exact hH, va_K.moved hW.alike hK⟩⟩ rfl hn hl.1.1 rfl ?_ hdg ⟨by omega, by omega⟩) hL (fun H1 locs1 h1 h2 => kk x μ1 c1 n1 c2 n2 H1 locs1 hf2 (by omega) (by omega) h1 h2)
  · exact hRf
  · show 8 + (maxL + 11) + 60 * h ≤ R.locals
    omega
  · exact lv_room hcat
end VG
section VGS
variable {l : Launch} {D : va_G} {cy : Nat → ClassId} {H0 : Heap} {μ μ' : vg_M}
/-- a contract by a walk -/
theorem vg_start {y : MethodName} {bytes : ByteArray} {maxL h c1 n1 : Nat} {ret : Option FieldType} {av : List Value} {rv : Option Value} (hy : plainName y.cls = true) (hav : ∀ v ∈ av, v.category = 1) (hlen : av.length ≤ maxL)
    (body : ∀ (p : Program) (e : Env) (s : State) (m : MethodId) (below : List Frame) (meth : Method) (c : Code) (ls : Array Slot), vg_X D cy p s m av.toArray c bytes y.cls → c.maxLocals = maxL → meth.sig.returnType = ret → meth.locks = false → meth.name = y.name → vg_H D cy H0 μ s.heap → vg_l ls maxL ((av.zipIdx 0).map (fun q => (q.2, q.1))) →
      W p l e (vg_rm h c1 n1) s m av.toArray below meth c s.heap [] 0 0 (MQ below (vg_Qc D cy H0 μ' rv) av.toArray s c1 n1 (vg_fr H0)) (F0 m 0 ls [])) : vg_Met l D cy H0 y bytes maxL ret h μ av rv μ' c1 n1 := by
  refine Met.ofW (cc := bytes) (maxL := maxL) (ret := ret) hy rfl ?_
  intro p e s m args below meth c s₁ B hml hv
  obtain ⟨rfl, hH, hK⟩ := hv
  have hts := atoms_spec (ws := Cond.code y bytes maxL ret :: vg_T) B.pre
  have hown : s.vm.findClass y.cls = some m.cls := findClass_of_methodNamed B.named
  have hl := lv_entry av (n := maxL) (by rw [vg_sl av hav]; exact hlen)
  rw [lg_entry_eq]
  rw [vg_largs av hav] at hl
  exact body p e s m below meth c _ ⟨B.exec, B.bytes, fun w hw => hts w (List.mem_cons_of_mem _ hw), hown, hK⟩ hml B.returns B.notSynchronized (name_of_methodNamed B.named B.method).1 hH ⟨hl, fun q hq => by
    obtain ⟨z, hz, rfl⟩ := List.mem_map.mp hq
    exact hav z.1 (List.fst_mem_of_mem_zipIdx hz)⟩
end VGS
end
section
/-! What holds all along a walk, and what a walk from a place says. -/
def vg_fuel : Nat := 1000000
def vg_Z (D : va_G) (cy : Nat → ClassId) (p : Program) (s : State) (m : MethodId) (args : Array Value) (c : Code) (cc : ByteArray) (own : String) (meth : Method) (nL : Nat) (ret : Option FieldType) (R : Room) (h C0 N0 : Nat) (nm : String) : Prop :=
  vg_X D cy p s m args c cc own ∧ c.maxLocals = nL ∧ meth.sig.returnType = ret ∧ meth.locks = false ∧ h ≤ R.frames ∧ 60 * h ≤ R.locals ∧ C0 ≤ R.cells ∧ N0 ≤ R.slots ∧ meth.name = nm
def vg_S {ρ : Type} (p : Program) (l : Launch) (e : Env) (R : Room) (s : State) (m : MethodId) (args : Array Value) (below : List Frame) (meth : Method) (c : Code) (D : va_G) (cy : Nat → ClassId) (H0 : Heap) (C0 N0 nL : Nat) (Q : State → Prop) (r : ρ) (μ' : vg_M) (prog : vg_R ρ) (μ : vg_M) (lv : List (Nat × Value)) (st : List Value) (pc : Nat) : Prop :=
  ∀ (cn nn : Nat) (H : Heap) (locs : List Loc) (cells slots : Nat) (ls : Array Slot), prog = some (r, μ', cn, nn) → vg_H D cy H0 μ H → (∀ z ∈ locs, H0.size ≤ z.base) → cells + cn = C0 → slots + nn = N0 → vg_l ls nL lv → W p l e R s m args below meth c H locs cells slots Q (F0 m pc ls st)
theorem vg_fitR {ty : FieldType} (hty : (∃ n, ty = .object n) ∨ ∃ t, ty = .array t) (x : Option Nat) : narrow ty (va_rf x) = va_rf x ∧ fits ty (va_rf x) = true := by
  rcases hty with ⟨n, rfl⟩ | ⟨t, rfl⟩ <;> cases x <;> exact ⟨rfl, rfl⟩
section VG
variable {p : Program} {l : Launch} {e : Env} {R : Room} {s : State} {m : MethodId} {args : Array Value} {below : List Frame} {meth : Method} {c : Code} {H : Heap} {locs : List Loc} {cells slots : Nat} {Q : State → Prop}
variable {cc : ByteArray} {pc : Nat} {ls : Array Slot} {rest : List Value} {D : va_G} {cy : Nat → ClassId} {H0 : Heap} {μ μ' : vg_M} {own : String} {a cn nn C0 N0 nL : Nat} {lv lv' : List (Nat × Value)}
theorem vg_objInit (X : vg_X D cy p s m args c cc own) (hml : c.maxLocals = nL) (hl : vg_l ls nL lv) {index : Nat} (hlink : Cond.methodLink own index objectInit ∈ vg_T) (hins : Cond.instanceMethod objectInit ∈ vg_T) (hcode : Cond.code objectInit ⟨#[0xb1]⟩ 1 none ∈ vg_T) (hdg : decode cc pc = .ok (.invokespecial index, 3)) (hRf : 1 ≤ R.frames) (hRl : (rest.map fun v => v.category).sum + 12 ≤ R.locals)
    (kk : W p l e R s m args below meth c H locs cells slots Q (F0 m (pc + 3) ls rest)) : W p l e R s m args below meth c H locs cells slots Q (F0 m pc ls (.ref a :: rest)) := by
  obtain ⟨hx, hb, hts, hown, hK⟩ := X
  refine W.objInit hx hb hown (hts _ hlink) (hts _ hins) (hts _ hcode) rfl (by rw [hml]; exact hl.1.1) rfl hdg hRf ?_ kk
  show 2 * 0 + _ + 12 ≤ _
  omega
theorem vg_putZ (X : vg_X D cy p s m args c cc own) (hH : vg_H D cy H0 μ H) (hL : ∀ z ∈ locs, H0.size ≤ z.base) {index ci k : Nat} {ty : FieldType} (hty : ty = .int ∨ ty = .boolean ∨ ty = .byte ∨ ty = .char ∨ ty = .short) (hF : vg_F own index ci k ty false) {v : Int32} (hdg : decode cc pc = .ok (.putfield index, 3)) {β : Type} {kont : vg_M → vg_R β} {res : β × vg_M × Nat × Nat} (hf : vg_o (vg_z ty v) (fun v => vg_o (vg_p μ a ci k (.int v)) kont) = some res)
    (kk : ∀ (μ1 : vg_M) (H1 : Heap) (locs1 : List Loc), kont μ1 = some res → vg_H D cy H0 μ1 H1 → (∀ z ∈ locs1, H0.size ≤ z.base) → W p l e R s m args below meth c H1 locs1 cells slots Q (F0 m (pc + 3) ls rest)) : W p l e R s m args below meth c H locs cells slots Q (F0 m pc ls (.int v :: .ref a :: rest)) := by
  obtain ⟨v', h0, hf2⟩ := vg_o_inv hf
  obtain ⟨hv, hz⟩ := vg_z_inv h0
  clear hf h0
  subst hv
  exact vg_putV X hH hL hF (vg_fit hty hz).1 (vg_fit hty hz).2 hdg hf2 kk
theorem vg_putFZ (X : vg_X D cy p s m args c cc own) (hinit : meth.name = "<init>") (hH : vg_H D cy H0 μ H) (hL : ∀ z ∈ locs, H0.size ≤ z.base) {index ci k : Nat} {ty : FieldType} (hty : ty = .int ∨ ty = .boolean ∨ ty = .byte ∨ ty = .char ∨ ty = .short) (hF : vg_F own index ci k ty true) {v : Int32} (hdg : decode cc pc = .ok (.putfield index, 3)) {β : Type} {kont : vg_M → vg_R β} {res : β × vg_M × Nat × Nat} (hf : vg_o (vg_z ty v) (fun v => vg_o (vg_p μ a ci k (.int v)) kont) = some res)
    (kk : ∀ (μ1 : vg_M) (H1 : Heap) (locs1 : List Loc), kont μ1 = some res → vg_H D cy H0 μ1 H1 → (∀ z ∈ locs1, H0.size ≤ z.base) → W p l e R s m args below meth c H1 locs1 cells slots Q (F0 m (pc + 3) ls rest)) : W p l e R s m args below meth c H locs cells slots Q (F0 m pc ls (.int v :: .ref a :: rest)) := by
  obtain ⟨v', h0, hf2⟩ := vg_o_inv hf
  obtain ⟨hv, hz⟩ := vg_z_inv h0
  clear hf h0
  subst hv
  exact vg_putF X hinit hH hL hF (vg_fit hty hz).1 (vg_fit hty hz).2 hdg hf2 kk
theorem vg_callVi (X : vg_X D cy p s m args c cc own) (hml : c.maxLocals = nL) (hl : vg_l ls nL lv) (hH : vg_H D cy H0 μ H) (hL : ∀ z ∈ locs, H0.size ≤ z.base) {index ci maxL n h : Nat} {C : String} {y : MethodName} {bytes : ByteArray} {ret : Option FieldType} (hS : vg_CV own index C y bytes maxL ret n) {T : u_T} {N : Nat} (hci : vwCl[ci]? = some (C, T, N))
    (As : List Value) (hn : As.length = n) {st0 : List Value} (hst : st0 = As.reverse ++ .ref a :: rest) (hcat : (rest.map fun v => v.category).sum ≤ 8) (hdg : decode cc pc = .ok (.invokevirtual index, 3))
    {β : Type} {fy : vg_R Int32} {kont : Int32 → vg_M → vg_R β} {r : β} (hf : vg_cv ci a μ fy kont = some (r, μ', cn, nn)) (hC : cells + cn = C0) (hN : slots + nn = N0) (hRc : C0 ≤ R.cells) (hRs : N0 ≤ R.slots) {h1 : Nat} (hRf : h1 ≤ R.frames) (hRl : 60 * h1 ≤ R.locals) (hh : h + 1 ≤ h1)
    (hM : ∀ (x : Int32) (μ1 : vg_M) (c1 n1 : Nat), fy = some (x, μ1, c1, n1) → vg_Met l D cy H0 y bytes maxL ret h μ (.ref a :: As) (some (.int x)) μ1 c1 n1)
    (kk : ∀ (x : Int32) (μ1 : vg_M) (cn nn : Nat) (H1 : Heap) (locs1 : List Loc) (cells slots : Nat), kont x μ1 = some (r, μ', cn, nn) → cells + cn = C0 → slots + nn = N0 → vg_H D cy H0 μ1 H1 → (∀ z ∈ locs1, H0.size ≤ z.base) → W p l e R s m args below meth c H1 locs1 cells slots Q (F0 m (pc + 3) ls (.int x :: rest))) : W p l e R s m args below meth c H locs cells slots Q (F0 m pc ls st0) :=
  vg_callV X hml hl hH hL hS hci As hn hst hcat hdg hf hC hN hRc hRs (Nat.le_trans hh hRf) (Nat.le_trans (Nat.mul_le_mul_left 60 hh) hRl) (fun x => some (.int x)) hM fun x μ1 c1 n1 c2 n2 H1 locs1 h1 h2 h3 h4 h5 => kk x μ1 c2 n2 H1 locs1 _ _ h1 h2 h3 h4 h5
theorem vg_callVr (X : vg_X D cy p s m args c cc own) (hml : c.maxLocals = nL) (hl : vg_l ls nL lv) (hH : vg_H D cy H0 μ H) (hL : ∀ z ∈ locs, H0.size ≤ z.base) {index ci maxL n h : Nat} {C : String} {y : MethodName} {bytes : ByteArray} {ret : Option FieldType} (hS : vg_CV own index C y bytes maxL ret n) {T : u_T} {N : Nat} (hci : vwCl[ci]? = some (C, T, N))
    (As : List Value) (hn : As.length = n) {st0 : List Value} (hst : st0 = As.reverse ++ .ref a :: rest) (hcat : (rest.map fun v => v.category).sum ≤ 8) (hdg : decode cc pc = .ok (.invokevirtual index, 3))
    {β : Type} {fy : vg_R (Option Nat)} {kont : Option Nat → vg_M → vg_R β} {r : β} (hf : vg_cv ci a μ fy kont = some (r, μ', cn, nn)) (hC : cells + cn = C0) (hN : slots + nn = N0) (hRc : C0 ≤ R.cells) (hRs : N0 ≤ R.slots) {h1 : Nat} (hRf : h1 ≤ R.frames) (hRl : 60 * h1 ≤ R.locals) (hh : h + 1 ≤ h1)
    (hM : ∀ (x : Option Nat) (μ1 : vg_M) (c1 n1 : Nat), fy = some (x, μ1, c1, n1) → vg_Met l D cy H0 y bytes maxL ret h μ (.ref a :: As) (some (va_rf x)) μ1 c1 n1)
    (kk : ∀ (x : Option Nat) (μ1 : vg_M) (cn nn : Nat) (H1 : Heap) (locs1 : List Loc) (cells slots : Nat), kont x μ1 = some (r, μ', cn, nn) → cells + cn = C0 → slots + nn = N0 → vg_H D cy H0 μ1 H1 → (∀ z ∈ locs1, H0.size ≤ z.base) → W p l e R s m args below meth c H1 locs1 cells slots Q (F0 m (pc + 3) ls (va_rf x :: rest))) : W p l e R s m args below meth c H locs cells slots Q (F0 m pc ls st0) :=
  vg_callV X hml hl hH hL hS hci As hn hst hcat hdg hf hC hN hRc hRs (Nat.le_trans hh hRf) (Nat.le_trans (Nat.mul_le_mul_left 60 hh) hRl) (fun x => some (va_rf x)) hM fun x μ1 c1 n1 c2 n2 H1 locs1 h1 h2 h3 h4 h5 => kk x μ1 c2 n2 H1 locs1 _ _ h1 h2 h3 h4 h5
theorem vg_callVv (X : vg_X D cy p s m args c cc own) (hml : c.maxLocals = nL) (hl : vg_l ls nL lv) (hH : vg_H D cy H0 μ H) (hL : ∀ z ∈ locs, H0.size ≤ z.base) {index ci maxL n h : Nat} {C : String} {y : MethodName} {bytes : ByteArray} {ret : Option FieldType} (hS : vg_CV own index C y bytes maxL ret n) {T : u_T} {N : Nat} (hci : vwCl[ci]? = some (C, T, N))
    (As : List Value) (hn : As.length = n) {st0 : List Value} (hst : st0 = As.reverse ++ .ref a :: rest) (hcat : (rest.map fun v => v.category).sum ≤ 8) (hdg : decode cc pc = .ok (.invokevirtual index, 3))
    {β : Type} {fy : vg_R Unit} {kont : Unit → vg_M → vg_R β} {r : β} (hf : vg_cv ci a μ fy kont = some (r, μ', cn, nn)) (hC : cells + cn = C0) (hN : slots + nn = N0) (hRc : C0 ≤ R.cells) (hRs : N0 ≤ R.slots) {h1 : Nat} (hRf : h1 ≤ R.frames) (hRl : 60 * h1 ≤ R.locals) (hh : h + 1 ≤ h1)
    (hM : ∀ (x : Unit) (μ1 : vg_M) (c1 n1 : Nat), fy = some (x, μ1, c1, n1) → vg_Met l D cy H0 y bytes maxL ret h μ (.ref a :: As) none μ1 c1 n1)
    (kk : ∀ (x : Unit) (μ1 : vg_M) (cn nn : Nat) (H1 : Heap) (locs1 : List Loc) (cells slots : Nat), kont x μ1 = some (r, μ', cn, nn) → cells + cn = C0 → slots + nn = N0 → vg_H D cy H0 μ1 H1 → (∀ z ∈ locs1, H0.size ≤ z.base) → W p l e R s m args below meth c H1 locs1 cells slots Q (F0 m (pc + 3) ls rest)) : W p l e R s m args below meth c H locs cells slots Q (F0 m pc ls st0) :=
  vg_callV X hml hl hH hL hS hci As hn hst hcat hdg hf hC hN hRc hRs (Nat.le_trans hh hRf) (Nat.le_trans (Nat.mul_le_mul_left 60 hh) hRl) (fun _ => none) hM fun x μ1 c1 n1 c2 n2 H1 locs1 h1 h2 h3 h4 h5 => kk x μ1 c2 n2 H1 locs1 _ _ h1 h2 h3 h4 h5
theorem vg_callSi (X : vg_X D cy p s m args c cc own) (hml : c.maxLocals = nL) (hl : vg_l ls nL lv) (hH : vg_H D cy H0 μ H) (hL : ∀ z ∈ locs, H0.size ≤ z.base) {index maxL n h : Nat} {y : MethodName} {bytes : ByteArray} {ret : Option FieldType} (hS : vg_CS own index y bytes maxL ret n)
    (As : List Value) (hn : As.length = n) {st0 : List Value} (hst : st0 = As.reverse ++ rest) (hcat : (rest.map fun v => v.category).sum ≤ 8) (hdg : decode cc pc = .ok (.invokestatic index, 3))
    {β : Type} {fy : vg_R Int32} {kont : Int32 → vg_M → vg_R β} {r : β} (hf : vg_b fy kont = some (r, μ', cn, nn)) (hC : cells + cn = C0) (hN : slots + nn = N0) (hRc : C0 ≤ R.cells) (hRs : N0 ≤ R.slots) {h1 : Nat} (hRf : h1 ≤ R.frames) (hRl : 60 * h1 ≤ R.locals) (hh : h + 1 ≤ h1)
    (hM : ∀ (x : Int32) (μ1 : vg_M) (c1 n1 : Nat), fy = some (x, μ1, c1, n1) → vg_Met l D cy H0 y bytes maxL ret h μ As (some (.int x)) μ1 c1 n1)
    (kk : ∀ (x : Int32) (μ1 : vg_M) (cn nn : Nat) (H1 : Heap) (locs1 : List Loc) (cells slots : Nat), kont x μ1 = some (r, μ', cn, nn) → cells + cn = C0 → slots + nn = N0 → vg_H D cy H0 μ1 H1 → (∀ z ∈ locs1, H0.size ≤ z.base) → W p l e R s m args below meth c H1 locs1 cells slots Q (F0 m (pc + 3) ls (.int x :: rest))) : W p l e R s m args below meth c H locs cells slots Q (F0 m pc ls st0) :=
  vg_callS X hml hl hH hL hS As hn hst hcat hdg hf hC hN hRc hRs (Nat.le_trans hh hRf) (Nat.le_trans (Nat.mul_le_mul_left 60 hh) hRl) (fun x => some (.int x)) hM fun x μ1 c1 n1 c2 n2 H1 locs1 h1 h2 h3 h4 h5 => kk x μ1 c2 n2 H1 locs1 _ _ h1 h2 h3 h4 h5
theorem vg_callSr (X : vg_X D cy p s m args c cc own) (hml : c.maxLocals = nL) (hl : vg_l ls nL lv) (hH : vg_H D cy H0 μ H) (hL : ∀ z ∈ locs, H0.size ≤ z.base) {index maxL n h : Nat} {y : MethodName} {bytes : ByteArray} {ret : Option FieldType} (hS : vg_CS own index y bytes maxL ret n)
    (As : List Value) (hn : As.length = n) {st0 : List Value} (hst : st0 = As.reverse ++ rest) (hcat : (rest.map fun v => v.category).sum ≤ 8) (hdg : decode cc pc = .ok (.invokestatic index, 3))
    {β : Type} {fy : vg_R (Option Nat)} {kont : Option Nat → vg_M → vg_R β} {r : β} (hf : vg_b fy kont = some (r, μ', cn, nn)) (hC : cells + cn = C0) (hN : slots + nn = N0) (hRc : C0 ≤ R.cells) (hRs : N0 ≤ R.slots) {h1 : Nat} (hRf : h1 ≤ R.frames) (hRl : 60 * h1 ≤ R.locals) (hh : h + 1 ≤ h1)
    (hM : ∀ (x : Option Nat) (μ1 : vg_M) (c1 n1 : Nat), fy = some (x, μ1, c1, n1) → vg_Met l D cy H0 y bytes maxL ret h μ As (some (va_rf x)) μ1 c1 n1)
    (kk : ∀ (x : Option Nat) (μ1 : vg_M) (cn nn : Nat) (H1 : Heap) (locs1 : List Loc) (cells slots : Nat), kont x μ1 = some (r, μ', cn, nn) → cells + cn = C0 → slots + nn = N0 → vg_H D cy H0 μ1 H1 → (∀ z ∈ locs1, H0.size ≤ z.base) → W p l e R s m args below meth c H1 locs1 cells slots Q (F0 m (pc + 3) ls (va_rf x :: rest))) : W p l e R s m args below meth c H locs cells slots Q (F0 m pc ls st0) :=
  vg_callS X hml hl hH hL hS As hn hst hcat hdg hf hC hN hRc hRs (Nat.le_trans hh hRf) (Nat.le_trans (Nat.mul_le_mul_left 60 hh) hRl) (fun x => some (va_rf x)) hM fun x μ1 c1 n1 c2 n2 H1 locs1 h1 h2 h3 h4 h5 => kk x μ1 c2 n2 H1 locs1 _ _ h1 h2 h3 h4 h5
theorem vg_callSv (X : vg_X D cy p s m args c cc own) (hml : c.maxLocals = nL) (hl : vg_l ls nL lv) (hH : vg_H D cy H0 μ H) (hL : ∀ z ∈ locs, H0.size ≤ z.base) {index maxL n h : Nat} {y : MethodName} {bytes : ByteArray} {ret : Option FieldType} (hS : vg_CS own index y bytes maxL ret n)
    (As : List Value) (hn : As.length = n) {st0 : List Value} (hst : st0 = As.reverse ++ rest) (hcat : (rest.map fun v => v.category).sum ≤ 8) (hdg : decode cc pc = .ok (.invokestatic index, 3))
    {β : Type} {fy : vg_R Unit} {kont : Unit → vg_M → vg_R β} {r : β} (hf : vg_b fy kont = some (r, μ', cn, nn)) (hC : cells + cn = C0) (hN : slots + nn = N0) (hRc : C0 ≤ R.cells) (hRs : N0 ≤ R.slots) {h1 : Nat} (hRf : h1 ≤ R.frames) (hRl : 60 * h1 ≤ R.locals) (hh : h + 1 ≤ h1)
    (hM : ∀ (x : Unit) (μ1 : vg_M) (c1 n1 : Nat), fy = some (x, μ1, c1, n1) → vg_Met l D cy H0 y bytes maxL ret h μ As none μ1 c1 n1)
    (kk : ∀ (x : Unit) (μ1 : vg_M) (cn nn : Nat) (H1 : Heap) (locs1 : List Loc) (cells slots : Nat), kont x μ1 = some (r, μ', cn, nn) → cells + cn = C0 → slots + nn = N0 → vg_H D cy H0 μ1 H1 → (∀ z ∈ locs1, H0.size ≤ z.base) → W p l e R s m args below meth c H1 locs1 cells slots Q (F0 m (pc + 3) ls rest)) : W p l e R s m args below meth c H locs cells slots Q (F0 m pc ls st0) :=
  vg_callS X hml hl hH hL hS As hn hst hcat hdg hf hC hN hRc hRs (Nat.le_trans hh hRf) (Nat.le_trans (Nat.mul_le_mul_left 60 hh) hRl) (fun _ => none) hM fun x μ1 c1 n1 c2 n2 H1 locs1 h1 h2 h3 h4 h5 => kk x μ1 c2 n2 H1 locs1 _ _ h1 h2 h3 h4 h5
theorem vg_callIv (X : vg_X D cy p s m args c cc own) (hml : c.maxLocals = nL) (hl : vg_l ls nL lv) (hH : vg_H D cy H0 μ H) (hL : ∀ z ∈ locs, H0.size ≤ z.base) {index maxL n h : Nat} {y : MethodName} {bytes : ByteArray} (hS : vg_CI own index y bytes maxL n)
    (As : List Value) (hn : As.length = n) {st0 : List Value} (hst : st0 = As.reverse ++ .ref a :: rest) (hcat : (rest.map fun v => v.category).sum ≤ 8) (hdg : decode cc pc = .ok (.invokespecial index, 3))
    {β : Type} {fy : vg_R Unit} {kont : Unit → vg_M → vg_R β} {r : β} (hf : vg_b fy kont = some (r, μ', cn, nn)) (hC : cells + cn = C0) (hN : slots + nn = N0) (hRc : C0 ≤ R.cells) (hRs : N0 ≤ R.slots) {h1 : Nat} (hRf : h1 ≤ R.frames) (hRl : 60 * h1 ≤ R.locals) (hh : h + 1 ≤ h1)
    (hM : ∀ (x : Unit) (μ1 : vg_M) (c1 n1 : Nat), fy = some (x, μ1, c1, n1) → vg_Met l D cy H0 y bytes maxL none h μ (.ref a :: As) none μ1 c1 n1)
    (kk : ∀ (x : Unit) (μ1 : vg_M) (cn nn : Nat) (H1 : Heap) (locs1 : List Loc) (cells slots : Nat), kont x μ1 = some (r, μ', cn, nn) → cells + cn = C0 → slots + nn = N0 → vg_H D cy H0 μ1 H1 → (∀ z ∈ locs1, H0.size ≤ z.base) → W p l e R s m args below meth c H1 locs1 cells slots Q (F0 m (pc + 3) ls rest)) : W p l e R s m args below meth c H locs cells slots Q (F0 m pc ls st0) :=
  vg_callI X hml hl hH hL hS As hn hst hcat hdg hf hC hN hRc hRs (Nat.le_trans hh hRf) (Nat.le_trans (Nat.mul_le_mul_left 60 hh) hRl) hM fun x μ1 c1 n1 c2 n2 H1 locs1 h1 h2 h3 h4 h5 => kk x μ1 c2 n2 H1 locs1 _ _ h1 h2 h3 h4 h5
end VG
end
section
theorem vg_ws {C : String} {T : u_T} {N : Nat} (is : List Nat) (h : (u_ws C T N) = is.filterMap (fun i => tables_1[i]?)) (g : (u_ws C T N).all goodWord = true) : ∀ w ∈ u_ws C T N, w ∈ vg_T := by
  intro w hw
  have g1 := List.all_eq_true.mp g w hw
  rw [h] at hw
  obtain ⟨i, -, hi⟩ := List.mem_filterMap.mp hw
  exact vg_tn hi g1
theorem vcl_14 : vg_Cl 14 RX11 TX11 39 tyX11 := ⟨rfl, fun w hw => vg_ws [1231, 1233, 1235, 1237, 1239, 1241, 1243, 1245, 1247, 1249, 1251, 1253, 1255, 1257, 1259, 1261, 1263, 1265, 1267, 1269, 1271, 1273, 1275, 1277, 1279, 1281, 1283, 1285, 1287, 1289, 1291, 1293, 1295, 1297, 1299, 1301, 1303, 1305, 1307] (by decide +kernel) (by decide +kernel) w hw, tyX11_ok, nmX11⟩
theorem kw_161561530 : Cond.fieldLink RX11 127 "GlobRowsModel" "changes" "I" ∈ vg_T := vg_tn (i := 1206) (by decide +kernel) (by decide +kernel)
theorem fF_X11_127 : vg_F RX11 127 14 14 .int false := ⟨"GlobRowsModel", RX11, TX11, 39, tyX11, vcl_14, by decide, kw_161561530, Or.inl rfl, rfl, (fun h => nomatch h), by decide +kernel⟩
theorem kw_337744270 : Cond.fieldLink RX11 29 "GlobRowsModel" "touched" "[I" ∈ vg_T := vg_tn (i := 1201) (by decide +kernel) (by decide +kernel)
theorem fF_X11_29 : vg_F RX11 29 14 9 (.array .int) true := ⟨"GlobRowsModel", RX11, TX11, 39, tyX11, vcl_14, by decide, kw_337744270, Or.inl rfl, rfl, (fun _ => rfl), by decide +kernel⟩
theorem kw_132039426 : Cond.fieldLink RX11 20 "GlobRowsModel" "kind" "[I" ∈ vg_T := vg_tn (i := 1198) (by decide +kernel) (by decide +kernel)
theorem fF_X11_20 : vg_F RX11 20 14 6 (.array .int) true := ⟨"GlobRowsModel", RX11, TX11, 39, tyX11, vcl_14, by decide, kw_132039426, Or.inl rfl, rfl, (fun _ => rfl), by decide +kernel⟩
theorem kw_956051517 : Cond.fieldLink RX11 23 "GlobRowsModel" "around" "[I" ∈ vg_T := vg_tn (i := 1199) (by decide +kernel) (by decide +kernel)
theorem fF_X11_23 : vg_F RX11 23 14 7 (.array .int) true := ⟨"GlobRowsModel", RX11, TX11, 39, tyX11, vcl_14, by decide, kw_956051517, Or.inl rfl, rfl, (fun _ => rfl), by decide +kernel⟩
theorem kw_806261516 : Cond.fieldLink RX11 26 "GlobRowsModel" "nameSize" "[I" ∈ vg_T := vg_tn (i := 1200) (by decide +kernel) (by decide +kernel)
theorem fF_X11_26 : vg_F RX11 26 14 8 (.array .int) true := ⟨"GlobRowsModel", RX11, TX11, 39, tyX11, vcl_14, by decide, kw_806261516, Or.inl rfl, rfl, (fun _ => rfl), by decide +kernel⟩
theorem kw_710174473 : Cond.fieldLink RX11 17 "GlobRowsModel" "wordSize" "[I" ∈ vg_T := vg_tn (i := 1197) (by decide +kernel) (by decide +kernel)
theorem fF_X11_17 : vg_F RX11 17 14 5 (.array .int) true := ⟨"GlobRowsModel", RX11, TX11, 39, tyX11, vcl_14, by decide, kw_710174473, Or.inl rfl, rfl, (fun _ => rfl), by decide +kernel⟩
theorem kw_335374301 : Cond.fieldLink RX11 100 "GlobRowsModel" "made" "I" ∈ vg_T := vg_tn (i := 1205) (by decide +kernel) (by decide +kernel)
theorem fF_X11_100 : vg_F RX11 100 14 13 .int false := ⟨"GlobRowsModel", RX11, TX11, 39, tyX11, vcl_14, by decide, kw_335374301, Or.inl rfl, rfl, (fun h => nomatch h), by decide +kernel⟩
theorem kw_926374873 : Cond.fieldLink RX11 32 "GlobRowsModel" "own" "[I" ∈ vg_T := vg_tn (i := 1202) (by decide +kernel) (by decide +kernel)
theorem fF_X11_32 : vg_F RX11 32 14 10 (.array .int) true := ⟨"GlobRowsModel", RX11, TX11, 39, tyX11, vcl_14, by decide, kw_926374873, Or.inl rfl, rfl, (fun _ => rfl), by decide +kernel⟩
theorem kw_208131607 : Cond.fieldLink RX11 35 "GlobRowsModel" "packed" "[Z" ∈ vg_T := vg_tn (i := 1203) (by decide +kernel) (by decide +kernel)
theorem fF_X11_35 : vg_F RX11 35 14 11 (.array .boolean) true := ⟨"GlobRowsModel", RX11, TX11, 39, tyX11, vcl_14, by decide, kw_208131607, Or.inl rfl, rfl, (fun _ => rfl), by decide +kernel⟩
theorem kw_238031917 : Cond.methodLink RX11 130 yX11_touch ∈ vg_T := vg_tn (i := 1358) (by decide +kernel) (by decide +kernel)
theorem kw_1168178 : Cond.code yX11_touch cX11_touch 2 none ∈ vg_T := vg_tn (i := 1361) (by decide +kernel) (by decide +kernel)
theorem kw_189358303 : Cond.instanceMethod yX11_touch ∈ vg_T := vg_tn (i := 1360) (by decide +kernel) (by decide +kernel)
theorem kw_147855933 : Cond.selects RX11 yX11_touch yX11_touch ∈ vg_T := vg_in (List.mem_append_left _ (List.mem_of_getElem? (i := 30) (by decide +kernel))) (by decide +kernel)
theorem kw_630383448 : Cond.initialized RX11 ∈ vg_T := vg_tn (i := 13) (by decide +kernel) (by decide +kernel)
theorem fCV_X11_130 : vg_CV RX11 130 RX11 yX11_touch cX11_touch 2 none 1 := ⟨kw_238031917, kw_189358303, kw_147855933, kw_630383448, kw_1168178, ⟨rfl, by decide +kernel, by decide +kernel, by decide +kernel⟩, by decide⟩
theorem kw_26854296 : Cond.fieldLink RX11 39 "GlobRowsModel" "name" "[B" ∈ vg_T := vg_tn (i := 1204) (by decide +kernel) (by decide +kernel)
theorem fF_X11_39 : vg_F RX11 39 14 12 (.array .byte) true := ⟨"GlobRowsModel", RX11, TX11, 39, tyX11, vcl_14, by decide, kw_26854296, Or.inl rfl, rfl, (fun _ => rfl), by decide +kernel⟩
theorem kw_99937504 : Cond.fieldLink RX11 7 "GlobRowsModel" "text" "[B" ∈ vg_T := vg_tn (i := 1193) (by decide +kernel) (by decide +kernel)
theorem fF_X11_7 : vg_F RX11 7 14 1 (.array .byte) true := ⟨"GlobRowsModel", RX11, TX11, 39, tyX11, vcl_14, by decide, kw_99937504, Or.inl rfl, rfl, (fun _ => rfl), by decide +kernel⟩
theorem kw_978979359 : Cond.fieldLink RX11 13 "GlobRowsModel" "wordAt" "[I" ∈ vg_T := vg_tn (i := 1196) (by decide +kernel) (by decide +kernel)
theorem fF_X11_13 : vg_F RX11 13 14 4 (.array .int) true := ⟨"GlobRowsModel", RX11, TX11, 39, tyX11, vcl_14, by decide, kw_978979359, Or.inl rfl, rfl, (fun _ => rfl), by decide +kernel⟩
theorem kw_890795910 : Cond.fieldLink RX11 103 "GlobRowsModel" "thrown" "I" ∈ vg_T := vg_tn (i := 1192) (by decide +kernel) (by decide +kernel)
theorem fF_X11_103 : vg_F RX11 103 14 0 .int false := ⟨"GlobRowsModel", RX11, TX11, 39, tyX11, vcl_14, by decide, kw_890795910, Or.inl rfl, rfl, (fun h => nomatch h), by decide +kernel⟩
theorem kw_88133420 : Cond.fieldLink RX11 219 "GlobRowsModel" "answers" "I" ∈ vg_T := vg_tn (i := 1219) (by decide +kernel) (by decide +kernel)
theorem fF_X11_219 : vg_F RX11 219 14 27 .int false := ⟨"GlobRowsModel", RX11, TX11, 39, tyX11, vcl_14, by decide, kw_88133420, Or.inl rfl, rfl, (fun h => nomatch h), by decide +kernel⟩
theorem kw_904274410 : Cond.fieldLink RX11 73 "GlobRowsModel" "answerSize" "[I" ∈ vg_T := vg_tn (i := 1220) (by decide +kernel) (by decide +kernel)
theorem fF_X11_73 : vg_F RX11 73 14 28 (.array .int) true := ⟨"GlobRowsModel", RX11, TX11, 39, tyX11, vcl_14, by decide, kw_904274410, Or.inl rfl, rfl, (fun _ => rfl), by decide +kernel⟩
theorem kw_939251864 : Cond.fieldLink RX11 76 "GlobRowsModel" "answerPath" "[B" ∈ vg_T := vg_tn (i := 1221) (by decide +kernel) (by decide +kernel)
theorem fF_X11_76 : vg_F RX11 76 14 29 (.array .byte) true := ⟨"GlobRowsModel", RX11, TX11, 39, tyX11, vcl_14, by decide, kw_939251864, Or.inl rfl, rfl, (fun _ => rfl), by decide +kernel⟩
theorem kw_54595951 : Cond.methodLink RX11 116 yX11_isNamed ∈ vg_T := vg_tn (i := 1346) (by decide +kernel) (by decide +kernel)
theorem kw_22015614 : Cond.code yX11_isNamed cX11_isNamed 4 (some .boolean) ∈ vg_T := vg_tn (i := 1349) (by decide +kernel) (by decide +kernel)
theorem kw_361680738 : Cond.instanceMethod yX11_isNamed ∈ vg_T := vg_tn (i := 1348) (by decide +kernel) (by decide +kernel)
theorem kw_316138954 : Cond.selects RX11 yX11_isNamed yX11_isNamed ∈ vg_T := vg_in (List.mem_append_left _ (List.mem_of_getElem? (i := 27) (by decide +kernel))) (by decide +kernel)
theorem fCV_X11_116 : vg_CV RX11 116 RX11 yX11_isNamed cX11_isNamed 4 (some .boolean) 2 := ⟨kw_54595951, kw_361680738, kw_316138954, kw_630383448, kw_22015614, ⟨rfl, by decide +kernel, by decide +kernel, by decide +kernel⟩, by decide⟩
theorem kw_376387446 : Cond.fieldLink RX11 120 "GlobRowsModel" "gone" "I" ∈ vg_T := vg_tn (i := 1228) (by decide +kernel) (by decide +kernel)
theorem fF_X11_120 : vg_F RX11 120 14 36 .int false := ⟨"GlobRowsModel", RX11, TX11, 39, tyX11, vcl_14, by decide, kw_376387446, Or.inl rfl, rfl, (fun h => nomatch h), by decide +kernel⟩
theorem kw_898168583 : Cond.fieldLink RX11 109 "GlobRowsModel" "names" "I" ∈ vg_T := vg_tn (i := 1195) (by decide +kernel) (by decide +kernel)
theorem fF_X11_109 : vg_F RX11 109 14 3 .int false := ⟨"GlobRowsModel", RX11, TX11, 39, tyX11, vcl_14, by decide, kw_898168583, Or.inl rfl, rfl, (fun h => nomatch h), by decide +kernel⟩
theorem kw_500464726 : Cond.methodLink RX11 123 yX11_child ∈ vg_T := vg_tn (i := 1342) (by decide +kernel) (by decide +kernel)
theorem kw_401046279 : Cond.code yX11_child cX11_child 4 (some .int) ∈ vg_T := vg_tn (i := 1345) (by decide +kernel) (by decide +kernel)
theorem kw_166918287 : Cond.instanceMethod yX11_child ∈ vg_T := vg_tn (i := 1344) (by decide +kernel) (by decide +kernel)
theorem kw_552808243 : Cond.selects RX11 yX11_child yX11_child ∈ vg_T := vg_in (List.mem_append_left _ (List.mem_of_getElem? (i := 26) (by decide +kernel))) (by decide +kernel)
theorem fCV_X11_123 : vg_CV RX11 123 RX11 yX11_child cX11_child 4 (some .int) 2 := ⟨kw_500464726, kw_166918287, kw_552808243, kw_630383448, kw_401046279, ⟨rfl, by decide +kernel, by decide +kernel, by decide +kernel⟩, by decide⟩
theorem kw_704630904 : Cond.fieldLink RX11 106 "GlobRowsModel" "textSize" "I" ∈ vg_T := vg_tn (i := 1194) (by decide +kernel) (by decide +kernel)
theorem fF_X11_106 : vg_F RX11 106 14 2 .int false := ⟨"GlobRowsModel", RX11, TX11, 39, tyX11, vcl_14, by decide, kw_704630904, Or.inl rfl, rfl, (fun h => nomatch h), by decide +kernel⟩
theorem kw_806092998 : Cond.methodLink RX11 112 yX11_isSign ∈ vg_T := vg_tn (i := 1335) (by decide +kernel) (by decide +kernel)
theorem kw_172290136 : Cond.code yX11_isSign cX11_isSign 1 (some .boolean) ∈ vg_T := vg_tn (i := 1337) (by decide +kernel) (by decide +kernel)
theorem kw_400913187 : Cond.static yX11_isSign ∈ vg_T := vg_tn (i := 1336) (by decide +kernel) (by decide +kernel)
theorem fCS_X11_112 : vg_CS RX11 112 yX11_isSign cX11_isSign 1 (some .boolean) 1 := ⟨kw_806092998, kw_400913187, kw_630383448, kw_172290136, ⟨by decide +kernel, by decide +kernel, by decide +kernel⟩, by decide⟩
theorem kw_642637267 : Cond.methodLink RX11 134 yX11_isPath ∈ vg_T := vg_tn (i := 1331) (by decide +kernel) (by decide +kernel)
theorem kw_221470264 : Cond.code yX11_isPath cX11_isPath 7 (some .boolean) ∈ vg_T := vg_tn (i := 1334) (by decide +kernel) (by decide +kernel)
theorem kw_526341996 : Cond.instanceMethod yX11_isPath ∈ vg_T := vg_tn (i := 1333) (by decide +kernel) (by decide +kernel)
theorem kw_536410371 : Cond.selects RX11 yX11_isPath yX11_isPath ∈ vg_T := vg_in (List.mem_append_left _ (List.mem_of_getElem? (i := 24) (by decide +kernel))) (by decide +kernel)
theorem fCV_X11_134 : vg_CV RX11 134 RX11 yX11_isPath cX11_isPath 7 (some .boolean) 0 := ⟨kw_642637267, kw_526341996, kw_536410371, kw_630383448, kw_221470264, ⟨rfl, by decide +kernel, by decide +kernel, by decide +kernel⟩, by decide⟩
theorem kw_832728344 : Cond.methodLink RX11 141 yX11_go ∈ vg_T := vg_tn (i := 1338) (by decide +kernel) (by decide +kernel)
theorem kw_926417057 : Cond.code yX11_go cX11_go 4 (some .int) ∈ vg_T := vg_tn (i := 1341) (by decide +kernel) (by decide +kernel)
theorem kw_605900014 : Cond.instanceMethod yX11_go ∈ vg_T := vg_tn (i := 1340) (by decide +kernel) (by decide +kernel)
theorem kw_680484703 : Cond.selects RX11 yX11_go yX11_go ∈ vg_T := vg_in (List.mem_append_left _ (List.mem_of_getElem? (i := 25) (by decide +kernel))) (by decide +kernel)
theorem fCV_X11_141 : vg_CV RX11 141 RX11 yX11_go cX11_go 4 (some .int) 0 := ⟨kw_832728344, kw_605900014, kw_680484703, kw_630383448, kw_926417057, ⟨rfl, by decide +kernel, by decide +kernel, by decide +kernel⟩, by decide⟩
theorem kw_71503921 : Cond.fieldLink RX11 57 "GlobRowsModel" "packagePath" "[B" ∈ vg_T := vg_tn (i := 1213) (by decide +kernel) (by decide +kernel)
theorem fF_X11_57 : vg_F RX11 57 14 21 (.array .byte) true := ⟨"GlobRowsModel", RX11, TX11, 39, tyX11, vcl_14, by decide, kw_71503921, Or.inl rfl, rfl, (fun _ => rfl), by decide +kernel⟩
theorem kw_853461269 : Cond.fieldLink RX11 42 "GlobRowsModel" "packageSize" "[I" ∈ vg_T := vg_tn (i := 1208) (by decide +kernel) (by decide +kernel)
theorem fF_X11_42 : vg_F RX11 42 14 16 (.array .int) true := ⟨"GlobRowsModel", RX11, TX11, 39, tyX11, vcl_14, by decide, kw_853461269, Or.inl rfl, rfl, (fun _ => rfl), by decide +kernel⟩
theorem kw_931364629 : Cond.fieldLink RX11 198 "GlobRowsModel" "level" "I" ∈ vg_T := vg_tn (i := 1222) (by decide +kernel) (by decide +kernel)
theorem fF_X11_198 : vg_F RX11 198 14 30 .int false := ⟨"GlobRowsModel", RX11, TX11, 39, tyX11, vcl_14, by decide, kw_931364629, Or.inl rfl, rfl, (fun h => nomatch h), by decide +kernel⟩
theorem kw_541906598 : Cond.fieldLink RX11 79 "GlobRowsModel" "folder" "[I" ∈ vg_T := vg_tn (i := 1223) (by decide +kernel) (by decide +kernel)
theorem fF_X11_79 : vg_F RX11 79 14 31 (.array .int) true := ⟨"GlobRowsModel", RX11, TX11, 39, tyX11, vcl_14, by decide, kw_541906598, Or.inl rfl, rfl, (fun _ => rfl), by decide +kernel⟩
theorem kw_553698654 : Cond.fieldLink RX11 88 "GlobRowsModel" "trail" "[I" ∈ vg_T := vg_tn (i := 1226) (by decide +kernel) (by decide +kernel)
theorem fF_X11_88 : vg_F RX11 88 14 34 (.array .int) true := ⟨"GlobRowsModel", RX11, TX11, 39, tyX11, vcl_14, by decide, kw_553698654, Or.inl rfl, rfl, (fun _ => rfl), by decide +kernel⟩
theorem kw_29320593 : Cond.fieldLink RX11 82 "GlobRowsModel" "last" "[I" ∈ vg_T := vg_tn (i := 1224) (by decide +kernel) (by decide +kernel)
theorem fF_X11_82 : vg_F RX11 82 14 32 (.array .int) true := ⟨"GlobRowsModel", RX11, TX11, 39, tyX11, vcl_14, by decide, kw_29320593, Or.inl rfl, rfl, (fun _ => rfl), by decide +kernel⟩
theorem kw_844781337 : Cond.fieldLink RX11 85 "GlobRowsModel" "pathEnd" "[I" ∈ vg_T := vg_tn (i := 1225) (by decide +kernel) (by decide +kernel)
theorem fF_X11_85 : vg_F RX11 85 14 33 (.array .int) true := ⟨"GlobRowsModel", RX11, TX11, 39, tyX11, vcl_14, by decide, kw_844781337, Or.inl rfl, rfl, (fun _ => rfl), by decide +kernel⟩
theorem kw_704103268 : Cond.methodLink RX11 213 yX11_compare ∈ vg_T := vg_tn (i := 1474) (by decide +kernel) (by decide +kernel)
theorem kw_685224712 : Cond.code yX11_compare cX11_compare 6 (some .int) ∈ vg_T := vg_tn (i := 1477) (by decide +kernel) (by decide +kernel)
theorem kw_728084419 : Cond.instanceMethod yX11_compare ∈ vg_T := vg_tn (i := 1476) (by decide +kernel) (by decide +kernel)
theorem kw_555232270 : Cond.selects RX11 yX11_compare yX11_compare ∈ vg_T := vg_in (List.mem_append_left _ (List.mem_of_getElem? (i := 52) (by decide +kernel))) (by decide +kernel)
theorem fCV_X11_213 : vg_CV RX11 213 RX11 yX11_compare cX11_compare 6 (some .int) 2 := ⟨kw_704103268, kw_728084419, kw_555232270, kw_630383448, kw_685224712, ⟨rfl, by decide +kernel, by decide +kernel, by decide +kernel⟩, by decide⟩
theorem kw_239040147 : Cond.fieldLink RX11 54 "GlobRowsModel" "patternSize" "[I" ∈ vg_T := vg_tn (i := 1212) (by decide +kernel) (by decide +kernel)
theorem fF_X11_54 : vg_F RX11 54 14 20 (.array .int) true := ⟨"GlobRowsModel", RX11, TX11, 39, tyX11, vcl_14, by decide, kw_239040147, Or.inl rfl, rfl, (fun _ => rfl), by decide +kernel⟩
theorem kw_145193378 : Cond.fieldLink RX11 60 "GlobRowsModel" "patterns" "[B" ∈ vg_T := vg_tn (i := 1214) (by decide +kernel) (by decide +kernel)
theorem fF_X11_60 : vg_F RX11 60 14 22 (.array .byte) true := ⟨"GlobRowsModel", RX11, TX11, 39, tyX11, vcl_14, by decide, kw_145193378, Or.inl rfl, rfl, (fun _ => rfl), by decide +kernel⟩
theorem kw_66015538 : Cond.methodLink RX11 175 yX11_byteOf ∈ vg_T := vg_tn (i := 1442) (by decide +kernel) (by decide +kernel)
theorem kw_320469812 : Cond.code yX11_byteOf cX11_byteOf 3 (some .int) ∈ vg_T := vg_tn (i := 1445) (by decide +kernel) (by decide +kernel)
theorem kw_317910912 : Cond.instanceMethod yX11_byteOf ∈ vg_T := vg_tn (i := 1444) (by decide +kernel) (by decide +kernel)
theorem kw_394110359 : Cond.selects RX11 yX11_byteOf yX11_byteOf ∈ vg_T := vg_in (List.mem_append_left _ (List.mem_of_getElem? (i := 44) (by decide +kernel))) (by decide +kernel)
theorem fCV_X11_175 : vg_CV RX11 175 RX11 yX11_byteOf cX11_byteOf 3 (some .int) 2 := ⟨kw_66015538, kw_317910912, kw_394110359, kw_630383448, kw_320469812, ⟨rfl, by decide +kernel, by decide +kernel, by decide +kernel⟩, by decide⟩
theorem kw_114775563 : Cond.methodLink RX11 182 yX11_pieces ∈ vg_T := vg_tn (i := 1438) (by decide +kernel) (by decide +kernel)
theorem kw_758606442 : Cond.code yX11_pieces cX11_pieces 4 (some .int) ∈ vg_T := vg_tn (i := 1441) (by decide +kernel) (by decide +kernel)
theorem kw_685010753 : Cond.instanceMethod yX11_pieces ∈ vg_T := vg_tn (i := 1440) (by decide +kernel) (by decide +kernel)
theorem kw_206370104 : Cond.selects RX11 yX11_pieces yX11_pieces ∈ vg_T := vg_in (List.mem_append_left _ (List.mem_of_getElem? (i := 43) (by decide +kernel))) (by decide +kernel)
theorem fCV_X11_182 : vg_CV RX11 182 RX11 yX11_pieces cX11_pieces 4 (some .int) 1 := ⟨kw_114775563, kw_685010753, kw_206370104, kw_630383448, kw_758606442, ⟨rfl, by decide +kernel, by decide +kernel, by decide +kernel⟩, by decide⟩
theorem kw_185393020 : Cond.methodLink RX11 185 yX11_pieceEnd ∈ vg_T := vg_tn (i := 1446) (by decide +kernel) (by decide +kernel)
theorem kw_220908841 : Cond.code yX11_pieceEnd cX11_pieceEnd 4 (some .int) ∈ vg_T := vg_tn (i := 1449) (by decide +kernel) (by decide +kernel)
theorem kw_468675052 : Cond.instanceMethod yX11_pieceEnd ∈ vg_T := vg_tn (i := 1448) (by decide +kernel) (by decide +kernel)
theorem kw_360209964 : Cond.selects RX11 yX11_pieceEnd yX11_pieceEnd ∈ vg_T := vg_in (List.mem_append_left _ (List.mem_of_getElem? (i := 45) (by decide +kernel))) (by decide +kernel)
theorem fCV_X11_185 : vg_CV RX11 185 RX11 yX11_pieceEnd cX11_pieceEnd 4 (some .int) 2 := ⟨kw_185393020, kw_468675052, kw_360209964, kw_630383448, kw_220908841, ⟨rfl, by decide +kernel, by decide +kernel, by decide +kernel⟩, by decide⟩
theorem kw_596075063 : Cond.methodLink RX11 188 yX11_isStars ∈ vg_T := vg_tn (i := 1450) (by decide +kernel) (by decide +kernel)
theorem kw_751947408 : Cond.code yX11_isStars cX11_isStars 4 (some .boolean) ∈ vg_T := vg_tn (i := 1453) (by decide +kernel) (by decide +kernel)
theorem kw_876689851 : Cond.instanceMethod yX11_isStars ∈ vg_T := vg_tn (i := 1452) (by decide +kernel) (by decide +kernel)
theorem kw_244217350 : Cond.selects RX11 yX11_isStars yX11_isStars ∈ vg_T := vg_in (List.mem_append_left _ (List.mem_of_getElem? (i := 46) (by decide +kernel))) (by decide +kernel)
theorem fCV_X11_188 : vg_CV RX11 188 RX11 yX11_isStars cX11_isStars 4 (some .boolean) 3 := ⟨kw_596075063, kw_876689851, kw_244217350, kw_630383448, kw_751947408, ⟨rfl, by decide +kernel, by decide +kernel, by decide +kernel⟩, by decide⟩
theorem kw_666621825 : Cond.methodLink RX11 178 yX11_isOne ∈ vg_T := vg_tn (i := 1462) (by decide +kernel) (by decide +kernel)
theorem kw_976419092 : Cond.code yX11_isOne cX11_isOne 7 (some .boolean) ∈ vg_T := vg_tn (i := 1465) (by decide +kernel) (by decide +kernel)
theorem kw_958200884 : Cond.instanceMethod yX11_isOne ∈ vg_T := vg_tn (i := 1464) (by decide +kernel) (by decide +kernel)
theorem kw_92506283 : Cond.selects RX11 yX11_isOne yX11_isOne ∈ vg_T := vg_in (List.mem_append_left _ (List.mem_of_getElem? (i := 49) (by decide +kernel))) (by decide +kernel)
theorem fCV_X11_178 : vg_CV RX11 178 RX11 yX11_isOne cX11_isOne 7 (some .boolean) 4 := ⟨kw_666621825, kw_958200884, kw_92506283, kw_630383448, kw_976419092, ⟨rfl, by decide +kernel, by decide +kernel, by decide +kernel⟩, by decide⟩
theorem kw_279406847 : Cond.methodLink RX11 195 yX11_closed ∈ vg_T := vg_tn (i := 1434) (by decide +kernel) (by decide +kernel)
theorem kw_365623222 : Cond.code yX11_closed cX11_closed 7 (some .int) ∈ vg_T := vg_tn (i := 1437) (by decide +kernel) (by decide +kernel)
theorem kw_57904024 : Cond.instanceMethod yX11_closed ∈ vg_T := vg_tn (i := 1436) (by decide +kernel) (by decide +kernel)
theorem kw_511488308 : Cond.selects RX11 yX11_closed yX11_closed ∈ vg_T := vg_in (List.mem_append_left _ (List.mem_of_getElem? (i := 42) (by decide +kernel))) (by decide +kernel)
theorem fCV_X11_195 : vg_CV RX11 195 RX11 yX11_closed cX11_closed 7 (some .int) 2 := ⟨kw_279406847, kw_57904024, kw_511488308, kw_630383448, kw_365623222, ⟨rfl, by decide +kernel, by decide +kernel, by decide +kernel⟩, by decide⟩
theorem kw_336298862 : Cond.methodLink RX11 192 yX11_fitsName ∈ vg_T := vg_tn (i := 1458) (by decide +kernel) (by decide +kernel)
theorem kw_34847729 : Cond.code yX11_fitsName cX11_fitsName 14 (some .boolean) ∈ vg_T := vg_tn (i := 1461) (by decide +kernel) (by decide +kernel)
theorem kw_649125029 : Cond.instanceMethod yX11_fitsName ∈ vg_T := vg_tn (i := 1460) (by decide +kernel) (by decide +kernel)
theorem kw_185629343 : Cond.selects RX11 yX11_fitsName yX11_fitsName ∈ vg_T := vg_in (List.mem_append_left _ (List.mem_of_getElem? (i := 48) (by decide +kernel))) (by decide +kernel)
theorem fCV_X11_192 : vg_CV RX11 192 RX11 yX11_fitsName cX11_fitsName 14 (some .boolean) 4 := ⟨kw_336298862, kw_649125029, kw_185629343, kw_630383448, kw_34847729, ⟨rfl, by decide +kernel, by decide +kernel, by decide +kernel⟩, by decide⟩
theorem kw_176865810 : Cond.methodLink RX11 201 yX11_on ∈ vg_T := vg_tn (i := 1454) (by decide +kernel) (by decide +kernel)
theorem kw_274469610 : Cond.code yX11_on cX11_on 9 (some .int) ∈ vg_T := vg_tn (i := 1457) (by decide +kernel) (by decide +kernel)
theorem kw_605901061 : Cond.instanceMethod yX11_on ∈ vg_T := vg_tn (i := 1456) (by decide +kernel) (by decide +kernel)
theorem kw_84363298 : Cond.selects RX11 yX11_on yX11_on ∈ vg_T := vg_in (List.mem_append_left _ (List.mem_of_getElem? (i := 47) (by decide +kernel))) (by decide +kernel)
theorem fCV_X11_201 : vg_CV RX11 201 RX11 yX11_on cX11_on 9 (some .int) 3 := ⟨kw_176865810, kw_605901061, kw_84363298, kw_630383448, kw_274469610, ⟨rfl, by decide +kernel, by decide +kernel, by decide +kernel⟩, by decide⟩
theorem kw_74971038 : Cond.methodLink RX11 207 yX11_bitsOf ∈ vg_T := vg_tn (i := 1430) (by decide +kernel) (by decide +kernel)
theorem kw_505966375 : Cond.code yX11_bitsOf cX11_bitsOf 5 (some .int) ∈ vg_T := vg_tn (i := 1433) (by decide +kernel) (by decide +kernel)
theorem kw_606152465 : Cond.instanceMethod yX11_bitsOf ∈ vg_T := vg_tn (i := 1432) (by decide +kernel) (by decide +kernel)
theorem kw_39357666 : Cond.selects RX11 yX11_bitsOf yX11_bitsOf ∈ vg_T := vg_in (List.mem_append_left _ (List.mem_of_getElem? (i := 41) (by decide +kernel))) (by decide +kernel)
theorem fCV_X11_207 : vg_CV RX11 207 RX11 yX11_bitsOf cX11_bitsOf 5 (some .int) 2 := ⟨kw_74971038, kw_606152465, kw_39357666, kw_630383448, kw_505966375, ⟨rfl, by decide +kernel, by decide +kernel, by decide +kernel⟩, by decide⟩
theorem kw_846447414 : Cond.methodLink RX11 204 yX11_isForFolders ∈ vg_T := vg_tn (i := 1486) (by decide +kernel) (by decide +kernel)
theorem kw_653364881 : Cond.code yX11_isForFolders cX11_isForFolders 2 (some .boolean) ∈ vg_T := vg_tn (i := 1489) (by decide +kernel) (by decide +kernel)
theorem kw_950477924 : Cond.instanceMethod yX11_isForFolders ∈ vg_T := vg_tn (i := 1488) (by decide +kernel) (by decide +kernel)
theorem kw_512500700 : Cond.selects RX11 yX11_isForFolders yX11_isForFolders ∈ vg_T := vg_in (List.mem_append_left _ (List.mem_of_getElem? (i := 55) (by decide +kernel))) (by decide +kernel)
theorem fCV_X11_204 : vg_CV RX11 204 RX11 yX11_isForFolders cX11_isForFolders 2 (some .boolean) 1 := ⟨kw_846447414, kw_950477924, kw_512500700, kw_630383448, kw_653364881, ⟨rfl, by decide +kernel, by decide +kernel, by decide +kernel⟩, by decide⟩
theorem kw_289764785 : Cond.fieldLink RX11 45 "GlobRowsModel" "takesIn" "[I" ∈ vg_T := vg_tn (i := 1209) (by decide +kernel) (by decide +kernel)
theorem fF_X11_45 : vg_F RX11 45 14 17 (.array .int) true := ⟨"GlobRowsModel", RX11, TX11, 39, tyX11, vcl_14, by decide, kw_289764785, Or.inl rfl, rfl, (fun _ => rfl), by decide +kernel⟩
theorem kw_186780173 : Cond.methodLink RX11 210 yX11_fits ∈ vg_T := vg_tn (i := 1482) (by decide +kernel) (by decide +kernel)
theorem kw_889494665 : Cond.code yX11_fits cX11_fits 3 (some .boolean) ∈ vg_T := vg_tn (i := 1485) (by decide +kernel) (by decide +kernel)
theorem kw_847731729 : Cond.instanceMethod yX11_fits ∈ vg_T := vg_tn (i := 1484) (by decide +kernel) (by decide +kernel)
theorem kw_813375959 : Cond.selects RX11 yX11_fits yX11_fits ∈ vg_T := vg_in (List.mem_append_left _ (List.mem_of_getElem? (i := 54) (by decide +kernel))) (by decide +kernel)
theorem fCV_X11_210 : vg_CV RX11 210 RX11 yX11_fits cX11_fits 3 (some .boolean) 2 := ⟨kw_186780173, kw_847731729, kw_813375959, kw_630383448, kw_889494665, ⟨rfl, by decide +kernel, by decide +kernel, by decide +kernel⟩, by decide⟩
theorem kw_644618521 : Cond.fieldLink RX11 48 "GlobRowsModel" "leavesOut" "[I" ∈ vg_T := vg_tn (i := 1210) (by decide +kernel) (by decide +kernel)
theorem fF_X11_48 : vg_F RX11 48 14 18 (.array .int) true := ⟨"GlobRowsModel", RX11, TX11, 39, tyX11, vcl_14, by decide, kw_644618521, Or.inl rfl, rfl, (fun _ => rfl), by decide +kernel⟩
theorem kw_978037871 : Cond.fieldLink RX11 63 "GlobRowsModel" "anew" "[Z" ∈ vg_T := vg_tn (i := 1215) (by decide +kernel) (by decide +kernel)
theorem fF_X11_63 : vg_F RX11 63 14 23 (.array .boolean) true := ⟨"GlobRowsModel", RX11, TX11, 39, tyX11, vcl_14, by decide, kw_978037871, Or.inl rfl, rfl, (fun _ => rfl), by decide +kernel⟩
theorem kw_10335681 : Cond.fieldLink RX11 66 "GlobRowsModel" "seen" "[I" ∈ vg_T := vg_tn (i := 1216) (by decide +kernel) (by decide +kernel)
theorem fF_X11_66 : vg_F RX11 66 14 24 (.array .int) true := ⟨"GlobRowsModel", RX11, TX11, 39, tyX11, vcl_14, by decide, kw_10335681, Or.inl rfl, rfl, (fun _ => rfl), by decide +kernel⟩
theorem kw_463581337 : Cond.fieldLink RX11 51 "GlobRowsModel" "askedAt" "[I" ∈ vg_T := vg_tn (i := 1211) (by decide +kernel) (by decide +kernel)
theorem fF_X11_51 : vg_F RX11 51 14 19 (.array .int) true := ⟨"GlobRowsModel", RX11, TX11, 39, tyX11, vcl_14, by decide, kw_463581337, Or.inl rfl, rfl, (fun _ => rfl), by decide +kernel⟩
theorem kw_215803086 : Cond.fieldLink RX11 225 "GlobRowsModel" "lookedMany" "I" ∈ vg_T := vg_tn (i := 1218) (by decide +kernel) (by decide +kernel)
theorem fF_X11_225 : vg_F RX11 225 14 26 .int false := ⟨"GlobRowsModel", RX11, TX11, 39, tyX11, vcl_14, by decide, kw_215803086, Or.inl rfl, rfl, (fun h => nomatch h), by decide +kernel⟩
theorem kw_648508511 : Cond.fieldLink RX11 97 "GlobRowsModel" "now" "[I" ∈ vg_T := vg_tn (i := 1230) (by decide +kernel) (by decide +kernel)
theorem fF_X11_97 : vg_F RX11 97 14 38 (.array .int) true := ⟨"GlobRowsModel", RX11, TX11, 39, tyX11, vcl_14, by decide, kw_648508511, Or.inl rfl, rfl, (fun _ => rfl), by decide +kernel⟩
theorem kw_686085237 : Cond.methodLink RX11 232 yX11_isLooked ∈ vg_T := vg_tn (i := 1426) (by decide +kernel) (by decide +kernel)
theorem kw_824038327 : Cond.code yX11_isLooked cX11_isLooked 5 (some .boolean) ∈ vg_T := vg_tn (i := 1429) (by decide +kernel) (by decide +kernel)
theorem kw_348795831 : Cond.instanceMethod yX11_isLooked ∈ vg_T := vg_tn (i := 1428) (by decide +kernel) (by decide +kernel)
theorem kw_75206732 : Cond.selects RX11 yX11_isLooked yX11_isLooked ∈ vg_T := vg_in (List.mem_append_left _ (List.mem_of_getElem? (i := 40) (by decide +kernel))) (by decide +kernel)
theorem fCV_X11_232 : vg_CV RX11 232 RX11 yX11_isLooked cX11_isLooked 5 (some .boolean) 1 := ⟨kw_686085237, kw_348795831, kw_75206732, kw_630383448, kw_824038327, ⟨rfl, by decide +kernel, by decide +kernel, by decide +kernel⟩, by decide⟩
theorem kw_263698430 : Cond.methodLink RX11 235 yX11_counts ∈ vg_T := vg_tn (i := 1466) (by decide +kernel) (by decide +kernel)
theorem kw_745504971 : Cond.code yX11_counts cX11_counts 3 (some .boolean) ∈ vg_T := vg_tn (i := 1469) (by decide +kernel) (by decide +kernel)
theorem kw_954808508 : Cond.instanceMethod yX11_counts ∈ vg_T := vg_tn (i := 1468) (by decide +kernel) (by decide +kernel)
theorem kw_983334257 : Cond.selects RX11 yX11_counts yX11_counts ∈ vg_T := vg_in (List.mem_append_left _ (List.mem_of_getElem? (i := 50) (by decide +kernel))) (by decide +kernel)
theorem fCV_X11_235 : vg_CV RX11 235 RX11 yX11_counts cX11_counts 3 (some .boolean) 2 := ⟨kw_263698430, kw_954808508, kw_983334257, kw_630383448, kw_745504971, ⟨rfl, by decide +kernel, by decide +kernel, by decide +kernel⟩, by decide⟩
theorem kw_893813498 : Cond.fieldLink RX11 91 "GlobRowsModel" "path" "[B" ∈ vg_T := vg_tn (i := 1227) (by decide +kernel) (by decide +kernel)
theorem fF_X11_91 : vg_F RX11 91 14 35 (.array .byte) true := ⟨"GlobRowsModel", RX11, TX11, 39, tyX11, vcl_14, by decide, kw_893813498, Or.inl rfl, rfl, (fun _ => rfl), by decide +kernel⟩
theorem kw_251951439 : Cond.methodLink RX11 216 yX11_spell ∈ vg_T := vg_tn (i := 1494) (by decide +kernel) (by decide +kernel)
theorem kw_646838660 : Cond.code yX11_spell cX11_spell 4 (some .int) ∈ vg_T := vg_tn (i := 1497) (by decide +kernel) (by decide +kernel)
theorem kw_896833087 : Cond.instanceMethod yX11_spell ∈ vg_T := vg_tn (i := 1496) (by decide +kernel) (by decide +kernel)
theorem kw_207490381 : Cond.selects RX11 yX11_spell yX11_spell ∈ vg_T := vg_in (List.mem_append_left _ (List.mem_of_getElem? (i := 57) (by decide +kernel))) (by decide +kernel)
theorem fCV_X11_216 : vg_CV RX11 216 RX11 yX11_spell cX11_spell 4 (some .int) 1 := ⟨kw_251951439, kw_896833087, kw_207490381, kw_630383448, kw_646838660, ⟨rfl, by decide +kernel, by decide +kernel, by decide +kernel⟩, by decide⟩
theorem kw_926202357 : Cond.methodLink RX11 244 yX11_following ∈ vg_T := vg_tn (i := 1470) (by decide +kernel) (by decide +kernel)
theorem kw_589399843 : Cond.code yX11_following cX11_following 4 (some .int) ∈ vg_T := vg_tn (i := 1473) (by decide +kernel) (by decide +kernel)
theorem kw_145567510 : Cond.instanceMethod yX11_following ∈ vg_T := vg_tn (i := 1472) (by decide +kernel) (by decide +kernel)
theorem kw_414841791 : Cond.selects RX11 yX11_following yX11_following ∈ vg_T := vg_in (List.mem_append_left _ (List.mem_of_getElem? (i := 51) (by decide +kernel))) (by decide +kernel)
theorem fCV_X11_244 : vg_CV RX11 244 RX11 yX11_following cX11_following 4 (some .int) 0 := ⟨kw_926202357, kw_145567510, kw_414841791, kw_630383448, kw_589399843, ⟨rfl, by decide +kernel, by decide +kernel, by decide +kernel⟩, by decide⟩
theorem kw_57509790 : Cond.methodLink RX11 247 yX11_isAnswer ∈ vg_T := vg_tn (i := 1478) (by decide +kernel) (by decide +kernel)
theorem kw_389284006 : Cond.code yX11_isAnswer cX11_isAnswer 6 (some .boolean) ∈ vg_T := vg_tn (i := 1481) (by decide +kernel) (by decide +kernel)
theorem kw_689111034 : Cond.instanceMethod yX11_isAnswer ∈ vg_T := vg_tn (i := 1480) (by decide +kernel) (by decide +kernel)
theorem kw_77790650 : Cond.selects RX11 yX11_isAnswer yX11_isAnswer ∈ vg_T := vg_in (List.mem_append_left _ (List.mem_of_getElem? (i := 53) (by decide +kernel))) (by decide +kernel)
theorem fCV_X11_247 : vg_CV RX11 247 RX11 yX11_isAnswer cX11_isAnswer 6 (some .boolean) 2 := ⟨kw_57509790, kw_689111034, kw_77790650, kw_630383448, kw_389284006, ⟨rfl, by decide +kernel, by decide +kernel, by decide +kernel⟩, by decide⟩
theorem kw_178031472 : Cond.methodLink RX11 250 yX11_tell ∈ vg_T := vg_tn (i := 1490) (by decide +kernel) (by decide +kernel)
theorem kw_166648882 : Cond.code yX11_tell cX11_tell 4 none ∈ vg_T := vg_tn (i := 1493) (by decide +kernel) (by decide +kernel)
theorem kw_879135304 : Cond.instanceMethod yX11_tell ∈ vg_T := vg_tn (i := 1492) (by decide +kernel) (by decide +kernel)
theorem kw_659661288 : Cond.selects RX11 yX11_tell yX11_tell ∈ vg_T := vg_in (List.mem_append_left _ (List.mem_of_getElem? (i := 56) (by decide +kernel))) (by decide +kernel)
theorem fCV_X11_250 : vg_CV RX11 250 RX11 yX11_tell cX11_tell 4 none 1 := ⟨kw_178031472, kw_879135304, kw_659661288, kw_630383448, kw_166648882, ⟨rfl, by decide +kernel, by decide +kernel, by decide +kernel⟩, by decide⟩
theorem kw_474662700 : Cond.methodLink RX11 238 yX11_enter ∈ vg_T := vg_tn (i := 1418) (by decide +kernel) (by decide +kernel)
theorem kw_471582494 : Cond.code yX11_enter cX11_enter 3 none ∈ vg_T := vg_tn (i := 1421) (by decide +kernel) (by decide +kernel)
theorem kw_769594543 : Cond.instanceMethod yX11_enter ∈ vg_T := vg_tn (i := 1420) (by decide +kernel) (by decide +kernel)
theorem kw_355442770 : Cond.selects RX11 yX11_enter yX11_enter ∈ vg_T := vg_in (List.mem_append_left _ (List.mem_of_getElem? (i := 38) (by decide +kernel))) (by decide +kernel)
theorem fCV_X11_238 : vg_CV RX11 238 RX11 yX11_enter cX11_enter 3 none 2 := ⟨kw_474662700, kw_769594543, kw_355442770, kw_630383448, kw_471582494, ⟨rfl, by decide +kernel, by decide +kernel, by decide +kernel⟩, by decide⟩
theorem kw_147279425 : Cond.methodLink RX11 241 yX11_look ∈ vg_T := vg_tn (i := 1422) (by decide +kernel) (by decide +kernel)
theorem kw_263348921 : Cond.code yX11_look cX11_look 3 none ∈ vg_T := vg_tn (i := 1425) (by decide +kernel) (by decide +kernel)
theorem kw_861322578 : Cond.instanceMethod yX11_look ∈ vg_T := vg_tn (i := 1424) (by decide +kernel) (by decide +kernel)
theorem kw_591248672 : Cond.selects RX11 yX11_look yX11_look ∈ vg_T := vg_in (List.mem_append_left _ (List.mem_of_getElem? (i := 39) (by decide +kernel))) (by decide +kernel)
theorem fCV_X11_241 : vg_CV RX11 241 RX11 yX11_look cX11_look 3 none 1 := ⟨kw_147279425, kw_861322578, kw_591248672, kw_630383448, kw_263348921, ⟨rfl, by decide +kernel, by decide +kernel, by decide +kernel⟩, by decide⟩
theorem kw_741866727 : Cond.methodLink RX11 222 yX11_packageOf ∈ vg_T := vg_tn (i := 1410) (by decide +kernel) (by decide +kernel)
theorem kw_920818404 : Cond.code yX11_packageOf cX11_packageOf 4 (some .int) ∈ vg_T := vg_tn (i := 1413) (by decide +kernel) (by decide +kernel)
theorem kw_166275962 : Cond.instanceMethod yX11_packageOf ∈ vg_T := vg_tn (i := 1412) (by decide +kernel) (by decide +kernel)
theorem kw_107899703 : Cond.selects RX11 yX11_packageOf yX11_packageOf ∈ vg_T := vg_in (List.mem_append_left _ (List.mem_of_getElem? (i := 36) (by decide +kernel))) (by decide +kernel)
theorem fCV_X11_222 : vg_CV RX11 222 RX11 yX11_packageOf cX11_packageOf 4 (some .int) 1 := ⟨kw_741866727, kw_166275962, kw_107899703, kw_630383448, kw_920818404, ⟨rfl, by decide +kernel, by decide +kernel, by decide +kernel⟩, by decide⟩
theorem kw_577345233 : Cond.fieldLink RX11 94 "GlobRowsModel" "typed" "[B" ∈ vg_T := vg_tn (i := 1229) (by decide +kernel) (by decide +kernel)
theorem fF_X11_94 : vg_F RX11 94 14 37 (.array .byte) true := ⟨"GlobRowsModel", RX11, TX11, 39, tyX11, vcl_14, by decide, kw_577345233, Or.inl rfl, rfl, (fun _ => rfl), by decide +kernel⟩
theorem kw_31002187 : Cond.methodLink RX11 228 yX11_walk ∈ vg_T := vg_tn (i := 1414) (by decide +kernel) (by decide +kernel)
theorem kw_682963488 : Cond.code yX11_walk cX11_walk 5 none ∈ vg_T := vg_tn (i := 1417) (by decide +kernel) (by decide +kernel)
theorem kw_885810932 : Cond.instanceMethod yX11_walk ∈ vg_T := vg_tn (i := 1416) (by decide +kernel) (by decide +kernel)
theorem kw_159359712 : Cond.selects RX11 yX11_walk yX11_walk ∈ vg_T := vg_in (List.mem_append_left _ (List.mem_of_getElem? (i := 37) (by decide +kernel))) (by decide +kernel)
theorem fCV_X11_228 : vg_CV RX11 228 RX11 yX11_walk cX11_walk 5 none 2 := ⟨kw_31002187, kw_885810932, kw_159359712, kw_630383448, kw_682963488, ⟨rfl, by decide +kernel, by decide +kernel, by decide +kernel⟩, by decide⟩
theorem kw_583108478 : Cond.fieldLink RX11 159 "GlobRowsModel" "queries" "I" ∈ vg_T := vg_tn (i := 1207) (by decide +kernel) (by decide +kernel)
theorem fF_X11_159 : vg_F RX11 159 14 15 .int false := ⟨"GlobRowsModel", RX11, TX11, 39, tyX11, vcl_14, by decide, kw_583108478, Or.inl rfl, rfl, (fun h => nomatch h), by decide +kernel⟩
theorem kw_372364617 : Cond.methodLink RX11 145 yX11_many ∈ vg_T := vg_tn (i := 1350) (by decide +kernel) (by decide +kernel)
theorem kw_932605682 : Cond.code yX11_many cX11_many 3 (some .int) ∈ vg_T := vg_tn (i := 1353) (by decide +kernel) (by decide +kernel)
theorem kw_863330298 : Cond.instanceMethod yX11_many ∈ vg_T := vg_tn (i := 1352) (by decide +kernel) (by decide +kernel)
theorem kw_428128516 : Cond.selects RX11 yX11_many yX11_many ∈ vg_T := vg_in (List.mem_append_left _ (List.mem_of_getElem? (i := 28) (by decide +kernel))) (by decide +kernel)
theorem fCV_X11_145 : vg_CV RX11 145 RX11 yX11_many cX11_many 3 (some .int) 0 := ⟨kw_372364617, kw_863330298, kw_428128516, kw_630383448, kw_932605682, ⟨rfl, by decide +kernel, by decide +kernel, by decide +kernel⟩, by decide⟩
theorem kw_444858823 : Cond.methodLink RX11 148 yX11_add ∈ vg_T := vg_tn (i := 1354) (by decide +kernel) (by decide +kernel)
theorem kw_456744677 : Cond.code yX11_add cX11_add 6 (some .int) ∈ vg_T := vg_tn (i := 1357) (by decide +kernel) (by decide +kernel)
theorem kw_372796974 : Cond.instanceMethod yX11_add ∈ vg_T := vg_tn (i := 1356) (by decide +kernel) (by decide +kernel)
theorem kw_577141736 : Cond.selects RX11 yX11_add yX11_add ∈ vg_T := vg_in (List.mem_append_left _ (List.mem_of_getElem? (i := 29) (by decide +kernel))) (by decide +kernel)
theorem fCV_X11_148 : vg_CV RX11 148 RX11 yX11_add cX11_add 6 (some .int) 3 := ⟨kw_444858823, kw_372796974, kw_577141736, kw_630383448, kw_456744677, ⟨rfl, by decide +kernel, by decide +kernel, by decide +kernel⟩, by decide⟩
theorem kw_126082754 : Cond.methodLink RX11 138 yX11_takes ∈ vg_T := vg_tn (i := 1327) (by decide +kernel) (by decide +kernel)
theorem kw_572438779 : Cond.code yX11_takes cX11_takes 1 (some .boolean) ∈ vg_T := vg_tn (i := 1330) (by decide +kernel) (by decide +kernel)
theorem kw_157713692 : Cond.instanceMethod yX11_takes ∈ vg_T := vg_tn (i := 1329) (by decide +kernel) (by decide +kernel)
theorem kw_902683931 : Cond.selects RX11 yX11_takes yX11_takes ∈ vg_T := vg_in (List.mem_append_left _ (List.mem_of_getElem? (i := 23) (by decide +kernel))) (by decide +kernel)
theorem fCV_X11_138 : vg_CV RX11 138 RX11 yX11_takes cX11_takes 1 (some .boolean) 0 := ⟨kw_126082754, kw_157713692, kw_902683931, kw_630383448, kw_572438779, ⟨rfl, by decide +kernel, by decide +kernel, by decide +kernel⟩, by decide⟩
theorem kw_972811815 : Cond.methodLink RX11 152 yX11_put ∈ vg_T := vg_tn (i := 1323) (by decide +kernel) (by decide +kernel)
theorem kw_940993213 : Cond.code yX11_put cX11_put 5 (some .int) ∈ vg_T := vg_tn (i := 1326) (by decide +kernel) (by decide +kernel)
theorem kw_373056632 : Cond.instanceMethod yX11_put ∈ vg_T := vg_tn (i := 1325) (by decide +kernel) (by decide +kernel)
theorem kw_567759479 : Cond.selects RX11 yX11_put yX11_put ∈ vg_T := vg_in (List.mem_append_left _ (List.mem_of_getElem? (i := 22) (by decide +kernel))) (by decide +kernel)
theorem fCV_X11_152 : vg_CV RX11 152 RX11 yX11_put cX11_put 5 (some .int) 1 := ⟨kw_972811815, kw_373056632, kw_567759479, kw_630383448, kw_940993213, ⟨rfl, by decide +kernel, by decide +kernel, by decide +kernel⟩, by decide⟩
theorem kw_511065475 : Cond.methodLink RX11 162 yX11_at ∈ vg_T := vg_tn (i := 1394) (by decide +kernel) (by decide +kernel)
theorem kw_42682038 : Cond.code yX11_at cX11_at 2 (some .int) ∈ vg_T := vg_tn (i := 1397) (by decide +kernel) (by decide +kernel)
theorem kw_605899233 : Cond.instanceMethod yX11_at ∈ vg_T := vg_tn (i := 1396) (by decide +kernel) (by decide +kernel)
theorem kw_540628746 : Cond.selects RX11 yX11_at yX11_at ∈ vg_T := vg_in (List.mem_append_left _ (List.mem_of_getElem? (i := 34) (by decide +kernel))) (by decide +kernel)
theorem fCV_X11_162 : vg_CV RX11 162 RX11 yX11_at cX11_at 2 (some .int) 1 := ⟨kw_511065475, kw_605899233, kw_540628746, kw_630383448, kw_42682038, ⟨rfl, by decide +kernel, by decide +kernel, by decide +kernel⟩, by decide⟩
theorem kw_359033271 : Cond.methodLink RX11 165 yX11_part ∈ vg_T := vg_tn (i := 1398) (by decide +kernel) (by decide +kernel)
theorem kw_171986509 : Cond.code yX11_part cX11_part 4 (some .int) ∈ vg_T := vg_tn (i := 1401) (by decide +kernel) (by decide +kernel)
theorem kw_870075090 : Cond.instanceMethod yX11_part ∈ vg_T := vg_tn (i := 1400) (by decide +kernel) (by decide +kernel)
theorem kw_719705274 : Cond.selects RX11 yX11_part yX11_part ∈ vg_T := vg_in (List.mem_append_left _ (List.mem_of_getElem? (i := 35) (by decide +kernel))) (by decide +kernel)
theorem fCV_X11_165 : vg_CV RX11 165 RX11 yX11_part cX11_part 4 (some .int) 1 := ⟨kw_359033271, kw_870075090, kw_719705274, kw_630383448, kw_171986509, ⟨rfl, by decide +kernel, by decide +kernel, by decide +kernel⟩, by decide⟩
theorem kw_21003474 : Cond.methodLink RX11 168 yX11_piece ∈ vg_T := vg_tn (i := 1390) (by decide +kernel) (by decide +kernel)
theorem kw_830843839 : Cond.code yX11_piece cX11_piece 6 (some .int) ∈ vg_T := vg_tn (i := 1393) (by decide +kernel) (by decide +kernel)
theorem kw_997595508 : Cond.instanceMethod yX11_piece ∈ vg_T := vg_tn (i := 1392) (by decide +kernel) (by decide +kernel)
theorem kw_180727973 : Cond.selects RX11 yX11_piece yX11_piece ∈ vg_T := vg_in (List.mem_append_left _ (List.mem_of_getElem? (i := 33) (by decide +kernel))) (by decide +kernel)
theorem fCV_X11_168 : vg_CV RX11 168 RX11 yX11_piece cX11_piece 6 (some .int) 2 := ⟨kw_21003474, kw_997595508, kw_180727973, kw_630383448, kw_830843839, ⟨rfl, by decide +kernel, by decide +kernel, by decide +kernel⟩, by decide⟩
theorem kw_9799401 : Cond.methodLink RX11 1 objectInit ∈ vg_T := vg_tn (i := 1191) (by decide +kernel) (by decide +kernel)
theorem kw_624348017 : Cond.instanceMethod objectInit ∈ vg_T := vg_tn (i := 40) (by decide +kernel) (by decide +kernel)
theorem kw_835052908 : Cond.code objectInit ⟨#[0xb1]⟩ 1 none ∈ vg_T := vg_tn (i := 41) (by decide +kernel) (by decide +kernel)
theorem kw_180627857 : Cond.arrayClass .byte ∈ vg_T := vg_tn (i := 74) (by decide +kernel) (by decide +kernel)
theorem kw_803024247 : Cond.arrayClass .int ∈ vg_T := vg_tn (i := 144) (by decide +kernel) (by decide +kernel)
theorem kw_606917827 : Cond.arrayClass .boolean ∈ vg_T := vg_tn (i := 1310) (by decide +kernel) (by decide +kernel)
theorem kw_874331091 : Cond.fieldLink RX11 69 "GlobRowsModel" "place" "I" ∈ vg_T := vg_tn (i := 1217) (by decide +kernel) (by decide +kernel)
theorem fF_X11_69 : vg_F RX11 69 14 25 .int false := ⟨"GlobRowsModel", RX11, TX11, 39, tyX11, vcl_14, by decide, kw_874331091, Or.inl rfl, rfl, (fun h => nomatch h), by decide +kernel⟩
theorem kw_926735721 : Cond.methodLink RX11 172 yX11_ill ∈ vg_T := vg_tn (i := 1386) (by decide +kernel) (by decide +kernel)
theorem kw_786764603 : Cond.code yX11_ill cX11_ill 6 (some .int) ∈ vg_T := vg_tn (i := 1389) (by decide +kernel) (by decide +kernel)
theorem kw_372935318 : Cond.instanceMethod yX11_ill ∈ vg_T := vg_tn (i := 1388) (by decide +kernel) (by decide +kernel)
theorem kw_578928783 : Cond.selects RX11 yX11_ill yX11_ill ∈ vg_T := vg_in (List.mem_append_left _ (List.mem_of_getElem? (i := 32) (by decide +kernel))) (by decide +kernel)
theorem fCV_X11_172 : vg_CV RX11 172 RX11 yX11_ill cX11_ill 6 (some .int) 0 := ⟨kw_926735721, kw_372935318, kw_578928783, kw_630383448, kw_786764603, ⟨rfl, by decide +kernel, by decide +kernel, by decide +kernel⟩, by decide⟩
theorem kw_12615880 : Cond.methodLink RX11 156 yX11_orphans ∈ vg_T := vg_tn (i := 1370) (by decide +kernel) (by decide +kernel)
theorem kw_790505017 : Cond.code yX11_orphans cX11_orphans 4 (some .int) ∈ vg_T := vg_tn (i := 1373) (by decide +kernel) (by decide +kernel)
theorem kw_289373921 : Cond.instanceMethod yX11_orphans ∈ vg_T := vg_tn (i := 1372) (by decide +kernel) (by decide +kernel)
theorem kw_464332372 : Cond.selects RX11 yX11_orphans yX11_orphans ∈ vg_T := vg_in (List.mem_append_left _ (List.mem_of_getElem? (i := 31) (by decide +kernel))) (by decide +kernel)
theorem fCV_X11_156 : vg_CV RX11 156 RX11 yX11_orphans cX11_orphans 4 (some .int) 0 := ⟨kw_12615880, kw_289373921, kw_464332372, kw_630383448, kw_790505017, ⟨rfl, by decide +kernel, by decide +kernel, by decide +kernel⟩, by decide⟩
end
section
theorem dX11_thrown_0 : decode cX11_thrown 0 = .ok (.aload_n 0, 1) := by decide +kernel
theorem dX11_thrown_1 : decode cX11_thrown 1 = .ok (.getfield 103, 3) := by decide +kernel
theorem dX11_thrown_4 : decode cX11_thrown 4 = .ok (.ireturn, 1) := by decide +kernel
theorem dX11_isSign_0 : decode cX11_isSign 0 = .ok (.iload_n 0, 1) := by decide +kernel
theorem dX11_isSign_1 : decode cX11_isSign 1 = .ok (.bipush 97, 2) := by decide +kernel
theorem dX11_isSign_3 : decode cX11_isSign 3 = .ok (.if_icmp .lt 9, 3) := by decide +kernel
theorem dX11_isSign_6 : decode cX11_isSign 6 = .ok (.iload_n 0, 1) := by decide +kernel
theorem dX11_isSign_7 : decode cX11_isSign 7 = .ok (.bipush 122, 2) := by decide +kernel
theorem dX11_isSign_9 : decode cX11_isSign 9 = .ok (.if_icmp .le 39, 3) := by decide +kernel
theorem dX11_isSign_12 : decode cX11_isSign 12 = .ok (.iload_n 0, 1) := by decide +kernel
theorem dX11_isSign_13 : decode cX11_isSign 13 = .ok (.bipush 65, 2) := by decide +kernel
theorem dX11_isSign_15 : decode cX11_isSign 15 = .ok (.if_icmp .lt 9, 3) := by decide +kernel
theorem dX11_isSign_18 : decode cX11_isSign 18 = .ok (.iload_n 0, 1) := by decide +kernel
theorem dX11_isSign_19 : decode cX11_isSign 19 = .ok (.bipush 90, 2) := by decide +kernel
theorem dX11_isSign_21 : decode cX11_isSign 21 = .ok (.if_icmp .le 27, 3) := by decide +kernel
theorem dX11_isSign_24 : decode cX11_isSign 24 = .ok (.iload_n 0, 1) := by decide +kernel
theorem dX11_isSign_25 : decode cX11_isSign 25 = .ok (.bipush 48, 2) := by decide +kernel
theorem dX11_isSign_27 : decode cX11_isSign 27 = .ok (.if_icmp .lt 9, 3) := by decide +kernel
theorem dX11_isSign_30 : decode cX11_isSign 30 = .ok (.iload_n 0, 1) := by decide +kernel
theorem dX11_isSign_31 : decode cX11_isSign 31 = .ok (.bipush 57, 2) := by decide +kernel
theorem dX11_isSign_33 : decode cX11_isSign 33 = .ok (.if_icmp .le 15, 3) := by decide +kernel
theorem dX11_isSign_36 : decode cX11_isSign 36 = .ok (.iload_n 0, 1) := by decide +kernel
theorem dX11_isSign_37 : decode cX11_isSign 37 = .ok (.bipush 46, 2) := by decide +kernel
theorem dX11_isSign_39 : decode cX11_isSign 39 = .ok (.if_icmp .eq 9, 3) := by decide +kernel
theorem dX11_isSign_42 : decode cX11_isSign 42 = .ok (.iload_n 0, 1) := by decide +kernel
theorem dX11_isSign_43 : decode cX11_isSign 43 = .ok (.bipush 95, 2) := by decide +kernel
theorem dX11_isSign_45 : decode cX11_isSign 45 = .ok (.if_icmp .ne 7, 3) := by decide +kernel
theorem dX11_isSign_48 : decode cX11_isSign 48 = .ok (.iconst 1, 1) := by decide +kernel
theorem dX11_isSign_49 : decode cX11_isSign 49 = .ok (.goto 4, 3) := by decide +kernel
theorem dX11_isSign_52 : decode cX11_isSign 52 = .ok (.iconst 0, 1) := by decide +kernel
theorem dX11_isSign_53 : decode cX11_isSign 53 = .ok (.ireturn, 1) := by decide +kernel
theorem dX11_many_0 : decode cX11_many 0 = .ok (.iconst 0, 1) := by decide +kernel
theorem dX11_many_1 : decode cX11_many 1 = .ok (.istore_n 1, 1) := by decide +kernel
theorem dX11_many_2 : decode cX11_many 2 = .ok (.iconst 0, 1) := by decide +kernel
theorem dX11_many_3 : decode cX11_many 3 = .ok (.istore_n 2, 1) := by decide +kernel
theorem dX11_many_4 : decode cX11_many 4 = .ok (.iload_n 2, 1) := by decide +kernel
theorem dX11_many_5 : decode cX11_many 5 = .ok (.bipush 60, 2) := by decide +kernel
theorem dX11_many_7 : decode cX11_many 7 = .ok (.if_icmp .ge 26, 3) := by decide +kernel
theorem dX11_many_10 : decode cX11_many 10 = .ok (.iload_n 1, 1) := by decide +kernel
theorem dX11_many_11 : decode cX11_many 11 = .ok (.aload_n 0, 1) := by decide +kernel
theorem dX11_many_12 : decode cX11_many 12 = .ok (.getfield 20, 3) := by decide +kernel
theorem dX11_many_15 : decode cX11_many 15 = .ok (.iload_n 2, 1) := by decide +kernel
theorem dX11_many_16 : decode cX11_many 16 = .ok (.iaload, 1) := by decide +kernel
theorem dX11_many_17 : decode cX11_many 17 = .ok (.ifCond .le 7, 3) := by decide +kernel
theorem dX11_many_20 : decode cX11_many 20 = .ok (.iconst 1, 1) := by decide +kernel
theorem dX11_many_21 : decode cX11_many 21 = .ok (.goto 4, 3) := by decide +kernel
theorem dX11_many_24 : decode cX11_many 24 = .ok (.iconst 0, 1) := by decide +kernel
theorem dX11_many_25 : decode cX11_many 25 = .ok (.iadd, 1) := by decide +kernel
theorem dX11_many_26 : decode cX11_many 26 = .ok (.istore_n 1, 1) := by decide +kernel
theorem dX11_many_27 : decode cX11_many 27 = .ok (.iinc 2 1, 3) := by decide +kernel
theorem dX11_many_30 : decode cX11_many 30 = .ok (.goto (-26), 3) := by decide +kernel
theorem dX11_many_33 : decode cX11_many 33 = .ok (.iload_n 1, 1) := by decide +kernel
theorem dX11_many_34 : decode cX11_many 34 = .ok (.ireturn, 1) := by decide +kernel
theorem dX11_touch_0 : decode cX11_touch 0 = .ok (.aload_n 0, 1) := by decide +kernel
theorem dX11_touch_1 : decode cX11_touch 1 = .ok (.dup, 1) := by decide +kernel
theorem dX11_touch_2 : decode cX11_touch 2 = .ok (.getfield 127, 3) := by decide +kernel
theorem dX11_touch_5 : decode cX11_touch 5 = .ok (.iconst 1, 1) := by decide +kernel
theorem dX11_touch_6 : decode cX11_touch 6 = .ok (.iadd, 1) := by decide +kernel
theorem dX11_touch_7 : decode cX11_touch 7 = .ok (.putfield 127, 3) := by decide +kernel
theorem dX11_touch_10 : decode cX11_touch 10 = .ok (.aload_n 0, 1) := by decide +kernel
theorem dX11_touch_11 : decode cX11_touch 11 = .ok (.getfield 29, 3) := by decide +kernel
theorem dX11_touch_14 : decode cX11_touch 14 = .ok (.iload_n 1, 1) := by decide +kernel
theorem dX11_touch_15 : decode cX11_touch 15 = .ok (.aload_n 0, 1) := by decide +kernel
theorem dX11_touch_16 : decode cX11_touch 16 = .ok (.getfield 127, 3) := by decide +kernel
theorem dX11_touch_19 : decode cX11_touch 19 = .ok (.iastore, 1) := by decide +kernel
theorem dX11_touch_20 : decode cX11_touch 20 = .ok (.return_, 1) := by decide +kernel
theorem dX11_at_0 : decode cX11_at 0 = .ok (.iload_n 1, 1) := by decide +kernel
theorem dX11_at_1 : decode cX11_at 1 = .ok (.aload_n 0, 1) := by decide +kernel
theorem dX11_at_2 : decode cX11_at 2 = .ok (.getfield 106, 3) := by decide +kernel
theorem dX11_at_5 : decode cX11_at 5 = .ok (.if_icmp .ge 12, 3) := by decide +kernel
theorem dX11_at_8 : decode cX11_at 8 = .ok (.aload_n 0, 1) := by decide +kernel
theorem dX11_at_9 : decode cX11_at 9 = .ok (.getfield 7, 3) := by decide +kernel
theorem dX11_at_12 : decode cX11_at 12 = .ok (.iload_n 1, 1) := by decide +kernel
theorem dX11_at_13 : decode cX11_at 13 = .ok (.baload, 1) := by decide +kernel
theorem dX11_at_14 : decode cX11_at 14 = .ok (.goto 4, 3) := by decide +kernel
theorem dX11_at_17 : decode cX11_at 17 = .ok (.iconst (-1), 1) := by decide +kernel
theorem dX11_at_18 : decode cX11_at 18 = .ok (.ireturn, 1) := by decide +kernel
theorem dX11_byteOf_0 : decode cX11_byteOf 0 = .ok (.iload_n 2, 1) := by decide +kernel
theorem dX11_byteOf_1 : decode cX11_byteOf 1 = .ok (.aload_n 0, 1) := by decide +kernel
theorem dX11_byteOf_2 : decode cX11_byteOf 2 = .ok (.getfield 54, 3) := by decide +kernel
theorem dX11_byteOf_5 : decode cX11_byteOf 5 = .ok (.iload_n 1, 1) := by decide +kernel
theorem dX11_byteOf_6 : decode cX11_byteOf 6 = .ok (.iaload, 1) := by decide +kernel
theorem dX11_byteOf_7 : decode cX11_byteOf 7 = .ok (.if_icmp .ge 17, 3) := by decide +kernel
theorem dX11_byteOf_10 : decode cX11_byteOf 10 = .ok (.aload_n 0, 1) := by decide +kernel
theorem dX11_byteOf_11 : decode cX11_byteOf 11 = .ok (.getfield 60, 3) := by decide +kernel
theorem dX11_byteOf_14 : decode cX11_byteOf 14 = .ok (.bipush 60, 2) := by decide +kernel
theorem dX11_byteOf_16 : decode cX11_byteOf 16 = .ok (.iload_n 1, 1) := by decide +kernel
theorem dX11_byteOf_17 : decode cX11_byteOf 17 = .ok (.imul, 1) := by decide +kernel
theorem dX11_byteOf_18 : decode cX11_byteOf 18 = .ok (.iload_n 2, 1) := by decide +kernel
theorem dX11_byteOf_19 : decode cX11_byteOf 19 = .ok (.iadd, 1) := by decide +kernel
theorem dX11_byteOf_20 : decode cX11_byteOf 20 = .ok (.baload, 1) := by decide +kernel
theorem dX11_byteOf_21 : decode cX11_byteOf 21 = .ok (.goto 4, 3) := by decide +kernel
theorem dX11_byteOf_24 : decode cX11_byteOf 24 = .ok (.iconst (-1), 1) := by decide +kernel
theorem dX11_byteOf_25 : decode cX11_byteOf 25 = .ok (.ireturn, 1) := by decide +kernel
end
section
def fX11_touch (v0 : Nat) (v1 : Int32) (μ : vg_M) : vg_R Unit :=
  vg_o (vg_gI μ v0 14 14) fun x1 =>
  vg_o (vg_p μ v0 14 14 (.int (x1 + 1))) fun μ2 =>
  vg_o (vg_gR μ2 v0 14 9) fun x3 =>
  vg_o (vg_gI μ2 v0 14 14) fun x4 =>
  vg_o x3 fun a5 =>
  vg_o (vg_sI μ2 a5 2 v1 x4) fun μ6 =>
  vg_ret () μ6
set_option maxHeartbeats 4000000 in
set_option maxRecDepth 100000 in
theorem cX11_touch_met {l : Launch} {D : va_G} {cy : Nat → ClassId} {H0 : Heap} {r : Unit} {μ μ' : vg_M} {cn nn : Nat} {v0 : Nat} {v1 : Int32} (hf : fX11_touch v0 v1 μ = some (r, μ', cn, nn)) : vg_Met l D cy H0 yX11_touch cX11_touch 2 none 12 μ [.ref v0, .int v1] none μ' cn nn := by
  refine vg_start (by decide +kernel) (by simp [Value.category]) (Nat.le_of_ble_eq_true rfl) ?_
  intro p e s m below meth c ls X hml hr hlk hnm hH hl
  have hl : vg_l ls 2 [(0, .ref v0), (1, .int v1)] := hl
  have Z : vg_Z D cy p s m _ c cX11_touch RX11 meth 2 none (vg_rm 12 cn nn) 12 cn nn _ := ⟨X, hml, hr, hlk, Nat.le_refl _, Nat.le_refl _, Nat.le_refl _, Nat.le_refl _, hnm⟩
  obtain ⟨-, -, -, -, hfr, hlo, hRc, hRs, -⟩ := id Z
  have hx := X.1
  have hb := X.2.1
  have hL : ∀ z ∈ ([] : List Loc), H0.size ≤ z.base := fun _ h => nomatch h
  have hC : 0 + cn = cn := Nat.zero_add _
  have hN : 0 + nn = nn := Nat.zero_add _
  unfold fX11_touch at hf
  refine lv_aload_n hx hb dX11_touch_0 rfl (lv_at hl.1 0 rfl) ?_
  refine lv_dup hx hb dX11_touch_1 rfl ?_
  refine vg_getI X hH fF_X11_127 dX11_touch_2 hf (fun x1 hf => ?_)
  refine lv_iconst (v := 1) hx hb dX11_touch_5 (by decide) ?_
  refine lv_iadd hx hb dX11_touch_6 ?_
  refine vg_putV X hH hL fF_X11_127 rfl rfl dX11_touch_7 hf (fun μ2 H locs hf hH hL => ?_)
  refine lv_aload_n hx hb dX11_touch_10 rfl (lv_at hl.1 0 rfl) ?_
  refine vg_getR X hH fF_X11_29 dX11_touch_11 hf (fun x3 hf => ?_)
  refine lv_iload_n hx hb dX11_touch_14 rfl (lv_at hl.1 1 rfl) ?_
  refine lv_aload_n hx hb dX11_touch_15 rfl (lv_at hl.1 0 rfl) ?_
  refine vg_getI X hH fF_X11_127 dX11_touch_16 hf (fun x4 hf => ?_)
  obtain ⟨a5, h9, hf⟩ := vg_o_inv hf
  subst h9
  refine vg_iast X hH hL dX11_touch_19 hf (fun μ6 H locs hf hH hL => ?_)
  exact vg_retv X hr hlk hH hL dX11_touch_20 hf hC hN
def fX11_isSign_53  (k0 : Int32) (μ : vg_M) : vg_R Int32 :=
  vg_o (vg_z .boolean k0) fun z => vg_ret z μ
set_option maxHeartbeats 4000000 in
set_option maxRecDepth 100000 in
theorem wX11_isSign_53 {p : Program} {l : Launch} {e : Env} {R : Room} {s : State} {m : MethodId} {args : Array Value} {below : List Frame} {meth : Method} {c : Code} {D : va_G} {cy : Nat → ClassId} {H0 : Heap} {C0 N0 : Nat} {r : Int32} {μ' : vg_M} (Z : vg_Z D cy p s m args c cX11_isSign RX11 meth 1 (some .boolean) R 12 C0 N0 "isSign")   (k0 : Int32) (μ : vg_M) : vg_S p l e R s m args below meth c D cy H0 C0 N0 1 (MQ below (vg_Qc D cy H0 μ' (some (.int r))) args s C0 N0 (vg_fr H0)) r μ' (fX11_isSign_53  k0 μ) μ [] [.int k0] 53 := by
  intro cn nn H locs cells slots ls hf hH hL hC hN hl
  obtain ⟨X, hml, hr, hlk, hfr, hlo, hRc, hRs, hnm⟩ := id Z
  have hx := X.1
  have hb := X.2.1
  unfold fX11_isSign_53 at hf
  exact vg_retz X (by simp) hr hlk hH hL dX11_isSign_53 hf hC hN
def fX11_isSign_48   (μ : vg_M) : vg_R Int32 :=
  fX11_isSign_53  1 μ
set_option maxHeartbeats 4000000 in
set_option maxRecDepth 100000 in
theorem wX11_isSign_48 {p : Program} {l : Launch} {e : Env} {R : Room} {s : State} {m : MethodId} {args : Array Value} {below : List Frame} {meth : Method} {c : Code} {D : va_G} {cy : Nat → ClassId} {H0 : Heap} {C0 N0 : Nat} {r : Int32} {μ' : vg_M} (Z : vg_Z D cy p s m args c cX11_isSign RX11 meth 1 (some .boolean) R 12 C0 N0 "isSign")    (μ : vg_M) : vg_S p l e R s m args below meth c D cy H0 C0 N0 1 (MQ below (vg_Qc D cy H0 μ' (some (.int r))) args s C0 N0 (vg_fr H0)) r μ' (fX11_isSign_48   μ) μ [] [] 48 := by
  intro cn nn H locs cells slots ls hf hH hL hC hN hl
  obtain ⟨X, hml, hr, hlk, hfr, hlo, hRc, hRs, hnm⟩ := id Z
  have hx := X.1
  have hb := X.2.1
  unfold fX11_isSign_48 at hf
  refine lv_iconst (v := 1) hx hb dX11_isSign_48 (by decide) ?_
  refine lv_goto (tgt := 53) hx hb dX11_isSign_49 (by decide) ?_
  exact wX11_isSign_53 Z  1 μ _ _ _ _ _ _ _ hf hH hL hC hN (hl.sub [] rfl)
def fX11_isSign_36  (v0 : Int32) (μ : vg_M) : vg_R Int32 :=
  if v0 = 46 then (
   fX11_isSign_48   μ
   ) else (
   if v0 = 95 then (
    fX11_isSign_48   μ
    ) else (
    fX11_isSign_53  0 μ
    )
   )
set_option maxHeartbeats 4000000 in
set_option maxRecDepth 100000 in
theorem wX11_isSign_36 {p : Program} {l : Launch} {e : Env} {R : Room} {s : State} {m : MethodId} {args : Array Value} {below : List Frame} {meth : Method} {c : Code} {D : va_G} {cy : Nat → ClassId} {H0 : Heap} {C0 N0 : Nat} {r : Int32} {μ' : vg_M} (Z : vg_Z D cy p s m args c cX11_isSign RX11 meth 1 (some .boolean) R 12 C0 N0 "isSign")   (v0 : Int32) (μ : vg_M) : vg_S p l e R s m args below meth c D cy H0 C0 N0 1 (MQ below (vg_Qc D cy H0 μ' (some (.int r))) args s C0 N0 (vg_fr H0)) r μ' (fX11_isSign_36  v0 μ) μ [(0, .int v0)] [] 36 := by
  intro cn nn H locs cells slots ls hf hH hL hC hN hl
  obtain ⟨X, hml, hr, hlk, hfr, hlo, hRc, hRs, hnm⟩ := id Z
  have hx := X.1
  have hb := X.2.1
  unfold fX11_isSign_36 at hf
  refine lv_iload_n hx hb dX11_isSign_36 rfl (lv_at hl.1 0 rfl) ?_
  refine lv_bipush (v := 46) hx hb dX11_isSign_37 (by decide) ?_
  refine lv_icmp_eq (tgt := 48) hx hb dX11_isSign_39 (by decide) (fun h8 => ?_) (fun h8 => ?_)
  · have hf := vg_ip h8 hf
    exact wX11_isSign_48 Z   μ _ _ _ _ _ _ _ hf hH hL hC hN (hl.sub [] rfl)
  · have hf := vg_if h8 hf
    refine lv_iload_n hx hb dX11_isSign_42 rfl (lv_at hl.1 0 rfl) ?_
    refine lv_bipush (v := 95) hx hb dX11_isSign_43 (by decide) ?_
    refine lv_icmp_ne (tgt := 52) hx hb dX11_isSign_45 (by decide) (fun h8 => ?_) (fun h8 => ?_)
    · have hf := vg_if h8 hf
      refine lv_iconst (v := 0) hx hb dX11_isSign_52 (by decide) ?_
      exact wX11_isSign_53 Z  0 μ _ _ _ _ _ _ _ hf hH hL hC hN (hl.sub [] rfl)
    · have hf := vg_ip h8 hf
      exact wX11_isSign_48 Z   μ _ _ _ _ _ _ _ hf hH hL hC hN (hl.sub [] rfl)
def fX11_isSign_24  (v0 : Int32) (μ : vg_M) : vg_R Int32 :=
  if v0 < 48 then (
   fX11_isSign_36  v0 μ
   ) else (
   if v0 ≤ 57 then (
    fX11_isSign_48   μ
    ) else (
    fX11_isSign_36  v0 μ
    )
   )
set_option maxHeartbeats 4000000 in
set_option maxRecDepth 100000 in
theorem wX11_isSign_24 {p : Program} {l : Launch} {e : Env} {R : Room} {s : State} {m : MethodId} {args : Array Value} {below : List Frame} {meth : Method} {c : Code} {D : va_G} {cy : Nat → ClassId} {H0 : Heap} {C0 N0 : Nat} {r : Int32} {μ' : vg_M} (Z : vg_Z D cy p s m args c cX11_isSign RX11 meth 1 (some .boolean) R 12 C0 N0 "isSign")   (v0 : Int32) (μ : vg_M) : vg_S p l e R s m args below meth c D cy H0 C0 N0 1 (MQ below (vg_Qc D cy H0 μ' (some (.int r))) args s C0 N0 (vg_fr H0)) r μ' (fX11_isSign_24  v0 μ) μ [(0, .int v0)] [] 24 := by
  intro cn nn H locs cells slots ls hf hH hL hC hN hl
  obtain ⟨X, hml, hr, hlk, hfr, hlo, hRc, hRs, hnm⟩ := id Z
  have hx := X.1
  have hb := X.2.1
  unfold fX11_isSign_24 at hf
  refine lv_iload_n hx hb dX11_isSign_24 rfl (lv_at hl.1 0 rfl) ?_
  refine lv_bipush (v := 48) hx hb dX11_isSign_25 (by decide) ?_
  refine lv_icmp_lt (tgt := 36) hx hb dX11_isSign_27 (by decide) (fun h8 => ?_) (fun h8 => ?_)
  · have hf := vg_ip h8 hf
    exact wX11_isSign_36 Z  v0 μ _ _ _ _ _ _ _ hf hH hL hC hN (hl.sub [0] rfl)
  · have hf := vg_if h8 hf
    refine lv_iload_n hx hb dX11_isSign_30 rfl (lv_at hl.1 0 rfl) ?_
    refine lv_bipush (v := 57) hx hb dX11_isSign_31 (by decide) ?_
    refine lv_icmp_le (tgt := 48) hx hb dX11_isSign_33 (by decide) (fun h8 => ?_) (fun h8 => ?_)
    · have hf := vg_ip h8 hf
      exact wX11_isSign_48 Z   μ _ _ _ _ _ _ _ hf hH hL hC hN (hl.sub [] rfl)
    · have hf := vg_if h8 hf
      exact wX11_isSign_36 Z  v0 μ _ _ _ _ _ _ _ hf hH hL hC hN (hl.sub [0] rfl)
def fX11_isSign_12  (v0 : Int32) (μ : vg_M) : vg_R Int32 :=
  if v0 < 65 then (
   fX11_isSign_24  v0 μ
   ) else (
   if v0 ≤ 90 then (
    fX11_isSign_48   μ
    ) else (
    fX11_isSign_24  v0 μ
    )
   )
set_option maxHeartbeats 4000000 in
set_option maxRecDepth 100000 in
theorem wX11_isSign_12 {p : Program} {l : Launch} {e : Env} {R : Room} {s : State} {m : MethodId} {args : Array Value} {below : List Frame} {meth : Method} {c : Code} {D : va_G} {cy : Nat → ClassId} {H0 : Heap} {C0 N0 : Nat} {r : Int32} {μ' : vg_M} (Z : vg_Z D cy p s m args c cX11_isSign RX11 meth 1 (some .boolean) R 12 C0 N0 "isSign")   (v0 : Int32) (μ : vg_M) : vg_S p l e R s m args below meth c D cy H0 C0 N0 1 (MQ below (vg_Qc D cy H0 μ' (some (.int r))) args s C0 N0 (vg_fr H0)) r μ' (fX11_isSign_12  v0 μ) μ [(0, .int v0)] [] 12 := by
  intro cn nn H locs cells slots ls hf hH hL hC hN hl
  obtain ⟨X, hml, hr, hlk, hfr, hlo, hRc, hRs, hnm⟩ := id Z
  have hx := X.1
  have hb := X.2.1
  unfold fX11_isSign_12 at hf
  refine lv_iload_n hx hb dX11_isSign_12 rfl (lv_at hl.1 0 rfl) ?_
  refine lv_bipush (v := 65) hx hb dX11_isSign_13 (by decide) ?_
  refine lv_icmp_lt (tgt := 24) hx hb dX11_isSign_15 (by decide) (fun h8 => ?_) (fun h8 => ?_)
  · have hf := vg_ip h8 hf
    exact wX11_isSign_24 Z  v0 μ _ _ _ _ _ _ _ hf hH hL hC hN (hl.sub [0] rfl)
  · have hf := vg_if h8 hf
    refine lv_iload_n hx hb dX11_isSign_18 rfl (lv_at hl.1 0 rfl) ?_
    refine lv_bipush (v := 90) hx hb dX11_isSign_19 (by decide) ?_
    refine lv_icmp_le (tgt := 48) hx hb dX11_isSign_21 (by decide) (fun h8 => ?_) (fun h8 => ?_)
    · have hf := vg_ip h8 hf
      exact wX11_isSign_48 Z   μ _ _ _ _ _ _ _ hf hH hL hC hN (hl.sub [] rfl)
    · have hf := vg_if h8 hf
      exact wX11_isSign_24 Z  v0 μ _ _ _ _ _ _ _ hf hH hL hC hN (hl.sub [0] rfl)
def fX11_isSign (v0 : Int32) (μ : vg_M) : vg_R Int32 :=
  if v0 < 97 then (
   fX11_isSign_12  v0 μ
   ) else (
   if v0 ≤ 122 then (
    fX11_isSign_48   μ
    ) else (
    fX11_isSign_12  v0 μ
    )
   )
set_option maxHeartbeats 4000000 in
set_option maxRecDepth 100000 in
theorem cX11_isSign_met {l : Launch} {D : va_G} {cy : Nat → ClassId} {H0 : Heap} {r : Int32} {μ μ' : vg_M} {cn nn : Nat} {v0 : Int32} (hf : fX11_isSign v0 μ = some (r, μ', cn, nn)) : vg_Met l D cy H0 yX11_isSign cX11_isSign 1 (some .boolean) 12 μ [.int v0] (some (.int r)) μ' cn nn := by
  refine vg_start (by decide +kernel) (by simp [Value.category]) (Nat.le_of_ble_eq_true rfl) ?_
  intro p e s m below meth c ls X hml hr hlk hnm hH hl
  have hl : vg_l ls 1 [(0, .int v0)] := hl
  have Z : vg_Z D cy p s m _ c cX11_isSign RX11 meth 1 (some .boolean) (vg_rm 12 cn nn) 12 cn nn _ := ⟨X, hml, hr, hlk, Nat.le_refl _, Nat.le_refl _, Nat.le_refl _, Nat.le_refl _, hnm⟩
  obtain ⟨-, -, -, -, hfr, hlo, hRc, hRs, -⟩ := id Z
  have hx := X.1
  have hb := X.2.1
  have hL : ∀ z ∈ ([] : List Loc), H0.size ≤ z.base := fun _ h => nomatch h
  have hC : 0 + cn = cn := Nat.zero_add _
  have hN : 0 + nn = nn := Nat.zero_add _
  unfold fX11_isSign at hf
  refine lv_iload_n hx hb dX11_isSign_0 rfl (lv_at hl.1 0 rfl) ?_
  refine lv_bipush (v := 97) hx hb dX11_isSign_1 (by decide) ?_
  refine lv_icmp_lt (tgt := 12) hx hb dX11_isSign_3 (by decide) (fun h8 => ?_) (fun h8 => ?_)
  · have hf := vg_ip h8 hf
    exact wX11_isSign_12 Z  v0 μ _ _ _ _ _ _ _ hf hH hL hC hN (hl.sub [0] rfl)
  · have hf := vg_if h8 hf
    refine lv_iload_n hx hb dX11_isSign_6 rfl (lv_at hl.1 0 rfl) ?_
    refine lv_bipush (v := 122) hx hb dX11_isSign_7 (by decide) ?_
    refine lv_icmp_le (tgt := 48) hx hb dX11_isSign_9 (by decide) (fun h8 => ?_) (fun h8 => ?_)
    · have hf := vg_ip h8 hf
      exact wX11_isSign_48 Z   μ _ _ _ _ _ _ _ hf hH hL hC hN (hl.sub [] rfl)
    · have hf := vg_if h8 hf
      exact wX11_isSign_12 Z  v0 μ _ _ _ _ _ _ _ hf hH hL hC hN (hl.sub [0] rfl)
def fX11_byteOf_25  (k0 : Int32) (μ : vg_M) : vg_R Int32 :=
  vg_ret k0 μ
set_option maxHeartbeats 4000000 in
set_option maxRecDepth 100000 in
theorem wX11_byteOf_25 {p : Program} {l : Launch} {e : Env} {R : Room} {s : State} {m : MethodId} {args : Array Value} {below : List Frame} {meth : Method} {c : Code} {D : va_G} {cy : Nat → ClassId} {H0 : Heap} {C0 N0 : Nat} {r : Int32} {μ' : vg_M} (Z : vg_Z D cy p s m args c cX11_byteOf RX11 meth 3 (some .int) R 12 C0 N0 "byteOf")   (k0 : Int32) (μ : vg_M) : vg_S p l e R s m args below meth c D cy H0 C0 N0 3 (MQ below (vg_Qc D cy H0 μ' (some (.int r))) args s C0 N0 (vg_fr H0)) r μ' (fX11_byteOf_25  k0 μ) μ [] [.int k0] 25 := by
  intro cn nn H locs cells slots ls hf hH hL hC hN hl
  obtain ⟨X, hml, hr, hlk, hfr, hlo, hRc, hRs, hnm⟩ := id Z
  have hx := X.1
  have hb := X.2.1
  unfold fX11_byteOf_25 at hf
  exact vg_reti X hr hlk hH hL dX11_byteOf_25 hf hC hN
def fX11_byteOf (v0 : Nat) (v1 : Int32) (v2 : Int32) (μ : vg_M) : vg_R Int32 :=
  vg_o (vg_gR μ v0 14 20) fun x1 =>
  vg_o x1 fun a2 =>
  vg_o (vg_aI μ a2 2 v1) fun x3 =>
  if x3 ≤ v2 then (
   fX11_byteOf_25  ((-1)) μ
   ) else (
   vg_o (vg_gR μ v0 14 22) fun x4 =>
   vg_o x4 fun a5 =>
   vg_o (vg_aI μ a5 0 ((60 * v1) + v2)) fun x6 =>
   fX11_byteOf_25  x6 μ
   )
set_option maxHeartbeats 4000000 in
set_option maxRecDepth 100000 in
theorem cX11_byteOf_met {l : Launch} {D : va_G} {cy : Nat → ClassId} {H0 : Heap} {r : Int32} {μ μ' : vg_M} {cn nn : Nat} {v0 : Nat} {v1 : Int32} {v2 : Int32} (hf : fX11_byteOf v0 v1 v2 μ = some (r, μ', cn, nn)) : vg_Met l D cy H0 yX11_byteOf cX11_byteOf 3 (some .int) 12 μ [.ref v0, .int v1, .int v2] (some (.int r)) μ' cn nn := by
  refine vg_start (by decide +kernel) (by simp [Value.category]) (Nat.le_of_ble_eq_true rfl) ?_
  intro p e s m below meth c ls X hml hr hlk hnm hH hl
  have hl : vg_l ls 3 [(0, .ref v0), (1, .int v1), (2, .int v2)] := hl
  have Z : vg_Z D cy p s m _ c cX11_byteOf RX11 meth 3 (some .int) (vg_rm 12 cn nn) 12 cn nn _ := ⟨X, hml, hr, hlk, Nat.le_refl _, Nat.le_refl _, Nat.le_refl _, Nat.le_refl _, hnm⟩
  obtain ⟨-, -, -, -, hfr, hlo, hRc, hRs, -⟩ := id Z
  have hx := X.1
  have hb := X.2.1
  have hL : ∀ z ∈ ([] : List Loc), H0.size ≤ z.base := fun _ h => nomatch h
  have hC : 0 + cn = cn := Nat.zero_add _
  have hN : 0 + nn = nn := Nat.zero_add _
  unfold fX11_byteOf at hf
  refine lv_iload_n hx hb dX11_byteOf_0 rfl (lv_at hl.1 2 rfl) ?_
  refine lv_aload_n hx hb dX11_byteOf_1 rfl (lv_at hl.1 0 rfl) ?_
  refine vg_getR X hH fF_X11_54 dX11_byteOf_2 hf (fun x1 hf => ?_)
  refine lv_iload_n hx hb dX11_byteOf_5 rfl (lv_at hl.1 1 rfl) ?_
  obtain ⟨a2, h9, hf⟩ := vg_o_inv hf
  subst h9
  refine vg_iald X hH dX11_byteOf_6 hf (fun x3 hf => ?_)
  refine lv_icmp_ge (tgt := 24) hx hb dX11_byteOf_7 (by decide) (fun h8 => ?_) (fun h8 => ?_)
  · have hf := vg_ip h8 hf
    refine lv_iconst (v := (-1)) hx hb dX11_byteOf_24 (by decide) ?_
    exact wX11_byteOf_25 Z  ((-1)) μ _ _ _ _ _ _ _ hf hH hL hC hN (hl.sub [] rfl)
  · have hf := vg_if h8 hf
    refine lv_aload_n hx hb dX11_byteOf_10 rfl (lv_at hl.1 0 rfl) ?_
    refine vg_getR X hH fF_X11_60 dX11_byteOf_11 hf (fun x4 hf => ?_)
    refine lv_bipush (v := 60) hx hb dX11_byteOf_14 (by decide) ?_
    refine lv_iload_n hx hb dX11_byteOf_16 rfl (lv_at hl.1 1 rfl) ?_
    refine lv_imul hx hb dX11_byteOf_17 ?_
    refine lv_iload_n hx hb dX11_byteOf_18 rfl (lv_at hl.1 2 rfl) ?_
    refine lv_iadd hx hb dX11_byteOf_19 ?_
    obtain ⟨a5, h9, hf⟩ := vg_o_inv hf
    subst h9
    refine vg_bald X hH dX11_byteOf_20 hf (fun x6 hf => ?_)
    refine lv_goto (tgt := 25) hx hb dX11_byteOf_21 (by decide) ?_
    exact wX11_byteOf_25 Z  x6 μ _ _ _ _ _ _ _ hf hH hL hC hN (hl.sub [] rfl)
def fX11_at_18  (k0 : Int32) (μ : vg_M) : vg_R Int32 :=
  vg_ret k0 μ
set_option maxHeartbeats 4000000 in
set_option maxRecDepth 100000 in
theorem wX11_at_18 {p : Program} {l : Launch} {e : Env} {R : Room} {s : State} {m : MethodId} {args : Array Value} {below : List Frame} {meth : Method} {c : Code} {D : va_G} {cy : Nat → ClassId} {H0 : Heap} {C0 N0 : Nat} {r : Int32} {μ' : vg_M} (Z : vg_Z D cy p s m args c cX11_at RX11 meth 2 (some .int) R 12 C0 N0 "at")   (k0 : Int32) (μ : vg_M) : vg_S p l e R s m args below meth c D cy H0 C0 N0 2 (MQ below (vg_Qc D cy H0 μ' (some (.int r))) args s C0 N0 (vg_fr H0)) r μ' (fX11_at_18  k0 μ) μ [] [.int k0] 18 := by
  intro cn nn H locs cells slots ls hf hH hL hC hN hl
  obtain ⟨X, hml, hr, hlk, hfr, hlo, hRc, hRs, hnm⟩ := id Z
  have hx := X.1
  have hb := X.2.1
  unfold fX11_at_18 at hf
  exact vg_reti X hr hlk hH hL dX11_at_18 hf hC hN
def fX11_at (v0 : Nat) (v1 : Int32) (μ : vg_M) : vg_R Int32 :=
  vg_o (vg_gI μ v0 14 2) fun x1 =>
  if x1 ≤ v1 then (
   fX11_at_18  ((-1)) μ
   ) else (
   vg_o (vg_gR μ v0 14 1) fun x2 =>
   vg_o x2 fun a3 =>
   vg_o (vg_aI μ a3 0 v1) fun x4 =>
   fX11_at_18  x4 μ
   )
set_option maxHeartbeats 4000000 in
set_option maxRecDepth 100000 in
theorem cX11_at_met {l : Launch} {D : va_G} {cy : Nat → ClassId} {H0 : Heap} {r : Int32} {μ μ' : vg_M} {cn nn : Nat} {v0 : Nat} {v1 : Int32} (hf : fX11_at v0 v1 μ = some (r, μ', cn, nn)) : vg_Met l D cy H0 yX11_at cX11_at 2 (some .int) 12 μ [.ref v0, .int v1] (some (.int r)) μ' cn nn := by
  refine vg_start (by decide +kernel) (by simp [Value.category]) (Nat.le_of_ble_eq_true rfl) ?_
  intro p e s m below meth c ls X hml hr hlk hnm hH hl
  have hl : vg_l ls 2 [(0, .ref v0), (1, .int v1)] := hl
  have Z : vg_Z D cy p s m _ c cX11_at RX11 meth 2 (some .int) (vg_rm 12 cn nn) 12 cn nn _ := ⟨X, hml, hr, hlk, Nat.le_refl _, Nat.le_refl _, Nat.le_refl _, Nat.le_refl _, hnm⟩
  obtain ⟨-, -, -, -, hfr, hlo, hRc, hRs, -⟩ := id Z
  have hx := X.1
  have hb := X.2.1
  have hL : ∀ z ∈ ([] : List Loc), H0.size ≤ z.base := fun _ h => nomatch h
  have hC : 0 + cn = cn := Nat.zero_add _
  have hN : 0 + nn = nn := Nat.zero_add _
  unfold fX11_at at hf
  refine lv_iload_n hx hb dX11_at_0 rfl (lv_at hl.1 1 rfl) ?_
  refine lv_aload_n hx hb dX11_at_1 rfl (lv_at hl.1 0 rfl) ?_
  refine vg_getI X hH fF_X11_106 dX11_at_2 hf (fun x1 hf => ?_)
  refine lv_icmp_ge (tgt := 17) hx hb dX11_at_5 (by decide) (fun h8 => ?_) (fun h8 => ?_)
  · have hf := vg_ip h8 hf
    refine lv_iconst (v := (-1)) hx hb dX11_at_17 (by decide) ?_
    exact wX11_at_18 Z  ((-1)) μ _ _ _ _ _ _ _ hf hH hL hC hN (hl.sub [] rfl)
  · have hf := vg_if h8 hf
    refine lv_aload_n hx hb dX11_at_8 rfl (lv_at hl.1 0 rfl) ?_
    refine vg_getR X hH fF_X11_7 dX11_at_9 hf (fun x2 hf => ?_)
    refine lv_iload_n hx hb dX11_at_12 rfl (lv_at hl.1 1 rfl) ?_
    obtain ⟨a3, h9, hf⟩ := vg_o_inv hf
    subst h9
    refine vg_bald X hH dX11_at_13 hf (fun x4 hf => ?_)
    refine lv_goto (tgt := 18) hx hb dX11_at_14 (by decide) ?_
    exact wX11_at_18 Z  x4 μ _ _ _ _ _ _ _ hf hH hL hC hN (hl.sub [] rfl)
def fX11_many_25 (q4 : Nat → Int32 → Int32 → vg_M → vg_R Int32) (v0 : Nat) (v2 : Int32) (k0 : Int32) (k1 : Int32) (μ : vg_M) : vg_R Int32 :=
  q4 v0 (k0 + k1) (v2 + 1) μ
set_option maxHeartbeats 4000000 in
set_option maxRecDepth 100000 in
theorem wX11_many_25 {p : Program} {l : Launch} {e : Env} {R : Room} {s : State} {m : MethodId} {args : Array Value} {below : List Frame} {meth : Method} {c : Code} {D : va_G} {cy : Nat → ClassId} {H0 : Heap} {C0 N0 : Nat} {r : Int32} {μ' : vg_M} (Z : vg_Z D cy p s m args c cX11_many RX11 meth 3 (some .int) R 12 C0 N0 "many") {q4 : Nat → Int32 → Int32 → vg_M → vg_R Int32} (hk4 : ∀ (v0 : Nat) (v1 : Int32) (v2 : Int32) (μ : vg_M), vg_S p l e R s m args below meth c D cy H0 C0 N0 3 (MQ below (vg_Qc D cy H0 μ' (some (.int r))) args s C0 N0 (vg_fr H0)) r μ' (q4 v0 v1 v2 μ) μ [(0, .ref v0), (1, .int v1), (2, .int v2)] [] 4) (v0 : Nat) (v2 : Int32) (k0 : Int32) (k1 : Int32) (μ : vg_M) : vg_S p l e R s m args below meth c D cy H0 C0 N0 3 (MQ below (vg_Qc D cy H0 μ' (some (.int r))) args s C0 N0 (vg_fr H0)) r μ' (fX11_many_25 q4 v0 v2 k0 k1 μ) μ [(0, .ref v0), (2, .int v2)] [.int k1, .int k0] 25 := by
  intro cn nn H locs cells slots ls hf hH hL hC hN hl
  obtain ⟨X, hml, hr, hlk, hfr, hlo, hRc, hRs, hnm⟩ := id Z
  have hx := X.1
  have hb := X.2.1
  unfold fX11_many_25 at hf
  refine lv_iadd hx hb dX11_many_25 ?_
  refine vg_istore_n (lv' := [(1, .int (k0 + k1)), (0, .ref v0), (2, .int v2)]) hx hb dX11_many_26 rfl hl (by decide) rfl (fun ls hl => ?_)
  refine vg_iinc (v := v2 + 1) (lv' := [(2, .int (v2 + 1)), (1, .int (k0 + k1)), (0, .ref v0)]) hx hb dX11_many_27 hl (k := 2) rfl rfl (by decide) rfl (fun ls hl => ?_)
  refine lv_goto (tgt := 4) hx hb dX11_many_30 (by decide) ?_
  exact hk4 v0 (k0 + k1) (v2 + 1) μ _ _ _ _ _ _ _ hf hH hL hC hN (hl.sub [2, 1, 0] rfl)
def fX11_many_4  : Nat → Nat → Int32 → Int32 → vg_M → vg_R Int32
  | 0, _, _, _, _ => none
  | n + 1, v0, v1, v2, μ =>
    if 60 ≤ v2 then (
     vg_ret v1 μ
     ) else (
     vg_o (vg_gR μ v0 14 6) fun x1 =>
     vg_o x1 fun a2 =>
     vg_o (vg_aI μ a2 2 v2) fun x3 =>
     if x3 ≤ 0 then (
      fX11_many_25 (fX11_many_4  n) v0 v2 v1 0 μ
      ) else (
      fX11_many_25 (fX11_many_4  n) v0 v2 v1 1 μ
      )
     )
set_option maxHeartbeats 4000000 in
set_option maxRecDepth 100000 in
theorem wX11_many_4 {p : Program} {l : Launch} {e : Env} {R : Room} {s : State} {m : MethodId} {args : Array Value} {below : List Frame} {meth : Method} {c : Code} {D : va_G} {cy : Nat → ClassId} {H0 : Heap} {C0 N0 : Nat} {r : Int32} {μ' : vg_M} (Z : vg_Z D cy p s m args c cX11_many RX11 meth 3 (some .int) R 12 C0 N0 "many")   : ∀ (n : Nat) (v0 : Nat) (v1 : Int32) (v2 : Int32) (μ : vg_M), vg_S p l e R s m args below meth c D cy H0 C0 N0 3 (MQ below (vg_Qc D cy H0 μ' (some (.int r))) args s C0 N0 (vg_fr H0)) r μ' (fX11_many_4  n v0 v1 v2 μ) μ [(0, .ref v0), (1, .int v1), (2, .int v2)] [] 4 := by
  intro n
  induction n with
  | zero =>
    intro v0 v1 v2 μ cn nn H locs cells slots ls hf
    simp [fX11_many_4] at hf
  | succ n hk4 =>
    intro v0 v1 v2 μ
    intro cn nn H locs cells slots ls hf hH hL hC hN hl
    obtain ⟨X, hml, hr, hlk, hfr, hlo, hRc, hRs, hnm⟩ := id Z
    have hx := X.1
    have hb := X.2.1
    rw [fX11_many_4] at hf
    refine lv_iload_n hx hb dX11_many_4 rfl (lv_at hl.1 2 rfl) ?_
    refine lv_bipush (v := 60) hx hb dX11_many_5 (by decide) ?_
    refine lv_icmp_ge (tgt := 33) hx hb dX11_many_7 (by decide) (fun h8 => ?_) (fun h8 => ?_)
    · have hf := vg_ip h8 hf
      refine lv_iload_n hx hb dX11_many_33 rfl (lv_at hl.1 1 rfl) ?_
      exact vg_reti X hr hlk hH hL dX11_many_34 hf hC hN
    · have hf := vg_if h8 hf
      refine lv_iload_n hx hb dX11_many_10 rfl (lv_at hl.1 1 rfl) ?_
      refine lv_aload_n hx hb dX11_many_11 rfl (lv_at hl.1 0 rfl) ?_
      refine vg_getR X hH fF_X11_20 dX11_many_12 hf (fun x1 hf => ?_)
      refine lv_iload_n hx hb dX11_many_15 rfl (lv_at hl.1 2 rfl) ?_
      obtain ⟨a2, h9, hf⟩ := vg_o_inv hf
      subst h9
      refine vg_iald X hH dX11_many_16 hf (fun x3 hf => ?_)
      refine lv_if_le (tgt := 24) hx hb dX11_many_17 (by decide) (fun h8 => ?_) (fun h8 => ?_)
      · have hf := vg_ip h8 hf
        refine lv_iconst (v := 0) hx hb dX11_many_24 (by decide) ?_
        exact wX11_many_25 Z hk4 v0 v2 v1 0 μ _ _ _ _ _ _ _ hf hH hL hC hN (hl.sub [0, 2] rfl)
      · have hf := vg_if h8 hf
        refine lv_iconst (v := 1) hx hb dX11_many_20 (by decide) ?_
        refine lv_goto (tgt := 25) hx hb dX11_many_21 (by decide) ?_
        exact wX11_many_25 Z hk4 v0 v2 v1 1 μ _ _ _ _ _ _ _ hf hH hL hC hN (hl.sub [0, 2] rfl)
def fX11_many (v0 : Nat) (μ : vg_M) : vg_R Int32 :=
  fX11_many_4  vg_fuel v0 0 0 μ
set_option maxHeartbeats 4000000 in
set_option maxRecDepth 100000 in
theorem cX11_many_met {l : Launch} {D : va_G} {cy : Nat → ClassId} {H0 : Heap} {r : Int32} {μ μ' : vg_M} {cn nn : Nat} {v0 : Nat} (hf : fX11_many v0 μ = some (r, μ', cn, nn)) : vg_Met l D cy H0 yX11_many cX11_many 3 (some .int) 12 μ [.ref v0] (some (.int r)) μ' cn nn := by
  refine vg_start (by decide +kernel) (by simp [Value.category]) (Nat.le_of_ble_eq_true rfl) ?_
  intro p e s m below meth c ls X hml hr hlk hnm hH hl
  have hl : vg_l ls 3 [(0, .ref v0)] := hl
  have Z : vg_Z D cy p s m _ c cX11_many RX11 meth 3 (some .int) (vg_rm 12 cn nn) 12 cn nn _ := ⟨X, hml, hr, hlk, Nat.le_refl _, Nat.le_refl _, Nat.le_refl _, Nat.le_refl _, hnm⟩
  obtain ⟨-, -, -, -, hfr, hlo, hRc, hRs, -⟩ := id Z
  have hx := X.1
  have hb := X.2.1
  have hL : ∀ z ∈ ([] : List Loc), H0.size ≤ z.base := fun _ h => nomatch h
  have hC : 0 + cn = cn := Nat.zero_add _
  have hN : 0 + nn = nn := Nat.zero_add _
  unfold fX11_many at hf
  refine lv_iconst (v := 0) hx hb dX11_many_0 (by decide) ?_
  refine vg_istore_n (lv' := [(1, .int 0), (0, .ref v0)]) hx hb dX11_many_1 rfl hl (by decide) rfl (fun ls hl => ?_)
  refine lv_iconst (v := 0) hx hb dX11_many_2 (by decide) ?_
  refine vg_istore_n (lv' := [(2, .int 0), (1, .int 0), (0, .ref v0)]) hx hb dX11_many_3 rfl hl (by decide) rfl (fun ls hl => ?_)
  exact wX11_many_4 Z  vg_fuel v0 0 0 μ _ _ _ _ _ _ _ hf hH hL hC hN (hl.sub [2, 1, 0] rfl)
def fX11_thrown (v0 : Nat) (μ : vg_M) : vg_R Int32 :=
  vg_o (vg_gI μ v0 14 0) fun x1 =>
  vg_ret x1 μ
set_option maxHeartbeats 4000000 in
set_option maxRecDepth 100000 in
theorem cX11_thrown_met {l : Launch} {D : va_G} {cy : Nat → ClassId} {H0 : Heap} {r : Int32} {μ μ' : vg_M} {cn nn : Nat} {v0 : Nat} (hf : fX11_thrown v0 μ = some (r, μ', cn, nn)) : vg_Met l D cy H0 yX11_thrown cX11_thrown 1 (some .int) 12 μ [.ref v0] (some (.int r)) μ' cn nn := by
  refine vg_start (by decide +kernel) (by simp [Value.category]) (Nat.le_of_ble_eq_true rfl) ?_
  intro p e s m below meth c ls X hml hr hlk hnm hH hl
  have hl : vg_l ls 1 [(0, .ref v0)] := hl
  have Z : vg_Z D cy p s m _ c cX11_thrown RX11 meth 1 (some .int) (vg_rm 12 cn nn) 12 cn nn _ := ⟨X, hml, hr, hlk, Nat.le_refl _, Nat.le_refl _, Nat.le_refl _, Nat.le_refl _, hnm⟩
  obtain ⟨-, -, -, -, hfr, hlo, hRc, hRs, -⟩ := id Z
  have hx := X.1
  have hb := X.2.1
  have hL : ∀ z ∈ ([] : List Loc), H0.size ≤ z.base := fun _ h => nomatch h
  have hC : 0 + cn = cn := Nat.zero_add _
  have hN : 0 + nn = nn := Nat.zero_add _
  unfold fX11_thrown at hf
  refine lv_aload_n hx hb dX11_thrown_0 rfl (lv_at hl.1 0 rfl) ?_
  refine vg_getI X hH fF_X11_103 dX11_thrown_1 hf (fun x1 hf => ?_)
  exact vg_reti X hr hlk hH hL dX11_thrown_4 hf hC hN
end
