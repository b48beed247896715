section
-- ===== PART A: goes FIRST, ahead of the names: the tables' words, and 'selects' of the private methods out of them =====
/-- a private method of a class that the tables say can be made, by its rows of tables_1 -/
def lw_okq (q : MethodName × Nat) : Prop := (q.1.cls ≠ "java/lang/invoke/MethodHandle" ∧ q.1.cls ≠ "java/lang/invoke/VarHandle") ∧ Cond.instantiable q.1.cls q.2 ∈ tables_1 ∧ Cond.privateMethod q.1 ∈ tables_1 ∧ Cond.instanceMethod q.1 ∈ tables_1
theorem lw_p0 : lw_okq (⟨"LifeNoes$TextReader", "advance", "()V"⟩, 7) := ⟨⟨by decide +kernel, by decide +kernel⟩, List.mem_of_getElem? (i := 123) (by decide +kernel), List.mem_of_getElem? (i := 363) (by decide +kernel), List.mem_of_getElem? (i := 364) (by decide +kernel)⟩
theorem lw_p1 : lw_okq (⟨"LifeNoes$TextReader", "takeNumber", "()V"⟩, 7) := ⟨⟨by decide +kernel, by decide +kernel⟩, List.mem_of_getElem? (i := 123) (by decide +kernel), List.mem_of_getElem? (i := 368) (by decide +kernel), List.mem_of_getElem? (i := 369) (by decide +kernel)⟩
theorem lw_p2 : lw_okq (⟨"LifeNoes$TextReader", "readStatement", "()Z"⟩, 7) := ⟨⟨by decide +kernel, by decide +kernel⟩, List.mem_of_getElem? (i := 123) (by decide +kernel), List.mem_of_getElem? (i := 372) (by decide +kernel), List.mem_of_getElem? (i := 373) (by decide +kernel)⟩
theorem lw_p3 : lw_okq (⟨"LifeNoes$TextReader", "kindNamed", "()I"⟩, 7) := ⟨⟨by decide +kernel, by decide +kernel⟩, List.mem_of_getElem? (i := 123) (by decide +kernel), List.mem_of_getElem? (i := 376) (by decide +kernel), List.mem_of_getElem? (i := 377) (by decide +kernel)⟩
theorem lw_p4 : lw_okq (⟨"LifeNoes$TextReader", "isName", "(Ljava/lang/String;)Z"⟩, 7) := ⟨⟨by decide +kernel, by decide +kernel⟩, List.mem_of_getElem? (i := 123) (by decide +kernel), List.mem_of_getElem? (i := 381) (by decide +kernel), List.mem_of_getElem? (i := 382) (by decide +kernel)⟩
theorem lw_p5 : lw_okq (⟨"LifeNoes$TextReader", "readPerson", "(I)Z"⟩, 7) := ⟨⟨by decide +kernel, by decide +kernel⟩, List.mem_of_getElem? (i := 123) (by decide +kernel), List.mem_of_getElem? (i := 438) (by decide +kernel), List.mem_of_getElem? (i := 439) (by decide +kernel)⟩
theorem lw_p6 : lw_okq (⟨"LifeNoes$TextReader", "isNumber", "(II)Z"⟩, 7) := ⟨⟨by decide +kernel, by decide +kernel⟩, List.mem_of_getElem? (i := 123) (by decide +kernel), List.mem_of_getElem? (i := 443) (by decide +kernel), List.mem_of_getElem? (i := 444) (by decide +kernel)⟩
theorem lw_p7 : lw_okq (⟨"LifeNoes$TextReader", "readEnd", "()Z"⟩, 7) := ⟨⟨by decide +kernel, by decide +kernel⟩, List.mem_of_getElem? (i := 123) (by decide +kernel), List.mem_of_getElem? (i := 452) (by decide +kernel), List.mem_of_getElem? (i := 453) (by decide +kernel)⟩
theorem lw_p8 : lw_okq (⟨"LifeNoes$TextReader", "isByte", "(I)Z"⟩, 7) := ⟨⟨by decide +kernel, by decide +kernel⟩, List.mem_of_getElem? (i := 123) (by decide +kernel), List.mem_of_getElem? (i := 456) (by decide +kernel), List.mem_of_getElem? (i := 457) (by decide +kernel)⟩
theorem lw_p9 : lw_okq (⟨"LifeNoes$TextReader", "readProposal", "()Z"⟩, 7) := ⟨⟨by decide +kernel, by decide +kernel⟩, List.mem_of_getElem? (i := 123) (by decide +kernel), List.mem_of_getElem? (i := 461) (by decide +kernel), List.mem_of_getElem? (i := 462) (by decide +kernel)⟩
theorem lw_p10 : lw_okq (⟨"LifeNoes$TextReader", "readWorths", "(I)Z"⟩, 7) := ⟨⟨by decide +kernel, by decide +kernel⟩, List.mem_of_getElem? (i := 123) (by decide +kernel), List.mem_of_getElem? (i := 470) (by decide +kernel), List.mem_of_getElem? (i := 471) (by decide +kernel)⟩
theorem lw_p11 : lw_okq (⟨"LifeNoes$TextReader", "readLaw", "(III)Z"⟩, 7) := ⟨⟨by decide +kernel, by decide +kernel⟩, List.mem_of_getElem? (i := 123) (by decide +kernel), List.mem_of_getElem? (i := 475) (by decide +kernel), List.mem_of_getElem? (i := 476) (by decide +kernel)⟩
theorem lw_p12 : lw_okq (⟨"LifeNoes", "isPerson", "(I)Z"⟩, 16) := ⟨⟨by decide +kernel, by decide +kernel⟩, List.mem_of_getElem? (i := 22) (by decide +kernel), List.mem_of_getElem? (i := 496) (by decide +kernel), List.mem_of_getElem? (i := 497) (by decide +kernel)⟩
theorem lw_p13 : lw_okq (⟨"LifeNoes", "isProposal", "(I)Z"⟩, 16) := ⟨⟨by decide +kernel, by decide +kernel⟩, List.mem_of_getElem? (i := 22) (by decide +kernel), List.mem_of_getElem? (i := 529) (by decide +kernel), List.mem_of_getElem? (i := 530) (by decide +kernel)⟩
theorem lw_p14 : lw_okq (⟨"LifeNoes$Village", "calledOfLeague", "(II)I"⟩, 13) := ⟨⟨by decide +kernel, by decide +kernel⟩, List.mem_of_getElem? (i := 30) (by decide +kernel), List.mem_of_getElem? (i := 564) (by decide +kernel), List.mem_of_getElem? (i := 565) (by decide +kernel)⟩
theorem lw_p15 : lw_okq (⟨"LifeNoes$Village", "isInLeague", "(II)Z"⟩, 13) := ⟨⟨by decide +kernel, by decide +kernel⟩, List.mem_of_getElem? (i := 30) (by decide +kernel), List.mem_of_getElem? (i := 568) (by decide +kernel), List.mem_of_getElem? (i := 569) (by decide +kernel)⟩
def lw_privs_1 : List (MethodName × Nat) := [(⟨"LifeNoes$TextReader", "advance", "()V"⟩, 7), (⟨"LifeNoes$TextReader", "takeNumber", "()V"⟩, 7), (⟨"LifeNoes$TextReader", "readStatement", "()Z"⟩, 7), (⟨"LifeNoes$TextReader", "kindNamed", "()I"⟩, 7), (⟨"LifeNoes$TextReader", "isName", "(Ljava/lang/String;)Z"⟩, 7), (⟨"LifeNoes$TextReader", "readPerson", "(I)Z"⟩, 7), (⟨"LifeNoes$TextReader", "isNumber", "(II)Z"⟩, 7), (⟨"LifeNoes$TextReader", "readEnd", "()Z"⟩, 7), (⟨"LifeNoes$TextReader", "isByte", "(I)Z"⟩, 7), (⟨"LifeNoes$TextReader", "readProposal", "()Z"⟩, 7), (⟨"LifeNoes$TextReader", "readWorths", "(I)Z"⟩, 7), (⟨"LifeNoes$TextReader", "readLaw", "(III)Z"⟩, 7), (⟨"LifeNoes", "isPerson", "(I)Z"⟩, 16), (⟨"LifeNoes", "isProposal", "(I)Z"⟩, 16), (⟨"LifeNoes$Village", "calledOfLeague", "(II)I"⟩, 13), (⟨"LifeNoes$Village", "isInLeague", "(II)Z"⟩, 13)]
theorem lw_r1 : ∀ q ∈ lw_privs_1, lw_okq q := List.forall_mem_cons.mpr ⟨lw_p0, List.forall_mem_cons.mpr ⟨lw_p1, List.forall_mem_cons.mpr ⟨lw_p2, List.forall_mem_cons.mpr ⟨lw_p3, List.forall_mem_cons.mpr ⟨lw_p4, List.forall_mem_cons.mpr ⟨lw_p5, List.forall_mem_cons.mpr ⟨lw_p6, List.forall_mem_cons.mpr ⟨lw_p7, List.forall_mem_cons.mpr ⟨lw_p8, List.forall_mem_cons.mpr ⟨lw_p9, List.forall_mem_cons.mpr ⟨lw_p10, List.forall_mem_cons.mpr ⟨lw_p11, List.forall_mem_cons.mpr ⟨lw_p12, List.forall_mem_cons.mpr ⟨lw_p13, List.forall_mem_cons.mpr ⟨lw_p14, List.forall_mem_cons.mpr ⟨lw_p15, fun _ h => absurd h List.not_mem_nil⟩⟩⟩⟩⟩⟩⟩⟩⟩⟩⟩⟩⟩⟩⟩⟩
theorem lw_p16 : lw_okq (⟨"LifeNoes$Village", "dislikes", "(IIII)Z"⟩, 13) := ⟨⟨by decide +kernel, by decide +kernel⟩, List.mem_of_getElem? (i := 30) (by decide +kernel), List.mem_of_getElem? (i := 575) (by decide +kernel), List.mem_of_getElem? (i := 576) (by decide +kernel)⟩
theorem lw_p17 : lw_okq (⟨"LifeNoes$Village", "hasWorseOff", "(III)Z"⟩, 13) := ⟨⟨by decide +kernel, by decide +kernel⟩, List.mem_of_getElem? (i := 30) (by decide +kernel), List.mem_of_getElem? (i := 579) (by decide +kernel), List.mem_of_getElem? (i := 580) (by decide +kernel)⟩
theorem lw_p18 : lw_okq (⟨"LifeNoes$Village", "oldestOf", "(I)I"⟩, 13) := ⟨⟨by decide +kernel, by decide +kernel⟩, List.mem_of_getElem? (i := 30) (by decide +kernel), List.mem_of_getElem? (i := 596) (by decide +kernel), List.mem_of_getElem? (i := 597) (by decide +kernel)⟩
theorem lw_p19 : lw_okq (⟨"LifeNoes$Ahead", "sumFrom", "(III)J"⟩, 3) := ⟨⟨by decide +kernel, by decide +kernel⟩, List.mem_of_getElem? (i := 103) (by decide +kernel), List.mem_of_getElem? (i := 668) (by decide +kernel), List.mem_of_getElem? (i := 669) (by decide +kernel)⟩
theorem lw_p20 : lw_okq (⟨"LifeNoes$Ahead", "gain", "(IZ)J"⟩, 3) := ⟨⟨by decide +kernel, by decide +kernel⟩, List.mem_of_getElem? (i := 103) (by decide +kernel), List.mem_of_getElem? (i := 674) (by decide +kernel), List.mem_of_getElem? (i := 675) (by decide +kernel)⟩
theorem lw_p21 : lw_okq (⟨"LifeNoes$Ahead", "isLikedByAllButOne", "(I)Z"⟩, 3) := ⟨⟨by decide +kernel, by decide +kernel⟩, List.mem_of_getElem? (i := 103) (by decide +kernel), List.mem_of_getElem? (i := 678) (by decide +kernel), List.mem_of_getElem? (i := 679) (by decide +kernel)⟩
theorem lw_p22 : lw_okq (⟨"LifeNoes$Ahead", "bestSumFrom", "(III)J"⟩, 3) := ⟨⟨by decide +kernel, by decide +kernel⟩, List.mem_of_getElem? (i := 103) (by decide +kernel), List.mem_of_getElem? (i := 700) (by decide +kernel), List.mem_of_getElem? (i := 701) (by decide +kernel)⟩
theorem lw_p23 : lw_okq (⟨"LifeNoes$Ahead", "bestOf", "(IIII)J"⟩, 3) := ⟨⟨by decide +kernel, by decide +kernel⟩, List.mem_of_getElem? (i := 103) (by decide +kernel), List.mem_of_getElem? (i := 704) (by decide +kernel), List.mem_of_getElem? (i := 705) (by decide +kernel)⟩
theorem lw_p24 : lw_okq (⟨"LifeNoes$Ahead", "ownBit", "()I"⟩, 3) := ⟨⟨by decide +kernel, by decide +kernel⟩, List.mem_of_getElem? (i := 103) (by decide +kernel), List.mem_of_getElem? (i := 709) (by decide +kernel), List.mem_of_getElem? (i := 710) (by decide +kernel)⟩
theorem lw_p25 : lw_okq (⟨"LifeNoes$Ahead", "withSayers", "(IIIII)J"⟩, 3) := ⟨⟨by decide +kernel, by decide +kernel⟩, List.mem_of_getElem? (i := 103) (by decide +kernel), List.mem_of_getElem? (i := 714) (by decide +kernel), List.mem_of_getElem? (i := 715) (by decide +kernel)⟩
theorem lw_p26 : lw_okq (⟨"LifeNoes$Ahead", "rowFrom", "(IIII)I"⟩, 3) := ⟨⟨by decide +kernel, by decide +kernel⟩, List.mem_of_getElem? (i := 103) (by decide +kernel), List.mem_of_getElem? (i := 747) (by decide +kernel), List.mem_of_getElem? (i := 748) (by decide +kernel)⟩
theorem lw_p27 : lw_okq (⟨"LifeNoes", "fillRows", "([[II)V"⟩, 16) := ⟨⟨by decide +kernel, by decide +kernel⟩, List.mem_of_getElem? (i := 22) (by decide +kernel), List.mem_of_getElem? (i := 768) (by decide +kernel), List.mem_of_getElem? (i := 769) (by decide +kernel)⟩
theorem lw_p28 : lw_okq (⟨"LifeNoes", "isInRows", "(II)Z"⟩, 16) := ⟨⟨by decide +kernel, by decide +kernel⟩, List.mem_of_getElem? (i := 22) (by decide +kernel), List.mem_of_getElem? (i := 778) (by decide +kernel), List.mem_of_getElem? (i := 779) (by decide +kernel)⟩
theorem lw_p29 : lw_okq (⟨"LifeNoes", "fillShelf", "(IIII)V"⟩, 16) := ⟨⟨by decide +kernel, by decide +kernel⟩, List.mem_of_getElem? (i := 22) (by decide +kernel), List.mem_of_getElem? (i := 819) (by decide +kernel), List.mem_of_getElem? (i := 820) (by decide +kernel)⟩
theorem lw_p30 : lw_okq (⟨"LifeNoes", "thingOn", "(I)LLifeNoes$Sayer;"⟩, 16) := ⟨⟨by decide +kernel, by decide +kernel⟩, List.mem_of_getElem? (i := 22) (by decide +kernel), List.mem_of_getElem? (i := 827) (by decide +kernel), List.mem_of_getElem? (i := 828) (by decide +kernel)⟩
theorem lw_p31 : lw_okq (⟨"LifeNoesModel", "advance", "()V"⟩, 53) := ⟨⟨by decide +kernel, by decide +kernel⟩, List.mem_of_getElem? (i := 957) (by decide +kernel), List.mem_of_getElem? (i := 1135) (by decide +kernel), List.mem_of_getElem? (i := 1136) (by decide +kernel)⟩
def lw_privs_2 : List (MethodName × Nat) := [(⟨"LifeNoes$Village", "dislikes", "(IIII)Z"⟩, 13), (⟨"LifeNoes$Village", "hasWorseOff", "(III)Z"⟩, 13), (⟨"LifeNoes$Village", "oldestOf", "(I)I"⟩, 13), (⟨"LifeNoes$Ahead", "sumFrom", "(III)J"⟩, 3), (⟨"LifeNoes$Ahead", "gain", "(IZ)J"⟩, 3), (⟨"LifeNoes$Ahead", "isLikedByAllButOne", "(I)Z"⟩, 3), (⟨"LifeNoes$Ahead", "bestSumFrom", "(III)J"⟩, 3), (⟨"LifeNoes$Ahead", "bestOf", "(IIII)J"⟩, 3), (⟨"LifeNoes$Ahead", "ownBit", "()I"⟩, 3), (⟨"LifeNoes$Ahead", "withSayers", "(IIIII)J"⟩, 3), (⟨"LifeNoes$Ahead", "rowFrom", "(IIII)I"⟩, 3), (⟨"LifeNoes", "fillRows", "([[II)V"⟩, 16), (⟨"LifeNoes", "isInRows", "(II)Z"⟩, 16), (⟨"LifeNoes", "fillShelf", "(IIII)V"⟩, 16), (⟨"LifeNoes", "thingOn", "(I)LLifeNoes$Sayer;"⟩, 16), (⟨"LifeNoesModel", "advance", "()V"⟩, 53)]
theorem lw_r2 : ∀ q ∈ lw_privs_2, lw_okq q := List.forall_mem_cons.mpr ⟨lw_p16, List.forall_mem_cons.mpr ⟨lw_p17, List.forall_mem_cons.mpr ⟨lw_p18, List.forall_mem_cons.mpr ⟨lw_p19, List.forall_mem_cons.mpr ⟨lw_p20, List.forall_mem_cons.mpr ⟨lw_p21, List.forall_mem_cons.mpr ⟨lw_p22, List.forall_mem_cons.mpr ⟨lw_p23, List.forall_mem_cons.mpr ⟨lw_p24, List.forall_mem_cons.mpr ⟨lw_p25, List.forall_mem_cons.mpr ⟨lw_p26, List.forall_mem_cons.mpr ⟨lw_p27, List.forall_mem_cons.mpr ⟨lw_p28, List.forall_mem_cons.mpr ⟨lw_p29, List.forall_mem_cons.mpr ⟨lw_p30, List.forall_mem_cons.mpr ⟨lw_p31, fun _ h => absurd h List.not_mem_nil⟩⟩⟩⟩⟩⟩⟩⟩⟩⟩⟩⟩⟩⟩⟩⟩
theorem lw_p32 : lw_okq (⟨"LifeNoesModel", "byteAt", "(I)I"⟩, 53) := ⟨⟨by decide +kernel, by decide +kernel⟩, List.mem_of_getElem? (i := 957) (by decide +kernel), List.mem_of_getElem? (i := 1139) (by decide +kernel), List.mem_of_getElem? (i := 1140) (by decide +kernel)⟩
theorem lw_p33 : lw_okq (⟨"LifeNoesModel", "wantClause", "()V"⟩, 53) := ⟨⟨by decide +kernel, by decide +kernel⟩, List.mem_of_getElem? (i := 957) (by decide +kernel), List.mem_of_getElem? (i := 1152) (by decide +kernel), List.mem_of_getElem? (i := 1153) (by decide +kernel)⟩
theorem lw_p34 : lw_okq (⟨"LifeNoesModel", "kindHere", "()I"⟩, 53) := ⟨⟨by decide +kernel, by decide +kernel⟩, List.mem_of_getElem? (i := 957) (by decide +kernel), List.mem_of_getElem? (i := 1156) (by decide +kernel), List.mem_of_getElem? (i := 1157) (by decide +kernel)⟩
theorem lw_p35 : lw_okq (⟨"LifeNoesModel", "isWord", "(J)Z"⟩, 53) := ⟨⟨by decide +kernel, by decide +kernel⟩, List.mem_of_getElem? (i := 957) (by decide +kernel), List.mem_of_getElem? (i := 1161) (by decide +kernel), List.mem_of_getElem? (i := 1162) (by decide +kernel)⟩
theorem lw_p36 : lw_okq (⟨"LifeNoesModel", "wantPerson", "(I)V"⟩, 53) := ⟨⟨by decide +kernel, by decide +kernel⟩, List.mem_of_getElem? (i := 957) (by decide +kernel), List.mem_of_getElem? (i := 1170) (by decide +kernel), List.mem_of_getElem? (i := 1171) (by decide +kernel)⟩
theorem lw_p37 : lw_okq (⟨"LifeNoesModel", "wantWord", "(J)V"⟩, 53) := ⟨⟨by decide +kernel, by decide +kernel⟩, List.mem_of_getElem? (i := 957) (by decide +kernel), List.mem_of_getElem? (i := 1175) (by decide +kernel), List.mem_of_getElem? (i := 1176) (by decide +kernel)⟩
theorem lw_p38 : lw_okq (⟨"LifeNoesModel", "wantNumber", "(II)I"⟩, 53) := ⟨⟨by decide +kernel, by decide +kernel⟩, List.mem_of_getElem? (i := 957) (by decide +kernel), List.mem_of_getElem? (i := 1179) (by decide +kernel), List.mem_of_getElem? (i := 1180) (by decide +kernel)⟩
theorem lw_p39 : lw_okq (⟨"LifeNoesModel", "mayNumber", "(JII)I"⟩, 53) := ⟨⟨by decide +kernel, by decide +kernel⟩, List.mem_of_getElem? (i := 957) (by decide +kernel), List.mem_of_getElem? (i := 1183) (by decide +kernel), List.mem_of_getElem? (i := 1184) (by decide +kernel)⟩
theorem lw_p40 : lw_okq (⟨"LifeNoesModel", "wantEnd", "()V"⟩, 53) := ⟨⟨by decide +kernel, by decide +kernel⟩, List.mem_of_getElem? (i := 957) (by decide +kernel), List.mem_of_getElem? (i := 1188) (by decide +kernel), List.mem_of_getElem? (i := 1189) (by decide +kernel)⟩
theorem lw_p41 : lw_okq (⟨"LifeNoesModel", "isMark", "(I)Z"⟩, 53) := ⟨⟨by decide +kernel, by decide +kernel⟩, List.mem_of_getElem? (i := 957) (by decide +kernel), List.mem_of_getElem? (i := 1192) (by decide +kernel), List.mem_of_getElem? (i := 1193) (by decide +kernel)⟩
theorem lw_p42 : lw_okq (⟨"LifeNoesModel", "wantProposal", "()V"⟩, 53) := ⟨⟨by decide +kernel, by decide +kernel⟩, List.mem_of_getElem? (i := 957) (by decide +kernel), List.mem_of_getElem? (i := 1197) (by decide +kernel), List.mem_of_getElem? (i := 1198) (by decide +kernel)⟩
theorem lw_p43 : lw_okq (⟨"LifeNoesModel", "wantWorths", "()V"⟩, 53) := ⟨⟨by decide +kernel, by decide +kernel⟩, List.mem_of_getElem? (i := 957) (by decide +kernel), List.mem_of_getElem? (i := 1202) (by decide +kernel), List.mem_of_getElem? (i := 1203) (by decide +kernel)⟩
theorem lw_p44 : lw_okq (⟨"LifeNoesModel", "wantLaw", "(I)V"⟩, 53) := ⟨⟨by decide +kernel, by decide +kernel⟩, List.mem_of_getElem? (i := 957) (by decide +kernel), List.mem_of_getElem? (i := 1207) (by decide +kernel), List.mem_of_getElem? (i := 1208) (by decide +kernel)⟩
theorem lw_p45 : lw_okq (⟨"LifeNoesModel", "isPerson", "(I)Z"⟩, 53) := ⟨⟨by decide +kernel, by decide +kernel⟩, List.mem_of_getElem? (i := 957) (by decide +kernel), List.mem_of_getElem? (i := 1224) (by decide +kernel), List.mem_of_getElem? (i := 1225) (by decide +kernel)⟩
theorem lw_p46 : lw_okq (⟨"LifeNoesModel", "isProposal", "(I)Z"⟩, 53) := ⟨⟨by decide +kernel, by decide +kernel⟩, List.mem_of_getElem? (i := 957) (by decide +kernel), List.mem_of_getElem? (i := 1252) (by decide +kernel), List.mem_of_getElem? (i := 1253) (by decide +kernel)⟩
theorem lw_p47 : lw_okq (⟨"LifeNoesModel", "worthTo", "(II)I"⟩, 53) := ⟨⟨by decide +kernel, by decide +kernel⟩, List.mem_of_getElem? (i := 957) (by decide +kernel), List.mem_of_getElem? (i := 1260) (by decide +kernel), List.mem_of_getElem? (i := 1261) (by decide +kernel)⟩
def lw_privs_3 : List (MethodName × Nat) := [(⟨"LifeNoesModel", "byteAt", "(I)I"⟩, 53), (⟨"LifeNoesModel", "wantClause", "()V"⟩, 53), (⟨"LifeNoesModel", "kindHere", "()I"⟩, 53), (⟨"LifeNoesModel", "isWord", "(J)Z"⟩, 53), (⟨"LifeNoesModel", "wantPerson", "(I)V"⟩, 53), (⟨"LifeNoesModel", "wantWord", "(J)V"⟩, 53), (⟨"LifeNoesModel", "wantNumber", "(II)I"⟩, 53), (⟨"LifeNoesModel", "mayNumber", "(JII)I"⟩, 53), (⟨"LifeNoesModel", "wantEnd", "()V"⟩, 53), (⟨"LifeNoesModel", "isMark", "(I)Z"⟩, 53), (⟨"LifeNoesModel", "wantProposal", "()V"⟩, 53), (⟨"LifeNoesModel", "wantWorths", "()V"⟩, 53), (⟨"LifeNoesModel", "wantLaw", "(I)V"⟩, 53), (⟨"LifeNoesModel", "isPerson", "(I)Z"⟩, 53), (⟨"LifeNoesModel", "isProposal", "(I)Z"⟩, 53), (⟨"LifeNoesModel", "worthTo", "(II)I"⟩, 53)]
theorem lw_r3 : ∀ q ∈ lw_privs_3, lw_okq q := List.forall_mem_cons.mpr ⟨lw_p32, List.forall_mem_cons.mpr ⟨lw_p33, List.forall_mem_cons.mpr ⟨lw_p34, List.forall_mem_cons.mpr ⟨lw_p35, List.forall_mem_cons.mpr ⟨lw_p36, List.forall_mem_cons.mpr ⟨lw_p37, List.forall_mem_cons.mpr ⟨lw_p38, List.forall_mem_cons.mpr ⟨lw_p39, List.forall_mem_cons.mpr ⟨lw_p40, List.forall_mem_cons.mpr ⟨lw_p41, List.forall_mem_cons.mpr ⟨lw_p42, List.forall_mem_cons.mpr ⟨lw_p43, List.forall_mem_cons.mpr ⟨lw_p44, List.forall_mem_cons.mpr ⟨lw_p45, List.forall_mem_cons.mpr ⟨lw_p46, List.forall_mem_cons.mpr ⟨lw_p47, fun _ h => absurd h List.not_mem_nil⟩⟩⟩⟩⟩⟩⟩⟩⟩⟩⟩⟩⟩⟩⟩⟩
theorem lw_p48 : lw_okq (⟨"LifeNoesModel", "wouldSet", "(II)I"⟩, 53) := ⟨⟨by decide +kernel, by decide +kernel⟩, List.mem_of_getElem? (i := 957) (by decide +kernel), List.mem_of_getElem? (i := 1283) (by decide +kernel), List.mem_of_getElem? (i := 1284) (by decide +kernel)⟩
theorem lw_p49 : lw_okq (⟨"LifeNoesModel", "wouldBy", "(III)Z"⟩, 53) := ⟨⟨by decide +kernel, by decide +kernel⟩, List.mem_of_getElem? (i := 957) (by decide +kernel), List.mem_of_getElem? (i := 1287) (by decide +kernel), List.mem_of_getElem? (i := 1288) (by decide +kernel)⟩
theorem lw_p50 : lw_okq (⟨"LifeNoesModel", "isLow", "(III)Z"⟩, 53) := ⟨⟨by decide +kernel, by decide +kernel⟩, List.mem_of_getElem? (i := 957) (by decide +kernel), List.mem_of_getElem? (i := 1291) (by decide +kernel), List.mem_of_getElem? (i := 1292) (by decide +kernel)⟩
theorem lw_p51 : lw_okq (⟨"LifeNoesModel", "isCalled", "(II)Z"⟩, 53) := ⟨⟨by decide +kernel, by decide +kernel⟩, List.mem_of_getElem? (i := 957) (by decide +kernel), List.mem_of_getElem? (i := 1295) (by decide +kernel), List.mem_of_getElem? (i := 1296) (by decide +kernel)⟩
theorem lw_p52 : lw_okq (⟨"LifeNoesModel", "saySet", "(II)I"⟩, 53) := ⟨⟨by decide +kernel, by decide +kernel⟩, List.mem_of_getElem? (i := 957) (by decide +kernel), List.mem_of_getElem? (i := 1303) (by decide +kernel), List.mem_of_getElem? (i := 1304) (by decide +kernel)⟩
theorem lw_p53 : lw_okq (⟨"LifeNoesModel", "comesNow", "(I)I"⟩, 53) := ⟨⟨by decide +kernel, by decide +kernel⟩, List.mem_of_getElem? (i := 957) (by decide +kernel), List.mem_of_getElem? (i := 1311) (by decide +kernel), List.mem_of_getElem? (i := 1312) (by decide +kernel)⟩
theorem lw_p54 : lw_okq (⟨"LifeNoesModel", "goes", "(III)Z"⟩, 53) := ⟨⟨by decide +kernel, by decide +kernel⟩, List.mem_of_getElem? (i := 957) (by decide +kernel), List.mem_of_getElem? (i := 1315) (by decide +kernel), List.mem_of_getElem? (i := 1316) (by decide +kernel)⟩
theorem lw_p55 : lw_okq (⟨"LifeNoesModel", "weightsInAll", "()I"⟩, 53) := ⟨⟨by decide +kernel, by decide +kernel⟩, List.mem_of_getElem? (i := 957) (by decide +kernel), List.mem_of_getElem? (i := 1326) (by decide +kernel), List.mem_of_getElem? (i := 1327) (by decide +kernel)⟩
theorem lw_p56 : lw_okq (⟨"LifeNoesModel", "lotOf", "(II)I"⟩, 53) := ⟨⟨by decide +kernel, by decide +kernel⟩, List.mem_of_getElem? (i := 957) (by decide +kernel), List.mem_of_getElem? (i := 1334) (by decide +kernel), List.mem_of_getElem? (i := 1335) (by decide +kernel)⟩
theorem lw_p57 : lw_okq (⟨"LifeNoesModel", "valueSide", "(III)J"⟩, 53) := ⟨⟨by decide +kernel, by decide +kernel⟩, List.mem_of_getElem? (i := 957) (by decide +kernel), List.mem_of_getElem? (i := 1354) (by decide +kernel), List.mem_of_getElem? (i := 1355) (by decide +kernel)⟩
theorem lw_p58 : lw_okq (⟨"LifeNoesModel", "valueOf", "(II)J"⟩, 53) := ⟨⟨by decide +kernel, by decide +kernel⟩, List.mem_of_getElem? (i := 957) (by decide +kernel), List.mem_of_getElem? (i := 1358) (by decide +kernel), List.mem_of_getElem? (i := 1359) (by decide +kernel)⟩
theorem lw_p59 : lw_okq (⟨"LifeNoesModel", "brings", "(IZI)I"⟩, 53) := ⟨⟨by decide +kernel, by decide +kernel⟩, List.mem_of_getElem? (i := 957) (by decide +kernel), List.mem_of_getElem? (i := 1362) (by decide +kernel), List.mem_of_getElem? (i := 1363) (by decide +kernel)⟩
theorem lw_p60 : lw_okq (⟨"LifeNoesModel", "spoiledIn", "(I)I"⟩, 53) := ⟨⟨by decide +kernel, by decide +kernel⟩, List.mem_of_getElem? (i := 957) (by decide +kernel), List.mem_of_getElem? (i := 1366) (by decide +kernel), List.mem_of_getElem? (i := 1367) (by decide +kernel)⟩
theorem lw_p61 : lw_okq (⟨"LifeNoesModel", "lowest", "(JJ)V"⟩, 53) := ⟨⟨by decide +kernel, by decide +kernel⟩, List.mem_of_getElem? (i := 957) (by decide +kernel), List.mem_of_getElem? (i := 1373) (by decide +kernel), List.mem_of_getElem? (i := 1374) (by decide +kernel)⟩
theorem lw_p62 : lw_okq (⟨"LifeNoesModel", "bestBy", "(IIII)J"⟩, 53) := ⟨⟨by decide +kernel, by decide +kernel⟩, List.mem_of_getElem? (i := 957) (by decide +kernel), List.mem_of_getElem? (i := 1386) (by decide +kernel), List.mem_of_getElem? (i := 1387) (by decide +kernel)⟩
theorem lw_p63 : lw_okq (⟨"LifeNoesModel", "bestOne", "(II)J"⟩, 53) := ⟨⟨by decide +kernel, by decide +kernel⟩, List.mem_of_getElem? (i := 957) (by decide +kernel), List.mem_of_getElem? (i := 1390) (by decide +kernel), List.mem_of_getElem? (i := 1391) (by decide +kernel)⟩
def lw_privs_4 : List (MethodName × Nat) := [(⟨"LifeNoesModel", "wouldSet", "(II)I"⟩, 53), (⟨"LifeNoesModel", "wouldBy", "(III)Z"⟩, 53), (⟨"LifeNoesModel", "isLow", "(III)Z"⟩, 53), (⟨"LifeNoesModel", "isCalled", "(II)Z"⟩, 53), (⟨"LifeNoesModel", "saySet", "(II)I"⟩, 53), (⟨"LifeNoesModel", "comesNow", "(I)I"⟩, 53), (⟨"LifeNoesModel", "goes", "(III)Z"⟩, 53), (⟨"LifeNoesModel", "weightsInAll", "()I"⟩, 53), (⟨"LifeNoesModel", "lotOf", "(II)I"⟩, 53), (⟨"LifeNoesModel", "valueSide", "(III)J"⟩, 53), (⟨"LifeNoesModel", "valueOf", "(II)J"⟩, 53), (⟨"LifeNoesModel", "brings", "(IZI)I"⟩, 53), (⟨"LifeNoesModel", "spoiledIn", "(I)I"⟩, 53), (⟨"LifeNoesModel", "lowest", "(JJ)V"⟩, 53), (⟨"LifeNoesModel", "bestBy", "(IIII)J"⟩, 53), (⟨"LifeNoesModel", "bestOne", "(II)J"⟩, 53)]
theorem lw_r4 : ∀ q ∈ lw_privs_4, lw_okq q := List.forall_mem_cons.mpr ⟨lw_p48, List.forall_mem_cons.mpr ⟨lw_p49, List.forall_mem_cons.mpr ⟨lw_p50, List.forall_mem_cons.mpr ⟨lw_p51, List.forall_mem_cons.mpr ⟨lw_p52, List.forall_mem_cons.mpr ⟨lw_p53, List.forall_mem_cons.mpr ⟨lw_p54, List.forall_mem_cons.mpr ⟨lw_p55, List.forall_mem_cons.mpr ⟨lw_p56, List.forall_mem_cons.mpr ⟨lw_p57, List.forall_mem_cons.mpr ⟨lw_p58, List.forall_mem_cons.mpr ⟨lw_p59, List.forall_mem_cons.mpr ⟨lw_p60, List.forall_mem_cons.mpr ⟨lw_p61, List.forall_mem_cons.mpr ⟨lw_p62, List.forall_mem_cons.mpr ⟨lw_p63, fun _ h => absurd h List.not_mem_nil⟩⟩⟩⟩⟩⟩⟩⟩⟩⟩⟩⟩⟩⟩⟩⟩
theorem lw_p64 : lw_okq (⟨"LifeNoesModel", "hasNow", "(IIII)J"⟩, 53) := ⟨⟨by decide +kernel, by decide +kernel⟩, List.mem_of_getElem? (i := 957) (by decide +kernel), List.mem_of_getElem? (i := 1394) (by decide +kernel), List.mem_of_getElem? (i := 1395) (by decide +kernel)⟩
theorem lw_p65 : lw_okq (⟨"LifeNoesModel", "bestTwo", "(III)J"⟩, 53) := ⟨⟨by decide +kernel, by decide +kernel⟩, List.mem_of_getElem? (i := 957) (by decide +kernel), List.mem_of_getElem? (i := 1398) (by decide +kernel), List.mem_of_getElem? (i := 1399) (by decide +kernel)⟩
theorem lw_p66 : lw_okq (⟨"LifeNoesModel", "bestThree", "(III)J"⟩, 53) := ⟨⟨by decide +kernel, by decide +kernel⟩, List.mem_of_getElem? (i := 957) (by decide +kernel), List.mem_of_getElem? (i := 1402) (by decide +kernel), List.mem_of_getElem? (i := 1403) (by decide +kernel)⟩
theorem lw_p67 : lw_okq (⟨"LifeNoesModel", "passes", "(III)Z"⟩, 53) := ⟨⟨by decide +kernel, by decide +kernel⟩, List.mem_of_getElem? (i := 957) (by decide +kernel), List.mem_of_getElem? (i := 1418) (by decide +kernel), List.mem_of_getElem? (i := 1419) (by decide +kernel)⟩
theorem lw_p68 : lw_okq (⟨"LifeNoesModel", "digitsOf", "(II)I"⟩, 53) := ⟨⟨by decide +kernel, by decide +kernel⟩, List.mem_of_getElem? (i := 957) (by decide +kernel), List.mem_of_getElem? (i := 1422) (by decide +kernel), List.mem_of_getElem? (i := 1423) (by decide +kernel)⟩
theorem lw_p69 : lw_okq (⟨"LifeNoesModel", "findRows", "(II)V"⟩, 53) := ⟨⟨by decide +kernel, by decide +kernel⟩, List.mem_of_getElem? (i := 957) (by decide +kernel), List.mem_of_getElem? (i := 1434) (by decide +kernel), List.mem_of_getElem? (i := 1435) (by decide +kernel)⟩
theorem lw_p70 : lw_okq (⟨"LifeNoesModel", "isRow", "(II)Z"⟩, 53) := ⟨⟨by decide +kernel, by decide +kernel⟩, List.mem_of_getElem? (i := 957) (by decide +kernel), List.mem_of_getElem? (i := 1442) (by decide +kernel), List.mem_of_getElem? (i := 1443) (by decide +kernel)⟩
theorem lw_p71 : lw_okq (⟨"LifeNoesModel", "lacksSort", "(II)I"⟩, 53) := ⟨⟨by decide +kernel, by decide +kernel⟩, List.mem_of_getElem? (i := 957) (by decide +kernel), List.mem_of_getElem? (i := 1461) (by decide +kernel), List.mem_of_getElem? (i := 1462) (by decide +kernel)⟩
theorem lw_p72 : lw_okq (⟨"LifeNoesModel", "isHeld", "(II)Z"⟩, 53) := ⟨⟨by decide +kernel, by decide +kernel⟩, List.mem_of_getElem? (i := 957) (by decide +kernel), List.mem_of_getElem? (i := 1483) (by decide +kernel), List.mem_of_getElem? (i := 1484) (by decide +kernel)⟩
theorem lw_p73 : lw_okq (⟨"LifeNoesModel", "kindOn", "(I)I"⟩, 53) := ⟨⟨by decide +kernel, by decide +kernel⟩, List.mem_of_getElem? (i := 957) (by decide +kernel), List.mem_of_getElem? (i := 1491) (by decide +kernel), List.mem_of_getElem? (i := 1492) (by decide +kernel)⟩
theorem lw_p74 : lw_okq (⟨"LifeNoesModel", "barsIt", "(I)I"⟩, 53) := ⟨⟨by decide +kernel, by decide +kernel⟩, List.mem_of_getElem? (i := 957) (by decide +kernel), List.mem_of_getElem? (i := 1502) (by decide +kernel), List.mem_of_getElem? (i := 1503) (by decide +kernel)⟩
theorem lw_p75 : lw_okq (⟨"LifeNoesModel", "barBars", "(I)I"⟩, 53) := ⟨⟨by decide +kernel, by decide +kernel⟩, List.mem_of_getElem? (i := 957) (by decide +kernel), List.mem_of_getElem? (i := 1506) (by decide +kernel), List.mem_of_getElem? (i := 1507) (by decide +kernel)⟩
theorem lw_p76 : lw_okq (⟨"LifeNoesModel", "ran", "(I)V"⟩, 53) := ⟨⟨by decide +kernel, by decide +kernel⟩, List.mem_of_getElem? (i := 957) (by decide +kernel), List.mem_of_getElem? (i := 1510) (by decide +kernel), List.mem_of_getElem? (i := 1511) (by decide +kernel)⟩
theorem lw_p77 : lw_okq (⟨"LifeNoesModel", "plainBars", "(I)I"⟩, 53) := ⟨⟨by decide +kernel, by decide +kernel⟩, List.mem_of_getElem? (i := 957) (by decide +kernel), List.mem_of_getElem? (i := 1514) (by decide +kernel), List.mem_of_getElem? (i := 1515) (by decide +kernel)⟩
theorem lw_p78 : lw_okq (⟨"LifeNoesModel", "waitsIt", "(I)I"⟩, 53) := ⟨⟨by decide +kernel, by decide +kernel⟩, List.mem_of_getElem? (i := 957) (by decide +kernel), List.mem_of_getElem? (i := 1518) (by decide +kernel), List.mem_of_getElem? (i := 1519) (by decide +kernel)⟩
theorem lw_p79 : lw_okq (⟨"LifeNoesModel", "plainWaits", "(I)I"⟩, 53) := ⟨⟨by decide +kernel, by decide +kernel⟩, List.mem_of_getElem? (i := 957) (by decide +kernel), List.mem_of_getElem? (i := 1522) (by decide +kernel), List.mem_of_getElem? (i := 1523) (by decide +kernel)⟩
def lw_privs_5 : List (MethodName × Nat) := [(⟨"LifeNoesModel", "hasNow", "(IIII)J"⟩, 53), (⟨"LifeNoesModel", "bestTwo", "(III)J"⟩, 53), (⟨"LifeNoesModel", "bestThree", "(III)J"⟩, 53), (⟨"LifeNoesModel", "passes", "(III)Z"⟩, 53), (⟨"LifeNoesModel", "digitsOf", "(II)I"⟩, 53), (⟨"LifeNoesModel", "findRows", "(II)V"⟩, 53), (⟨"LifeNoesModel", "isRow", "(II)Z"⟩, 53), (⟨"LifeNoesModel", "lacksSort", "(II)I"⟩, 53), (⟨"LifeNoesModel", "isHeld", "(II)Z"⟩, 53), (⟨"LifeNoesModel", "kindOn", "(I)I"⟩, 53), (⟨"LifeNoesModel", "barsIt", "(I)I"⟩, 53), (⟨"LifeNoesModel", "barBars", "(I)I"⟩, 53), (⟨"LifeNoesModel", "ran", "(I)V"⟩, 53), (⟨"LifeNoesModel", "plainBars", "(I)I"⟩, 53), (⟨"LifeNoesModel", "waitsIt", "(I)I"⟩, 53), (⟨"LifeNoesModel", "plainWaits", "(I)I"⟩, 53)]
theorem lw_r5 : ∀ q ∈ lw_privs_5, lw_okq q := List.forall_mem_cons.mpr ⟨lw_p64, List.forall_mem_cons.mpr ⟨lw_p65, List.forall_mem_cons.mpr ⟨lw_p66, List.forall_mem_cons.mpr ⟨lw_p67, List.forall_mem_cons.mpr ⟨lw_p68, List.forall_mem_cons.mpr ⟨lw_p69, List.forall_mem_cons.mpr ⟨lw_p70, List.forall_mem_cons.mpr ⟨lw_p71, List.forall_mem_cons.mpr ⟨lw_p72, List.forall_mem_cons.mpr ⟨lw_p73, List.forall_mem_cons.mpr ⟨lw_p74, List.forall_mem_cons.mpr ⟨lw_p75, List.forall_mem_cons.mpr ⟨lw_p76, List.forall_mem_cons.mpr ⟨lw_p77, List.forall_mem_cons.mpr ⟨lw_p78, List.forall_mem_cons.mpr ⟨lw_p79, fun _ h => absurd h List.not_mem_nil⟩⟩⟩⟩⟩⟩⟩⟩⟩⟩⟩⟩⟩⟩⟩⟩
theorem lw_p80 : lw_okq (⟨"LifeNoesModel", "sharesIt", "(I)I"⟩, 53) := ⟨⟨by decide +kernel, by decide +kernel⟩, List.mem_of_getElem? (i := 957) (by decide +kernel), List.mem_of_getElem? (i := 1526) (by decide +kernel), List.mem_of_getElem? (i := 1527) (by decide +kernel)⟩
theorem lw_p81 : lw_okq (⟨"LifeNoesModel", "plainShares", "(I)I"⟩, 53) := ⟨⟨by decide +kernel, by decide +kernel⟩, List.mem_of_getElem? (i := 957) (by decide +kernel), List.mem_of_getElem? (i := 1530) (by decide +kernel), List.mem_of_getElem? (i := 1531) (by decide +kernel)⟩
theorem lw_p82 : lw_okq (⟨"LifeNoesModel", "tellsIt", "(I)I"⟩, 53) := ⟨⟨by decide +kernel, by decide +kernel⟩, List.mem_of_getElem? (i := 957) (by decide +kernel), List.mem_of_getElem? (i := 1534) (by decide +kernel), List.mem_of_getElem? (i := 1535) (by decide +kernel)⟩
theorem lw_p83 : lw_okq (⟨"LifeNoesModel", "plainTells", "(I)I"⟩, 53) := ⟨⟨by decide +kernel, by decide +kernel⟩, List.mem_of_getElem? (i := 957) (by decide +kernel), List.mem_of_getElem? (i := 1538) (by decide +kernel), List.mem_of_getElem? (i := 1539) (by decide +kernel)⟩
theorem lw_p84 : lw_okq (⟨"LifeNoesModel", "moveAll", "(Z)V"⟩, 53) := ⟨⟨by decide +kernel, by decide +kernel⟩, List.mem_of_getElem? (i := 957) (by decide +kernel), List.mem_of_getElem? (i := 1554) (by decide +kernel), List.mem_of_getElem? (i := 1555) (by decide +kernel)⟩
theorem lw_p85 : lw_okq (⟨"LifeNoesModel", "moveRow", "([IIZ)V"⟩, 53) := ⟨⟨by decide +kernel, by decide +kernel⟩, List.mem_of_getElem? (i := 957) (by decide +kernel), List.mem_of_getElem? (i := 1558) (by decide +kernel), List.mem_of_getElem? (i := 1559) (by decide +kernel)⟩
def lw_privs_6 : List (MethodName × Nat) := [(⟨"LifeNoesModel", "sharesIt", "(I)I"⟩, 53), (⟨"LifeNoesModel", "plainShares", "(I)I"⟩, 53), (⟨"LifeNoesModel", "tellsIt", "(I)I"⟩, 53), (⟨"LifeNoesModel", "plainTells", "(I)I"⟩, 53), (⟨"LifeNoesModel", "moveAll", "(Z)V"⟩, 53), (⟨"LifeNoesModel", "moveRow", "([IIZ)V"⟩, 53)]
theorem lw_r6 : ∀ q ∈ lw_privs_6, lw_okq q := List.forall_mem_cons.mpr ⟨lw_p80, List.forall_mem_cons.mpr ⟨lw_p81, List.forall_mem_cons.mpr ⟨lw_p82, List.forall_mem_cons.mpr ⟨lw_p83, List.forall_mem_cons.mpr ⟨lw_p84, List.forall_mem_cons.mpr ⟨lw_p85, fun _ h => absurd h List.not_mem_nil⟩⟩⟩⟩⟩⟩
def lw_privs : List (MethodName × Nat) := lw_privs_1 ++ (lw_privs_2 ++ (lw_privs_3 ++ (lw_privs_4 ++ (lw_privs_5 ++ (lw_privs_6)))))
def lw_tbl : List Cond := k2_sels lw_privs ++ tables_1
theorem lw_privs_ok : ∀ q ∈ lw_privs, lw_okq q := by
  show ∀ q ∈ lw_privs_1 ++ (lw_privs_2 ++ (lw_privs_3 ++ (lw_privs_4 ++ (lw_privs_5 ++ (lw_privs_6))))), lw_okq q
  exact List.forall_mem_append.mpr ⟨lw_r1, List.forall_mem_append.mpr ⟨lw_r2, List.forall_mem_append.mpr ⟨lw_r3, List.forall_mem_append.mpr ⟨lw_r4, List.forall_mem_append.mpr ⟨lw_r5, lw_r6⟩⟩⟩⟩⟩
end
section
/-! ===== BEGIN words of one list among another's, by their places ===== -/
theorem goodIn_r {big : List Cond} (ws : List Cond) (ps : List Nat) (hp : ws = ps.filterMap (fun i => big[i]?)) (h : ws.all goodWord = true) : GoodIn big ws := by
  intro w hw
  have h1 := List.all_eq_true.mp h w hw
  rw [hp] at hw
  obtain ⟨i, -, hi⟩ := List.mem_filterMap.mp hw
  have hm : w ∈ big := by first | exact List.mem_of_getElem? hi | exact List.getElem?_mem hi
  exact ⟨hm, good_of_word h1⟩
theorem goodIn_app {big a b : List Cond} (ha : GoodIn big a) (hb : GoodIn big b) : GoodIn big (a ++ b) := fun w h => (List.mem_append.mp h).elim (ha w) (hb w)
theorem goodIn_ca {big a b : List Cond} {c : Cond} (ha : GoodIn big (c :: a)) (hb : GoodIn big b) : GoodIn big (c :: (a ++ b)) := fun w h => (List.mem_cons.mp h).elim (fun e => ha w (List.mem_cons.mpr (Or.inl e))) (fun h => (List.mem_append.mp h).elim (fun h => ha w (List.mem_cons.mpr (Or.inr h))) (hb w))
theorem goodIn_sub {big ws : List Cond} (hm : ∀ w ∈ ws, w ∈ big) (h : ws.all goodWord = true) : GoodIn big ws := fun w hw => ⟨hm w hw, good_of_word (List.all_eq_true.mp h w hw)⟩
/-! ===== END ===== -/

def RX0 : String := "LifeNoes$Ahead"
def TX0 : u_T := fun k => match k with
  | 0 => ("LifeNoes$Ahead", "v", "LLifeNoes$Village;", true)
  | 1 => ("LifeNoes$Ahead", "power", "[J", true)
  | _ => ("LifeNoes$Ahead", "measure", "I", false)
def tyX0 : Nat → FieldType := fun k => match k with
  | 0 => .object "LifeNoes$Village"
  | 1 => .array .long
  | _ => .int
abbrev wsX00 : List Cond := u_ws RX0 TX0 3
theorem nmX0 : ∀ a, a < 3 → ∀ b, b < 3 → a ≠ b → (TX0 a).2.1 ≠ (TX0 b).2.1 := by decide +kernel
theorem tyX0_ok : ∀ k, k < 3 → parseFieldDescriptor (TX0 k).2.2.1 = some (tyX0 k) := by decide +kernel
abbrev cX0_init : ByteArray := prog_2_method_1_code
def yX0_init : MethodName := ⟨RX0, "<init>", "()V"⟩
abbrev cX0_look : ByteArray := prog_2_method_2_code
def yX0_look : MethodName := ⟨RX0, "look", "(LLifeNoes$Village;I)V"⟩
abbrev cX0_sum : ByteArray := prog_2_method_3_code
def yX0_sum : MethodName := ⟨RX0, "sum", "(I)J"⟩
abbrev cX0_sumFrom : ByteArray := prog_2_method_4_code
def yX0_sumFrom : MethodName := ⟨RX0, "sumFrom", "(III)J"⟩
abbrev cX0_gain : ByteArray := prog_2_method_5_code
def yX0_gain : MethodName := ⟨RX0, "gain", "(IZ)J"⟩
abbrev cX0_isLikedByAllButOne : ByteArray := prog_2_method_6_code
def yX0_isLikedByAllButOne : MethodName := ⟨RX0, "isLikedByAllButOne", "(I)Z"⟩
abbrev cX0_bestSum : ByteArray := prog_2_method_7_code
def yX0_bestSum : MethodName := ⟨RX0, "bestSum", "(I)J"⟩
abbrev cX0_bestSumFrom : ByteArray := prog_2_method_8_code
def yX0_bestSumFrom : MethodName := ⟨RX0, "bestSumFrom", "(III)J"⟩
abbrev cX0_bestOf : ByteArray := prog_2_method_9_code
def yX0_bestOf : MethodName := ⟨RX0, "bestOf", "(IIII)J"⟩
abbrev cX0_withSayers : ByteArray := prog_2_method_10_code
def yX0_withSayers : MethodName := ⟨RX0, "withSayers", "(IIIII)J"⟩
abbrev cX0_ownBit : ByteArray := prog_2_method_11_code
def yX0_ownBit : MethodName := ⟨RX0, "ownBit", "()I"⟩
abbrev cX0_isNoBetter : ByteArray := prog_2_method_12_code
def yX0_isNoBetter : MethodName := ⟨RX0, "isNoBetter", "(II)Z"⟩
abbrev cX0_bestBar : ByteArray := prog_2_method_13_code
def yX0_bestBar : MethodName := ⟨RX0, "bestBar", "(II)I"⟩
abbrev cX0_leastHarm : ByteArray := prog_2_method_14_code
def yX0_leastHarm : MethodName := ⟨RX0, "leastHarm", "(I)I"⟩
abbrev cX0_rowThatLets : ByteArray := prog_2_method_15_code
def yX0_rowThatLets : MethodName := ⟨RX0, "rowThatLets", "(II)I"⟩
abbrev cX0_rowFrom : ByteArray := prog_2_method_16_code
def yX0_rowFrom : MethodName := ⟨RX0, "rowFrom", "(IIII)I"⟩
def RX1 : String := "LifeNoes$Bar"
def TX1 : u_T := fun k => match k with
  | 0 => ("LifeNoes$Sayer", "trace", "LLifeNoes$Trace;", true)
  | 1 => ("LifeNoes$Sayer", "n", "I", false)
  | _ => ("LifeNoes$Sayer", "a", "I", false)
def tyX1 : Nat → FieldType := fun k => match k with
  | 0 => .object "LifeNoes$Trace"
  | 1 => .int
  | _ => .int
abbrev wsX10 : List Cond := u_ws RX1 TX1 3
theorem nmX1 : ∀ a, a < 3 → ∀ b, b < 3 → a ≠ b → (TX1 a).2.1 ≠ (TX1 b).2.1 := by decide +kernel
theorem tyX1_ok : ∀ k, k < 3 → parseFieldDescriptor (TX1 k).2.2.1 = some (tyX1 k) := by decide +kernel
abbrev cX1_init : ByteArray := prog_3_method_1_code
def yX1_init : MethodName := ⟨RX1, "<init>", "(LLifeNoes$Trace;)V"⟩
abbrev cX1_bars : ByteArray := prog_3_method_2_code
def yX1_bars : MethodName := ⟨RX1, "bars", "(I)I"⟩
abbrev cX1_tells : ByteArray := prog_3_method_3_code
def yX1_tells : MethodName := ⟨RX1, "tells", "(I)I"⟩
def RX2 : String := "LifeNoes$League"
def TX2 : u_T := fun k => match k with
  | 0 => ("LifeNoes$Sayer", "trace", "LLifeNoes$Trace;", true)
  | 1 => ("LifeNoes$Sayer", "n", "I", false)
  | _ => ("LifeNoes$Sayer", "a", "I", false)
def tyX2 : Nat → FieldType := fun k => match k with
  | 0 => .object "LifeNoes$Trace"
  | 1 => .int
  | _ => .int
abbrev wsX20 : List Cond := u_ws RX2 TX2 3
theorem nmX2 : ∀ a, a < 3 → ∀ b, b < 3 → a ≠ b → (TX2 a).2.1 ≠ (TX2 b).2.1 := by decide +kernel
theorem tyX2_ok : ∀ k, k < 3 → parseFieldDescriptor (TX2 k).2.2.1 = some (tyX2 k) := by decide +kernel
abbrev cX2_init : ByteArray := prog_4_method_1_code
def yX2_init : MethodName := ⟨RX2, "<init>", "(LLifeNoes$Trace;)V"⟩
abbrev cX2_bars : ByteArray := prog_4_method_2_code
def yX2_bars : MethodName := ⟨RX2, "bars", "(I)I"⟩
abbrev cX2_shares : ByteArray := prog_4_method_3_code
def yX2_shares : MethodName := ⟨RX2, "shares", "(I)I"⟩
def RX3 : String := "LifeNoes$Quick"
def TX3 : u_T := fun k => match k with
  | 0 => ("LifeNoes$Sayer", "trace", "LLifeNoes$Trace;", true)
  | 1 => ("LifeNoes$Sayer", "n", "I", false)
  | _ => ("LifeNoes$Sayer", "a", "I", false)
def tyX3 : Nat → FieldType := fun k => match k with
  | 0 => .object "LifeNoes$Trace"
  | 1 => .int
  | _ => .int
abbrev wsX30 : List Cond := u_ws RX3 TX3 3
theorem nmX3 : ∀ a, a < 3 → ∀ b, b < 3 → a ≠ b → (TX3 a).2.1 ≠ (TX3 b).2.1 := by decide +kernel
theorem tyX3_ok : ∀ k, k < 3 → parseFieldDescriptor (TX3 k).2.2.1 = some (tyX3 k) := by decide +kernel
abbrev cX3_init : ByteArray := prog_5_method_1_code
def yX3_init : MethodName := ⟨RX3, "<init>", "(LLifeNoes$Trace;)V"⟩
abbrev cX3_waits : ByteArray := prog_5_method_2_code
def yX3_waits : MethodName := ⟨RX3, "waits", "(I)I"⟩
def RX4 : String := "LifeNoes$Sayer"
def TX4 : u_T := fun k => match k with
  | 0 => ("LifeNoes$Sayer", "trace", "LLifeNoes$Trace;", true)
  | 1 => ("LifeNoes$Sayer", "n", "I", false)
  | _ => ("LifeNoes$Sayer", "a", "I", false)
def tyX4 : Nat → FieldType := fun k => match k with
  | 0 => .object "LifeNoes$Trace"
  | 1 => .int
  | _ => .int
abbrev wsX40 : List Cond := u_ws RX4 TX4 3
theorem nmX4 : ∀ a, a < 3 → ∀ b, b < 3 → a ≠ b → (TX4 a).2.1 ≠ (TX4 b).2.1 := by decide +kernel
theorem tyX4_ok : ∀ k, k < 3 → parseFieldDescriptor (TX4 k).2.2.1 = some (tyX4 k) := by decide +kernel
abbrev cX4_init : ByteArray := prog_6_method_1_code
def yX4_init : MethodName := ⟨RX4, "<init>", "(LLifeNoes$Trace;)V"⟩
abbrev cX4_bars : ByteArray := prog_6_method_2_code
def yX4_bars : MethodName := ⟨RX4, "bars", "(I)I"⟩
abbrev cX4_waits : ByteArray := prog_6_method_3_code
def yX4_waits : MethodName := ⟨RX4, "waits", "(I)I"⟩
abbrev cX4_shares : ByteArray := prog_6_method_4_code
def yX4_shares : MethodName := ⟨RX4, "shares", "(I)I"⟩
abbrev cX4_tells : ByteArray := prog_6_method_5_code
def yX4_tells : MethodName := ⟨RX4, "tells", "(I)I"⟩
def RX5 : String := "LifeNoes$Sheet"
def TX5 : u_T := fun k => match k with
  | 0 => ("LifeNoes$Sheet", "sort", "I", false)
  | 1 => ("LifeNoes$Sheet", "length", "I", false)
  | _ => ("LifeNoes$Sheet", "items", "[I", true)
def tyX5 : Nat → FieldType := fun k => match k with
  | 0 => .int
  | 1 => .int
  | _ => .array .int
abbrev wsX50 : List Cond := u_ws RX5 TX5 3
theorem nmX5 : ∀ a, a < 3 → ∀ b, b < 3 → a ≠ b → (TX5 a).2.1 ≠ (TX5 b).2.1 := by decide +kernel
theorem tyX5_ok : ∀ k, k < 3 → parseFieldDescriptor (TX5 k).2.2.1 = some (tyX5 k) := by decide +kernel
abbrev cX5_init : ByteArray := prog_7_method_1_code
def yX5_init : MethodName := ⟨RX5, "<init>", "()V"⟩
abbrev cX5_become : ByteArray := prog_7_method_2_code
def yX5_become : MethodName := ⟨RX5, "become", "(II)V"⟩
def RX6 : String := "LifeNoes$TextReader"
def TX6 : u_T := fun k => match k with
  | 0 => ("LifeNoes$TextReader", "made", "LLifeNoes$Village;", true)
  | 1 => ("LifeNoes$TextReader", "bytes", "[I", true)
  | 2 => ("LifeNoes$TextReader", "length", "I", false)
  | 3 => ("LifeNoes$TextReader", "at", "I", false)
  | 4 => ("LifeNoes$TextReader", "token", "I", false)
  | 5 => ("LifeNoes$TextReader", "start", "I", false)
  | _ => ("LifeNoes$TextReader", "number", "I", false)
def tyX6 : Nat → FieldType := fun k => match k with
  | 0 => .object "LifeNoes$Village"
  | 1 => .array .int
  | 2 => .int
  | 3 => .int
  | 4 => .int
  | 5 => .int
  | _ => .int
abbrev wsX60 : List Cond := u_ws RX6 TX6 7
theorem nmX6 : ∀ a, a < 7 → ∀ b, b < 7 → a ≠ b → (TX6 a).2.1 ≠ (TX6 b).2.1 := by decide +kernel
theorem tyX6_ok : ∀ k, k < 7 → parseFieldDescriptor (TX6 k).2.2.1 = some (tyX6 k) := by decide +kernel
abbrev cX6_init : ByteArray := prog_8_method_1_code
def yX6_init : MethodName := ⟨RX6, "<init>", "()V"⟩
abbrev cX6_readText : ByteArray := prog_8_method_2_code
def yX6_readText : MethodName := ⟨RX6, "readText", "([II)Z"⟩
abbrev cX6_readStatement : ByteArray := prog_8_method_3_code
def yX6_readStatement : MethodName := ⟨RX6, "readStatement", "()Z"⟩
abbrev cX6_readPerson : ByteArray := prog_8_method_4_code
def yX6_readPerson : MethodName := ⟨RX6, "readPerson", "(I)Z"⟩
abbrev cX6_readProposal : ByteArray := prog_8_method_5_code
def yX6_readProposal : MethodName := ⟨RX6, "readProposal", "()Z"⟩
abbrev cX6_readWorths : ByteArray := prog_8_method_6_code
def yX6_readWorths : MethodName := ⟨RX6, "readWorths", "(I)Z"⟩
abbrev cX6_readLaw : ByteArray := prog_8_method_7_code
def yX6_readLaw : MethodName := ⟨RX6, "readLaw", "(III)Z"⟩
abbrev cX6_readEnd : ByteArray := prog_8_method_8_code
def yX6_readEnd : MethodName := ⟨RX6, "readEnd", "()Z"⟩
abbrev cX6_kindNamed : ByteArray := prog_8_method_9_code
def yX6_kindNamed : MethodName := ⟨RX6, "kindNamed", "()I"⟩
abbrev cX6_isName : ByteArray := prog_8_method_10_code
def yX6_isName : MethodName := ⟨RX6, "isName", "(Ljava/lang/String;)Z"⟩
abbrev cX6_isNumber : ByteArray := prog_8_method_11_code
def yX6_isNumber : MethodName := ⟨RX6, "isNumber", "(II)Z"⟩
abbrev cX6_isByte : ByteArray := prog_8_method_12_code
def yX6_isByte : MethodName := ⟨RX6, "isByte", "(I)Z"⟩
abbrev cX6_advance : ByteArray := prog_8_method_13_code
def yX6_advance : MethodName := ⟨RX6, "advance", "()V"⟩
abbrev cX6_takeNumber : ByteArray := prog_8_method_14_code
def yX6_takeNumber : MethodName := ⟨RX6, "takeNumber", "()V"⟩
def RX7 : String := "LifeNoes$Told"
def TX7 : u_T := fun k => match k with
  | 0 => ("LifeNoes$Sayer", "trace", "LLifeNoes$Trace;", true)
  | 1 => ("LifeNoes$Sayer", "n", "I", false)
  | _ => ("LifeNoes$Sayer", "a", "I", false)
def tyX7 : Nat → FieldType := fun k => match k with
  | 0 => .object "LifeNoes$Trace"
  | 1 => .int
  | _ => .int
abbrev wsX70 : List Cond := u_ws RX7 TX7 3
theorem nmX7 : ∀ a, a < 3 → ∀ b, b < 3 → a ≠ b → (TX7 a).2.1 ≠ (TX7 b).2.1 := by decide +kernel
theorem tyX7_ok : ∀ k, k < 3 → parseFieldDescriptor (TX7 k).2.2.1 = some (tyX7 k) := by decide +kernel
abbrev cX7_init : ByteArray := prog_9_method_1_code
def yX7_init : MethodName := ⟨RX7, "<init>", "(LLifeNoes$Trace;)V"⟩
abbrev cX7_tells : ByteArray := prog_9_method_2_code
def yX7_tells : MethodName := ⟨RX7, "tells", "(I)I"⟩
abbrev cX7_shares : ByteArray := prog_9_method_3_code
def yX7_shares : MethodName := ⟨RX7, "shares", "(I)I"⟩
def RX8 : String := "LifeNoes$Trace"
def TX8 : u_T := fun k => match k with
  | 0 => ("LifeNoes$Trace", "numbers", "[I", true)
  | 1 => ("LifeNoes$Trace", "count", "I", false)
  | _ => ("LifeNoes$Trace", "parted", "Z", false)
def tyX8 : Nat → FieldType := fun k => match k with
  | 0 => .array .int
  | 1 => .int
  | _ => .boolean
abbrev wsX80 : List Cond := u_ws RX8 TX8 3
theorem nmX8 : ∀ a, a < 3 → ∀ b, b < 3 → a ≠ b → (TX8 a).2.1 ≠ (TX8 b).2.1 := by decide +kernel
theorem tyX8_ok : ∀ k, k < 3 → parseFieldDescriptor (TX8 k).2.2.1 = some (tyX8 k) := by decide +kernel
abbrev cX8_init : ByteArray := prog_10_method_1_code
def yX8_init : MethodName := ⟨RX8, "<init>", "()V"⟩
abbrev cX8_clear : ByteArray := prog_10_method_2_code
def yX8_clear : MethodName := ⟨RX8, "clear", "()V"⟩
abbrev cX8_begin : ByteArray := prog_10_method_3_code
def yX8_begin : MethodName := ⟨RX8, "begin", "(I)V"⟩
def RX9 : String := "LifeNoes$Village"
def TX9 : u_T := fun k => match k with
  | 0 => ("LifeNoes$Village", "people", "I", false)
  | 1 => ("LifeNoes$Village", "kind", "[I", true)
  | 2 => ("LifeNoes$Village", "a", "[I", true)
  | 3 => ("LifeNoes$Village", "age", "[I", true)
  | 4 => ("LifeNoes$Village", "noes", "[I", true)
  | 5 => ("LifeNoes$Village", "had", "[I", true)
  | 6 => ("LifeNoes$Village", "proposals", "I", false)
  | 7 => ("LifeNoes$Village", "weight", "[I", true)
  | 8 => ("LifeNoes$Village", "worth", "[[I", true)
  | 9 => ("LifeNoes$Village", "law", "[I", true)
  | 10 => ("LifeNoes$Village", "z", "I", false)
  | 11 => ("LifeNoes$Village", "fell", "I", false)
  | _ => ("LifeNoes$Village", "passed", "I", false)
def tyX9 : Nat → FieldType := fun k => match k with
  | 0 => .int
  | 1 => .array .int
  | 2 => .array .int
  | 3 => .array .int
  | 4 => .array .int
  | 5 => .array .int
  | 6 => .int
  | 7 => .array .int
  | 8 => .array (.array .int)
  | 9 => .array .int
  | 10 => .int
  | 11 => .int
  | _ => .int
abbrev wsX90 : List Cond := u_ws RX9 TX9 13
theorem nmX9 : ∀ a, a < 13 → ∀ b, b < 13 → a ≠ b → (TX9 a).2.1 ≠ (TX9 b).2.1 := by decide +kernel
theorem tyX9_ok : ∀ k, k < 13 → parseFieldDescriptor (TX9 k).2.2.1 = some (tyX9 k) := by decide +kernel
abbrev cX9_init : ByteArray := prog_11_method_1_code
def yX9_init : MethodName := ⟨RX9, "<init>", "()V"⟩
abbrev cX9_empty : ByteArray := prog_11_method_2_code
def yX9_empty : MethodName := ⟨RX9, "empty", "()V"⟩
abbrev cX9_copyFrom : ByteArray := prog_11_method_3_code
def yX9_copyFrom : MethodName := ⟨RX9, "copyFrom", "(LLifeNoes$Village;)V"⟩
abbrev cX9_addPerson : ByteArray := prog_11_method_4_code
def yX9_addPerson : MethodName := ⟨RX9, "addPerson", "(IIII)I"⟩
abbrev cX9_removePerson : ByteArray := prog_11_method_5_code
def yX9_removePerson : MethodName := ⟨RX9, "removePerson", "(I)V"⟩
abbrev cX9_addProposal : ByteArray := prog_11_method_6_code
def yX9_addProposal : MethodName := ⟨RX9, "addProposal", "(I)I"⟩
abbrev cX9_allWeights : ByteArray := prog_11_method_7_code
def yX9_allWeights : MethodName := ⟨RX9, "allWeights", "()I"⟩
abbrev cX9_allNoes : ByteArray := prog_11_method_8_code
def yX9_allNoes : MethodName := ⟨RX9, "allNoes", "()I"⟩
abbrev cX9_packedNoes : ByteArray := prog_11_method_9_code
def yX9_packedNoes : MethodName := ⟨RX9, "packedNoes", "()I"⟩
abbrev cX9_noesIn : ByteArray := prog_11_method_10_code
def yX9_noesIn : MethodName := ⟨RX9, "noesIn", "(II)I"⟩
abbrev cX9_drawn : ByteArray := prog_11_method_11_code
def yX9_drawn : MethodName := ⟨RX9, "drawn", "(I)I"⟩
abbrev cX9_whoWould : ByteArray := prog_11_method_12_code
def yX9_whoWould : MethodName := ⟨RX9, "whoWould", "(III)I"⟩
abbrev cX9_dislikes : ByteArray := prog_11_method_13_code
def yX9_dislikes : MethodName := ⟨RX9, "dislikes", "(IIII)Z"⟩
abbrev cX9_hasWorseOff : ByteArray := prog_11_method_14_code
def yX9_hasWorseOff : MethodName := ⟨RX9, "hasWorseOff", "(III)Z"⟩
abbrev cX9_calledOfLeague : ByteArray := prog_11_method_15_code
def yX9_calledOfLeague : MethodName := ⟨RX9, "calledOfLeague", "(II)I"⟩
abbrev cX9_isInLeague : ByteArray := prog_11_method_16_code
def yX9_isInLeague : MethodName := ⟨RX9, "isInLeague", "(II)Z"⟩
abbrev cX9_whoSays : ByteArray := prog_11_method_17_code
def yX9_whoSays : MethodName := ⟨RX9, "whoSays", "(III)I"⟩
abbrev cX9_sayersOf : ByteArray := prog_11_method_18_code
def yX9_sayersOf : MethodName := ⟨RX9, "sayersOf", "(I)I"⟩
abbrev cX9_oldestOf : ByteArray := prog_11_method_19_code
def yX9_oldestOf : MethodName := ⟨RX9, "oldestOf", "(I)I"⟩
abbrev cX9_isFall : ByteArray := prog_11_method_20_code
def yX9_isFall : MethodName := ⟨RX9, "isFall", "(I)Z"⟩
abbrev cX9_noesAfter : ByteArray := prog_11_method_21_code
def yX9_noesAfter : MethodName := ⟨RX9, "noesAfter", "(III)I"⟩
abbrev cX9_passYear : ByteArray := prog_11_method_22_code
def yX9_passYear : MethodName := ⟨RX9, "passYear", "(I)Z"⟩
def RX10 : String := "LifeNoes$Wait"
def TX10 : u_T := fun k => match k with
  | 0 => ("LifeNoes$Sayer", "trace", "LLifeNoes$Trace;", true)
  | 1 => ("LifeNoes$Sayer", "n", "I", false)
  | _ => ("LifeNoes$Sayer", "a", "I", false)
def tyX10 : Nat → FieldType := fun k => match k with
  | 0 => .object "LifeNoes$Trace"
  | 1 => .int
  | _ => .int
abbrev wsX100 : List Cond := u_ws RX10 TX10 3
theorem nmX10 : ∀ a, a < 3 → ∀ b, b < 3 → a ≠ b → (TX10 a).2.1 ≠ (TX10 b).2.1 := by decide +kernel
theorem tyX10_ok : ∀ k, k < 3 → parseFieldDescriptor (TX10 k).2.2.1 = some (tyX10 k) := by decide +kernel
abbrev cX10_init : ByteArray := prog_12_method_1_code
def yX10_init : MethodName := ⟨RX10, "<init>", "(LLifeNoes$Trace;)V"⟩
abbrev cX10_bars : ByteArray := prog_12_method_2_code
def yX10_bars : MethodName := ⟨RX10, "bars", "(I)I"⟩
abbrev cX10_waits : ByteArray := prog_12_method_3_code
def yX10_waits : MethodName := ⟨RX10, "waits", "(I)I"⟩
def RX11 : String := "LifeNoes"
def TX11 : u_T := fun k => match k with
  | 0 => ("LifeNoes", "now", "LLifeNoes$Village;", true)
  | 1 => ("LifeNoes", "kept", "LLifeNoes$Village;", true)
  | 2 => ("LifeNoes", "isKept", "Z", false)
  | 3 => ("LifeNoes", "ahead", "LLifeNoes$Ahead;", true)
  | 4 => ("LifeNoes", "reader", "LLifeNoes$TextReader;", true)
  | 5 => ("LifeNoes", "tape", "[I", true)
  | 6 => ("LifeNoes", "tapeLength", "I", false)
  | 7 => ("LifeNoes", "rows", "[[I", true)
  | 8 => ("LifeNoes", "dueRows", "[[I", true)
  | 9 => ("LifeNoes", "rowCount", "I", false)
  | 10 => ("LifeNoes", "sheets", "[LLifeNoes$Sheet;", true)
  | 11 => ("LifeNoes", "shelfHolds", "[I", true)
  | 12 => ("LifeNoes", "shelfNumber", "[I", true)
  | 13 => ("LifeNoes", "shelfLength", "[I", true)
  | 14 => ("LifeNoes", "things", "[LLifeNoes$Sayer;", true)
  | _ => ("LifeNoes", "bodies", "LLifeNoes$Trace;", true)
def tyX11 : Nat → FieldType := fun k => match k with
  | 0 => .object "LifeNoes$Village"
  | 1 => .object "LifeNoes$Village"
  | 2 => .boolean
  | 3 => .object "LifeNoes$Ahead"
  | 4 => .object "LifeNoes$TextReader"
  | 5 => .array .int
  | 6 => .int
  | 7 => .array (.array .int)
  | 8 => .array (.array .int)
  | 9 => .int
  | 10 => .array (.object "LifeNoes$Sheet")
  | 11 => .array .int
  | 12 => .array .int
  | 13 => .array .int
  | 14 => .array (.object "LifeNoes$Sayer")
  | _ => .object "LifeNoes$Trace"
abbrev wsX110 : List Cond := u_ws RX11 TX11 16
theorem nmX11 : ∀ a, a < 16 → ∀ b, b < 16 → a ≠ b → (TX11 a).2.1 ≠ (TX11 b).2.1 := by decide +kernel
theorem tyX11_ok : ∀ k, k < 16 → parseFieldDescriptor (TX11 k).2.2.1 = some (tyX11 k) := by decide +kernel
abbrev cX11_init : ByteArray := prog_1_method_1_code
def yX11_init : MethodName := ⟨RX11, "<init>", "()V"⟩
abbrev cX11_feed : ByteArray := prog_1_method_2_code
def yX11_feed : MethodName := ⟨RX11, "feed", "(JI)I"⟩
abbrev cX11_village : ByteArray := prog_1_method_3_code
def yX11_village : MethodName := ⟨RX11, "village", "()I"⟩
abbrev cX11_person : ByteArray := prog_1_method_4_code
def yX11_person : MethodName := ⟨RX11, "person", "(IIII)I"⟩
abbrev cX11_personOf : ByteArray := prog_1_method_5_code
def yX11_personOf : MethodName := ⟨RX11, "personOf", "(II)I"⟩
abbrev cX11_leave : ByteArray := prog_1_method_6_code
def yX11_leave : MethodName := ⟨RX11, "leave", "(I)I"⟩
abbrev cX11_mind : ByteArray := prog_1_method_7_code
def yX11_mind : MethodName := ⟨RX11, "mind", "(III)I"⟩
abbrev cX11_give : ByteArray := prog_1_method_8_code
def yX11_give : MethodName := ⟨RX11, "give", "(II)I"⟩
abbrev cX11_noes : ByteArray := prog_1_method_9_code
def yX11_noes : MethodName := ⟨RX11, "noes", "(II)I"⟩
abbrev cX11_proposal : ByteArray := prog_1_method_10_code
def yX11_proposal : MethodName := ⟨RX11, "proposal", "(I)I"⟩
abbrev cX11_weigh : ByteArray := prog_1_method_11_code
def yX11_weigh : MethodName := ⟨RX11, "weigh", "(II)I"⟩
abbrev cX11_worth : ByteArray := prog_1_method_12_code
def yX11_worth : MethodName := ⟨RX11, "worth", "(III)I"⟩
abbrev cX11_proposalOf : ByteArray := prog_1_method_13_code
def yX11_proposalOf : MethodName := ⟨RX11, "proposalOf", "(II)I"⟩
abbrev cX11_set : ByteArray := prog_1_method_14_code
def yX11_set : MethodName := ⟨RX11, "set", "(II)I"⟩
abbrev cX11_law : ByteArray := prog_1_method_15_code
def yX11_law : MethodName := ⟨RX11, "law", "(I)I"⟩
abbrev cX11_would : ByteArray := prog_1_method_16_code
def yX11_would : MethodName := ⟨RX11, "would", "(I)I"⟩
abbrev cX11_says : ByteArray := prog_1_method_17_code
def yX11_says : MethodName := ⟨RX11, "says", "(I)I"⟩
abbrev cX11_comes : ByteArray := prog_1_method_18_code
def yX11_comes : MethodName := ⟨RX11, "comes", "(I)I"⟩
abbrev cX11_lot : ByteArray := prog_1_method_19_code
def yX11_lot : MethodName := ⟨RX11, "lot", "()I"⟩
abbrev cX11_had : ByteArray := prog_1_method_20_code
def yX11_had : MethodName := ⟨RX11, "had", "(I)I"⟩
abbrev cX11_seed : ByteArray := prog_1_method_21_code
def yX11_seed : MethodName := ⟨RX11, "seed", "(I)I"⟩
abbrev cX11_value : ByteArray := prog_1_method_22_code
def yX11_value : MethodName := ⟨RX11, "value", "(III)J"⟩
abbrev cX11_best : ByteArray := prog_1_method_23_code
def yX11_best : MethodName := ⟨RX11, "best", "(III)J"⟩
abbrev cX11_should : ByteArray := prog_1_method_24_code
def yX11_should : MethodName := ⟨RX11, "should", "(III)I"⟩
abbrev cX11_barOf : ByteArray := prog_1_method_25_code
def yX11_barOf : MethodName := ⟨RX11, "barOf", "(II)I"⟩
abbrev cX11_lets : ByteArray := prog_1_method_26_code
def yX11_lets : MethodName := ⟨RX11, "lets", "(II)I"⟩
abbrev cX11_harm : ByteArray := prog_1_method_27_code
def yX11_harm : MethodName := ⟨RX11, "harm", "(I)I"⟩
abbrev cX11_spoilt : ByteArray := prog_1_method_28_code
def yX11_spoilt : MethodName := ⟨RX11, "spoilt", "(II)J"⟩
abbrev cX11_prove : ByteArray := prog_1_method_29_code
def yX11_prove : MethodName := ⟨RX11, "prove", "(I)I"⟩
abbrev cX11_row : ByteArray := prog_1_method_30_code
def yX11_row : MethodName := ⟨RX11, "row", "(II)I"⟩
abbrev cX11_alterRow : ByteArray := prog_1_method_31_code
def yX11_alterRow : MethodName := ⟨RX11, "alterRow", "(III)I"⟩
abbrev cX11_judge : ByteArray := prog_1_method_32_code
def yX11_judge : MethodName := ⟨RX11, "judge", "()I"⟩
abbrev cX11_worths : ByteArray := prog_1_method_33_code
def yX11_worths : MethodName := ⟨RX11, "worths", "(II)I"⟩
abbrev cX11_sheet : ByteArray := prog_1_method_34_code
def yX11_sheet : MethodName := ⟨RX11, "sheet", "(III)I"⟩
abbrev cX11_put : ByteArray := prog_1_method_35_code
def yX11_put : MethodName := ⟨RX11, "put", "(III)I"⟩
abbrev cX11_item : ByteArray := prog_1_method_36_code
def yX11_item : MethodName := ⟨RX11, "item", "(III)I"⟩
abbrev cX11_shelf : ByteArray := prog_1_method_37_code
def yX11_shelf : MethodName := ⟨RX11, "shelf", "(III)I"⟩
abbrev cX11_taken : ByteArray := prog_1_method_38_code
def yX11_taken : MethodName := ⟨RX11, "taken", "(II)I"⟩
abbrev cX11_act : ByteArray := prog_1_method_39_code
def yX11_act : MethodName := ⟨RX11, "act", "(III)I"⟩
abbrev cX11_trace : ByteArray := prog_1_method_40_code
def yX11_trace : MethodName := ⟨RX11, "trace", "(I)I"⟩
abbrev cX11_many : ByteArray := prog_1_method_41_code
def yX11_many : MethodName := ⟨RX11, "many", "(I)I"⟩
abbrev cX11_keep : ByteArray := prog_1_method_42_code
def yX11_keep : MethodName := ⟨RX11, "keep", "()I"⟩
abbrev cX11_again : ByteArray := prog_1_method_43_code
def yX11_again : MethodName := ⟨RX11, "again", "()I"⟩
abbrev cX11_within : ByteArray := prog_1_method_44_code
def yX11_within : MethodName := ⟨RX11, "within", "(III)Z"⟩
abbrev cX11_isPerson : ByteArray := prog_1_method_45_code
def yX11_isPerson : MethodName := ⟨RX11, "isPerson", "(I)Z"⟩
abbrev cX11_isProposal : ByteArray := prog_1_method_46_code
def yX11_isProposal : MethodName := ⟨RX11, "isProposal", "(I)Z"⟩
abbrev cX11_isInRows : ByteArray := prog_1_method_47_code
def yX11_isInRows : MethodName := ⟨RX11, "isInRows", "(II)Z"⟩
abbrev cX11_mayBeLaw : ByteArray := prog_1_method_48_code
def yX11_mayBeLaw : MethodName := ⟨RX11, "mayBeLaw", "(II)Z"⟩
abbrev cX11_nextLot : ByteArray := prog_1_method_49_code
def yX11_nextLot : MethodName := ⟨RX11, "nextLot", "(I)I"⟩
abbrev cX11_fillRows : ByteArray := prog_1_method_50_code
def yX11_fillRows : MethodName := ⟨RX11, "fillRows", "([[II)V"⟩
abbrev cX11_partOf : ByteArray := prog_1_method_51_code
def yX11_partOf : MethodName := ⟨RX11, "partOf", "(JJI)J"⟩
abbrev cX11_commonDivisor : ByteArray := prog_1_method_52_code
def yX11_commonDivisor : MethodName := ⟨RX11, "commonDivisor", "(JJ)J"⟩
abbrev cX11_narrowed : ByteArray := prog_1_method_53_code
def yX11_narrowed : MethodName := ⟨RX11, "narrowed", "(II)I"⟩
abbrev cX11_fillShelf : ByteArray := prog_1_method_54_code
def yX11_fillShelf : MethodName := ⟨RX11, "fillShelf", "(IIII)V"⟩
abbrev cX11_thingOn : ByteArray := prog_1_method_55_code
def yX11_thingOn : MethodName := ⟨RX11, "thingOn", "(I)LLifeNoes$Sayer;"⟩
abbrev cX11_isUnder : ByteArray := prog_1_method_56_code
def yX11_isUnder : MethodName := ⟨RX11, "isUnder", "(LLifeNoes$Sayer;I)Z"⟩
abbrev cX11_answerOf : ByteArray := prog_1_method_57_code
def yX11_answerOf : MethodName := ⟨RX11, "answerOf", "(LLifeNoes$Sayer;II)I"⟩
def RX12 : String := "LifeNoesModel"
def TX12 : u_T := fun k => match k with
  | 0 => ("LifeNoesModel", "people", "I", false)
  | 1 => ("LifeNoesModel", "kindOf", "[I", true)
  | 2 => ("LifeNoesModel", "aOf", "[I", true)
  | 3 => ("LifeNoesModel", "age", "[I", true)
  | 4 => ("LifeNoesModel", "had", "[I", true)
  | 5 => ("LifeNoesModel", "proposals", "I", false)
  | 6 => ("LifeNoesModel", "weight", "[I", true)
  | 7 => ("LifeNoesModel", "worth", "[I", true)
  | 8 => ("LifeNoesModel", "laws", "[I", true)
  | 9 => ("LifeNoesModel", "leastOf", "[I", true)
  | 10 => ("LifeNoesModel", "mostOf", "[I", true)
  | 11 => ("LifeNoesModel", "row", "[I", true)
  | 12 => ("LifeNoesModel", "fell", "I", false)
  | 13 => ("LifeNoesModel", "passed", "I", false)
  | 14 => ("LifeNoesModel", "z", "I", false)
  | 15 => ("LifeNoesModel", "tape", "[I", true)
  | 16 => ("LifeNoesModel", "tapeMany", "I", false)
  | 17 => ("LifeNoesModel", "sort", "I", false)
  | 18 => ("LifeNoesModel", "begins", "I", false)
  | 19 => ("LifeNoesModel", "tokenEnds", "I", false)
  | 20 => ("LifeNoesModel", "word", "J", false)
  | 21 => ("LifeNoesModel", "value", "I", false)
  | 22 => ("LifeNoesModel", "good", "Z", false)
  | 23 => ("LifeNoesModel", "freshPeople", "I", false)
  | 24 => ("LifeNoesModel", "freshProposals", "I", false)
  | 25 => ("LifeNoesModel", "freshPerson", "[I", true)
  | 26 => ("LifeNoesModel", "freshWeight", "[I", true)
  | 27 => ("LifeNoesModel", "freshWorth", "[I", true)
  | 28 => ("LifeNoesModel", "freshLaws", "[I", true)
  | 29 => ("LifeNoesModel", "self", "I", false)
  | 30 => ("LifeNoesModel", "selfSays", "I", false)
  | 31 => ("LifeNoesModel", "said", "I", false)
  | 32 => ("LifeNoesModel", "above", "J", false)
  | 33 => ("LifeNoesModel", "below", "J", false)
  | 34 => ("LifeNoesModel", "rows", "[I", true)
  | 35 => ("LifeNoesModel", "must", "[I", true)
  | 36 => ("LifeNoesModel", "rowMany", "I", false)
  | 37 => ("LifeNoesModel", "sorts", "[I", true)
  | 38 => ("LifeNoesModel", "sizes", "[I", true)
  | 39 => ("LifeNoesModel", "sheets", "[J", true)
  | 40 => ("LifeNoesModel", "held", "[I", true)
  | 41 => ("LifeNoesModel", "heldNumber", "[I", true)
  | 42 => ("LifeNoesModel", "heldSize", "[I", true)
  | 43 => ("LifeNoesModel", "actKind", "I", false)
  | 44 => ("LifeNoesModel", "number", "I", false)
  | 45 => ("LifeNoesModel", "own", "I", false)
  | 46 => ("LifeNoesModel", "traced", "[I", true)
  | 47 => ("LifeNoesModel", "bodies", "I", false)
  | 48 => ("LifeNoesModel", "isParted", "Z", false)
  | 49 => ("LifeNoesModel", "isKept", "Z", false)
  | 50 => ("LifeNoesModel", "keptRow", "[I", true)
  | 51 => ("LifeNoesModel", "movedTo", "I", false)
  | _ => ("LifeNoesModel", "single", "[I", true)
def tyX12 : Nat → FieldType := fun k => match k with
  | 0 => .int
  | 1 => .array .int
  | 2 => .array .int
  | 3 => .array .int
  | 4 => .array .int
  | 5 => .int
  | 6 => .array .int
  | 7 => .array .int
  | 8 => .array .int
  | 9 => .array .int
  | 10 => .array .int
  | 11 => .array .int
  | 12 => .int
  | 13 => .int
  | 14 => .int
  | 15 => .array .int
  | 16 => .int
  | 17 => .int
  | 18 => .int
  | 19 => .int
  | 20 => .long
  | 21 => .int
  | 22 => .boolean
  | 23 => .int
  | 24 => .int
  | 25 => .array .int
  | 26 => .array .int
  | 27 => .array .int
  | 28 => .array .int
  | 29 => .int
  | 30 => .int
  | 31 => .int
  | 32 => .long
  | 33 => .long
  | 34 => .array .int
  | 35 => .array .int
  | 36 => .int
  | 37 => .array .int
  | 38 => .array .int
  | 39 => .array .long
  | 40 => .array .int
  | 41 => .array .int
  | 42 => .array .int
  | 43 => .int
  | 44 => .int
  | 45 => .int
  | 46 => .array .int
  | 47 => .int
  | 48 => .boolean
  | 49 => .boolean
  | 50 => .array .int
  | 51 => .int
  | _ => .array .int
abbrev wsX120 : List Cond := u_ws RX12 TX12 53
theorem nmX12 : ∀ a, a < 53 → ∀ b, b < 53 → a ≠ b → (TX12 a).2.1 ≠ (TX12 b).2.1 := by decide +kernel
theorem tyX12_ok : ∀ k, k < 53 → parseFieldDescriptor (TX12 k).2.2.1 = some (tyX12 k) := by decide +kernel
abbrev cX12_init : ByteArray := prog_14_method_1_code
def yX12_init : MethodName := ⟨RX12, "<init>", "()V"⟩
abbrev cX12_in : ByteArray := prog_14_method_2_code
def yX12_in : MethodName := ⟨RX12, "in", "(III)Z"⟩
abbrev cX12_isPerson : ByteArray := prog_14_method_3_code
def yX12_isPerson : MethodName := ⟨RX12, "isPerson", "(I)Z"⟩
abbrev cX12_isProposal : ByteArray := prog_14_method_4_code
def yX12_isProposal : MethodName := ⟨RX12, "isProposal", "(I)Z"⟩
abbrev cX12_isSide : ByteArray := prog_14_method_5_code
def yX12_isSide : MethodName := ⟨RX12, "isSide", "(I)Z"⟩
abbrev cX12_worthTo : ByteArray := prog_14_method_6_code
def yX12_worthTo : MethodName := ⟨RX12, "worthTo", "(II)I"⟩
abbrev cX12_feed : ByteArray := prog_14_method_7_code
def yX12_feed : MethodName := ⟨RX12, "feed", "(JI)I"⟩
abbrev cX12_byteAt : ByteArray := prog_14_method_8_code
def yX12_byteAt : MethodName := ⟨RX12, "byteAt", "(I)I"⟩
abbrev cX12_isLetter : ByteArray := prog_14_method_9_code
def yX12_isLetter : MethodName := ⟨RX12, "isLetter", "(I)Z"⟩
abbrev cX12_isDigit : ByteArray := prog_14_method_10_code
def yX12_isDigit : MethodName := ⟨RX12, "isDigit", "(I)Z"⟩
abbrev cX12_advance : ByteArray := prog_14_method_11_code
def yX12_advance : MethodName := ⟨RX12, "advance", "()V"⟩
abbrev cX12_isWord : ByteArray := prog_14_method_12_code
def yX12_isWord : MethodName := ⟨RX12, "isWord", "(J)Z"⟩
abbrev cX12_isMark : ByteArray := prog_14_method_13_code
def yX12_isMark : MethodName := ⟨RX12, "isMark", "(I)Z"⟩
abbrev cX12_kindHere : ByteArray := prog_14_method_14_code
def yX12_kindHere : MethodName := ⟨RX12, "kindHere", "()I"⟩
abbrev cX12_wantNumber : ByteArray := prog_14_method_15_code
def yX12_wantNumber : MethodName := ⟨RX12, "wantNumber", "(II)I"⟩
abbrev cX12_wantWord : ByteArray := prog_14_method_16_code
def yX12_wantWord : MethodName := ⟨RX12, "wantWord", "(J)V"⟩
abbrev cX12_mayNumber : ByteArray := prog_14_method_17_code
def yX12_mayNumber : MethodName := ⟨RX12, "mayNumber", "(JII)I"⟩
abbrev cX12_wantEnd : ByteArray := prog_14_method_18_code
def yX12_wantEnd : MethodName := ⟨RX12, "wantEnd", "()V"⟩
abbrev cX12_wantPerson : ByteArray := prog_14_method_19_code
def yX12_wantPerson : MethodName := ⟨RX12, "wantPerson", "(I)V"⟩
abbrev cX12_wantWorths : ByteArray := prog_14_method_20_code
def yX12_wantWorths : MethodName := ⟨RX12, "wantWorths", "()V"⟩
abbrev cX12_wantProposal : ByteArray := prog_14_method_21_code
def yX12_wantProposal : MethodName := ⟨RX12, "wantProposal", "()V"⟩
abbrev cX12_wantLaw : ByteArray := prog_14_method_22_code
def yX12_wantLaw : MethodName := ⟨RX12, "wantLaw", "(I)V"⟩
abbrev cX12_wantClause : ByteArray := prog_14_method_23_code
def yX12_wantClause : MethodName := ⟨RX12, "wantClause", "()V"⟩
abbrev cX12_village : ByteArray := prog_14_method_24_code
def yX12_village : MethodName := ⟨RX12, "village", "()I"⟩
abbrev cX12_isMind : ByteArray := prog_14_method_25_code
def yX12_isMind : MethodName := ⟨RX12, "isMind", "(II)Z"⟩
abbrev cX12_person : ByteArray := prog_14_method_26_code
def yX12_person : MethodName := ⟨RX12, "person", "(IIII)I"⟩
abbrev cX12_personOf : ByteArray := prog_14_method_27_code
def yX12_personOf : MethodName := ⟨RX12, "personOf", "(II)I"⟩
abbrev cX12_leave : ByteArray := prog_14_method_28_code
def yX12_leave : MethodName := ⟨RX12, "leave", "(I)I"⟩
abbrev cX12_mind : ByteArray := prog_14_method_29_code
def yX12_mind : MethodName := ⟨RX12, "mind", "(III)I"⟩
abbrev cX12_give : ByteArray := prog_14_method_30_code
def yX12_give : MethodName := ⟨RX12, "give", "(II)I"⟩
abbrev cX12_noes : ByteArray := prog_14_method_31_code
def yX12_noes : MethodName := ⟨RX12, "noes", "(II)I"⟩
abbrev cX12_proposal : ByteArray := prog_14_method_32_code
def yX12_proposal : MethodName := ⟨RX12, "proposal", "(I)I"⟩
abbrev cX12_weigh : ByteArray := prog_14_method_33_code
def yX12_weigh : MethodName := ⟨RX12, "weigh", "(II)I"⟩
abbrev cX12_worth : ByteArray := prog_14_method_34_code
def yX12_worth : MethodName := ⟨RX12, "worth", "(III)I"⟩
abbrev cX12_proposalOf : ByteArray := prog_14_method_35_code
def yX12_proposalOf : MethodName := ⟨RX12, "proposalOf", "(II)I"⟩
abbrev cX12_isLaw : ByteArray := prog_14_method_36_code
def yX12_isLaw : MethodName := ⟨RX12, "isLaw", "(I)Z"⟩
abbrev cX12_set : ByteArray := prog_14_method_37_code
def yX12_set : MethodName := ⟨RX12, "set", "(II)I"⟩
abbrev cX12_law : ByteArray := prog_14_method_38_code
def yX12_law : MethodName := ⟨RX12, "law", "(I)I"⟩
abbrev cX12_isLow : ByteArray := prog_14_method_39_code
def yX12_isLow : MethodName := ⟨RX12, "isLow", "(III)Z"⟩
abbrev cX12_isCalled : ByteArray := prog_14_method_40_code
def yX12_isCalled : MethodName := ⟨RX12, "isCalled", "(II)Z"⟩
abbrev cX12_wouldBy : ByteArray := prog_14_method_41_code
def yX12_wouldBy : MethodName := ⟨RX12, "wouldBy", "(III)Z"⟩
abbrev cX12_wouldSet : ByteArray := prog_14_method_42_code
def yX12_wouldSet : MethodName := ⟨RX12, "wouldSet", "(II)I"⟩
abbrev cX12_saySet : ByteArray := prog_14_method_43_code
def yX12_saySet : MethodName := ⟨RX12, "saySet", "(II)I"⟩
abbrev cX12_ones : ByteArray := prog_14_method_44_code
def yX12_ones : MethodName := ⟨RX12, "ones", "(I)I"⟩
abbrev cX12_goes : ByteArray := prog_14_method_45_code
def yX12_goes : MethodName := ⟨RX12, "goes", "(III)Z"⟩
abbrev cX12_would : ByteArray := prog_14_method_46_code
def yX12_would : MethodName := ⟨RX12, "would", "(I)I"⟩
abbrev cX12_says : ByteArray := prog_14_method_47_code
def yX12_says : MethodName := ⟨RX12, "says", "(I)I"⟩
abbrev cX12_comesNow : ByteArray := prog_14_method_48_code
def yX12_comesNow : MethodName := ⟨RX12, "comesNow", "(I)I"⟩
abbrev cX12_comes : ByteArray := prog_14_method_49_code
def yX12_comes : MethodName := ⟨RX12, "comes", "(I)I"⟩
abbrev cX12_weightsInAll : ByteArray := prog_14_method_50_code
def yX12_weightsInAll : MethodName := ⟨RX12, "weightsInAll", "()I"⟩
abbrev cX12_lotOf : ByteArray := prog_14_method_51_code
def yX12_lotOf : MethodName := ⟨RX12, "lotOf", "(II)I"⟩
abbrev cX12_next : ByteArray := prog_14_method_52_code
def yX12_next : MethodName := ⟨RX12, "next", "(I)I"⟩
abbrev cX12_lot : ByteArray := prog_14_method_53_code
def yX12_lot : MethodName := ⟨RX12, "lot", "()I"⟩
abbrev cX12_had : ByteArray := prog_14_method_54_code
def yX12_had : MethodName := ⟨RX12, "had", "(I)I"⟩
abbrev cX12_seed : ByteArray := prog_14_method_55_code
def yX12_seed : MethodName := ⟨RX12, "seed", "(I)I"⟩
abbrev cX12_lowest : ByteArray := prog_14_method_56_code
def yX12_lowest : MethodName := ⟨RX12, "lowest", "(JJ)V"⟩
abbrev cX12_power : ByteArray := prog_14_method_57_code
def yX12_power : MethodName := ⟨RX12, "power", "(JI)J"⟩
abbrev cX12_spoiledIn : ByteArray := prog_14_method_58_code
def yX12_spoiledIn : MethodName := ⟨RX12, "spoiledIn", "(I)I"⟩
abbrev cX12_brings : ByteArray := prog_14_method_59_code
def yX12_brings : MethodName := ⟨RX12, "brings", "(IZI)I"⟩
abbrev cX12_valueOf : ByteArray := prog_14_method_60_code
def yX12_valueOf : MethodName := ⟨RX12, "valueOf", "(II)J"⟩
abbrev cX12_valueSide : ByteArray := prog_14_method_61_code
def yX12_valueSide : MethodName := ⟨RX12, "valueSide", "(III)J"⟩
abbrev cX12_value : ByteArray := prog_14_method_62_code
def yX12_value : MethodName := ⟨RX12, "value", "(III)J"⟩
abbrev cX12_spoilt : ByteArray := prog_14_method_63_code
def yX12_spoilt : MethodName := ⟨RX12, "spoilt", "(II)J"⟩
abbrev cX12_hasNow : ByteArray := prog_14_method_64_code
def yX12_hasNow : MethodName := ⟨RX12, "hasNow", "(IIII)J"⟩
abbrev cX12_bestOne : ByteArray := prog_14_method_65_code
def yX12_bestOne : MethodName := ⟨RX12, "bestOne", "(II)J"⟩
abbrev cX12_bestTwo : ByteArray := prog_14_method_66_code
def yX12_bestTwo : MethodName := ⟨RX12, "bestTwo", "(III)J"⟩
abbrev cX12_bestThree : ByteArray := prog_14_method_67_code
def yX12_bestThree : MethodName := ⟨RX12, "bestThree", "(III)J"⟩
abbrev cX12_bestBy : ByteArray := prog_14_method_68_code
def yX12_bestBy : MethodName := ⟨RX12, "bestBy", "(IIII)J"⟩
abbrev cX12_best : ByteArray := prog_14_method_69_code
def yX12_best : MethodName := ⟨RX12, "best", "(III)J"⟩
abbrev cX12_should : ByteArray := prog_14_method_70_code
def yX12_should : MethodName := ⟨RX12, "should", "(III)I"⟩
abbrev cX12_barOf : ByteArray := prog_14_method_71_code
def yX12_barOf : MethodName := ⟨RX12, "barOf", "(II)I"⟩
abbrev cX12_passes : ByteArray := prog_14_method_72_code
def yX12_passes : MethodName := ⟨RX12, "passes", "(III)Z"⟩
abbrev cX12_lets : ByteArray := prog_14_method_73_code
def yX12_lets : MethodName := ⟨RX12, "lets", "(II)I"⟩
abbrev cX12_digitsOf : ByteArray := prog_14_method_74_code
def yX12_digitsOf : MethodName := ⟨RX12, "digitsOf", "(II)I"⟩
abbrev cX12_harm : ByteArray := prog_14_method_75_code
def yX12_harm : MethodName := ⟨RX12, "harm", "(I)I"⟩
abbrev cX12_findRows : ByteArray := prog_14_method_76_code
def yX12_findRows : MethodName := ⟨RX12, "findRows", "(II)V"⟩
abbrev cX12_prove : ByteArray := prog_14_method_77_code
def yX12_prove : MethodName := ⟨RX12, "prove", "(I)I"⟩
abbrev cX12_isRow : ByteArray := prog_14_method_78_code
def yX12_isRow : MethodName := ⟨RX12, "isRow", "(II)Z"⟩
abbrev cX12_row : ByteArray := prog_14_method_79_code
def yX12_row : MethodName := ⟨RX12, "row", "(II)I"⟩
abbrev cX12_alterRow : ByteArray := prog_14_method_80_code
def yX12_alterRow : MethodName := ⟨RX12, "alterRow", "(III)I"⟩
abbrev cX12_judge : ByteArray := prog_14_method_81_code
def yX12_judge : MethodName := ⟨RX12, "judge", "()I"⟩
abbrev cX12_worths : ByteArray := prog_14_method_82_code
def yX12_worths : MethodName := ⟨RX12, "worths", "(II)I"⟩
abbrev cX12_isShelf : ByteArray := prog_14_method_83_code
def yX12_isShelf : MethodName := ⟨RX12, "isShelf", "(I)Z"⟩
abbrev cX12_sheet : ByteArray := prog_14_method_84_code
def yX12_sheet : MethodName := ⟨RX12, "sheet", "(III)I"⟩
abbrev cX12_put : ByteArray := prog_14_method_85_code
def yX12_put : MethodName := ⟨RX12, "put", "(III)I"⟩
abbrev cX12_lacksSort : ByteArray := prog_14_method_86_code
def yX12_lacksSort : MethodName := ⟨RX12, "lacksSort", "(II)I"⟩
abbrev cX12_item : ByteArray := prog_14_method_87_code
def yX12_item : MethodName := ⟨RX12, "item", "(III)I"⟩
abbrev cX12_isHeld : ByteArray := prog_14_method_88_code
def yX12_isHeld : MethodName := ⟨RX12, "isHeld", "(II)Z"⟩
abbrev cX12_shelf : ByteArray := prog_14_method_89_code
def yX12_shelf : MethodName := ⟨RX12, "shelf", "(III)I"⟩
abbrev cX12_kindOn : ByteArray := prog_14_method_90_code
def yX12_kindOn : MethodName := ⟨RX12, "kindOn", "(I)I"⟩
abbrev cX12_isUnder : ByteArray := prog_14_method_91_code
def yX12_isUnder : MethodName := ⟨RX12, "isUnder", "(II)Z"⟩
abbrev cX12_taken : ByteArray := prog_14_method_92_code
def yX12_taken : MethodName := ⟨RX12, "taken", "(II)I"⟩
abbrev cX12_ran : ByteArray := prog_14_method_93_code
def yX12_ran : MethodName := ⟨RX12, "ran", "(I)V"⟩
abbrev cX12_plainBars : ByteArray := prog_14_method_94_code
def yX12_plainBars : MethodName := ⟨RX12, "plainBars", "(I)I"⟩
abbrev cX12_barBars : ByteArray := prog_14_method_95_code
def yX12_barBars : MethodName := ⟨RX12, "barBars", "(I)I"⟩
abbrev cX12_barsIt : ByteArray := prog_14_method_96_code
def yX12_barsIt : MethodName := ⟨RX12, "barsIt", "(I)I"⟩
abbrev cX12_plainWaits : ByteArray := prog_14_method_97_code
def yX12_plainWaits : MethodName := ⟨RX12, "plainWaits", "(I)I"⟩
abbrev cX12_waitsIt : ByteArray := prog_14_method_98_code
def yX12_waitsIt : MethodName := ⟨RX12, "waitsIt", "(I)I"⟩
abbrev cX12_plainShares : ByteArray := prog_14_method_99_code
def yX12_plainShares : MethodName := ⟨RX12, "plainShares", "(I)I"⟩
abbrev cX12_sharesIt : ByteArray := prog_14_method_100_code
def yX12_sharesIt : MethodName := ⟨RX12, "sharesIt", "(I)I"⟩
abbrev cX12_plainTells : ByteArray := prog_14_method_101_code
def yX12_plainTells : MethodName := ⟨RX12, "plainTells", "(I)I"⟩
abbrev cX12_tellsIt : ByteArray := prog_14_method_102_code
def yX12_tellsIt : MethodName := ⟨RX12, "tellsIt", "(I)I"⟩
abbrev cX12_act : ByteArray := prog_14_method_103_code
def yX12_act : MethodName := ⟨RX12, "act", "(III)I"⟩
abbrev cX12_trace : ByteArray := prog_14_method_104_code
def yX12_trace : MethodName := ⟨RX12, "trace", "(I)I"⟩
abbrev cX12_many : ByteArray := prog_14_method_105_code
def yX12_many : MethodName := ⟨RX12, "many", "(I)I"⟩
abbrev cX12_moveRow : ByteArray := prog_14_method_106_code
def yX12_moveRow : MethodName := ⟨RX12, "moveRow", "([IIZ)V"⟩
abbrev cX12_moveAll : ByteArray := prog_14_method_107_code
def yX12_moveAll : MethodName := ⟨RX12, "moveAll", "(Z)V"⟩
abbrev cX12_keep : ByteArray := prog_14_method_108_code
def yX12_keep : MethodName := ⟨RX12, "keep", "()I"⟩
abbrev cX12_again : ByteArray := prog_14_method_109_code
def yX12_again : MethodName := ⟨RX12, "again", "()I"⟩
def RJ6 : String := "java/lang/Integer"
def TJ6 : u_T := fun k => match k with
  | _ => ("", "", "", false)
def tyJ6 : Nat → FieldType := fun k => match k with
  | _ => .int
abbrev wsJ60 : List Cond := u_ws RJ6 TJ6 0
theorem nmJ6 : ∀ a, a < 0 → ∀ b, b < 0 → a ≠ b → (TJ6 a).2.1 ≠ (TJ6 b).2.1 := by decide +kernel
theorem tyJ6_ok : ∀ k, k < 0 → parseFieldDescriptor (TJ6 k).2.2.1 = some (tyJ6 k) := by decide +kernel
abbrev cJ6_bitCount_0f7a4 : ByteArray := prog_15_method_49_code
def yJ6_bitCount_0f7a4 : MethodName := ⟨RJ6, "bitCount", "(I)I"⟩
def RJ9 : String := "java/lang/Math"
def TJ9 : u_T := fun k => match k with
  | _ => ("", "", "", false)
def tyJ9 : Nat → FieldType := fun k => match k with
  | _ => .int
abbrev wsJ90 : List Cond := u_ws RJ9 TJ9 0
theorem nmJ9 : ∀ a, a < 0 → ∀ b, b < 0 → a ≠ b → (TJ9 a).2.1 ≠ (TJ9 b).2.1 := by decide +kernel
theorem tyJ9_ok : ∀ k, k < 0 → parseFieldDescriptor (TJ9 k).2.2.1 = some (tyJ9 k) := by decide +kernel
abbrev cJ9_abs_067f4 : ByteArray := prog_16_method_61_code
def yJ9_abs_067f4 : MethodName := ⟨RJ9, "abs", "(J)J"⟩
abbrev cJ9_max_7cf53 : ByteArray := prog_16_method_65_code
def yJ9_max_7cf53 : MethodName := ⟨RJ9, "max", "(II)I"⟩
abbrev cJ9_max_f86c9 : ByteArray := prog_16_method_66_code
def yJ9_max_f86c9 : MethodName := ⟨RJ9, "max", "(JJ)J"⟩
abbrev cJ9_min_7cf53 : ByteArray := prog_16_method_69_code
def yJ9_min_7cf53 : MethodName := ⟨RJ9, "min", "(II)I"⟩
def RJ0 : String := "java/lang/String"
def TJ0 : u_T := fun k => match k with
  | _ => ("", "", "", false)
def tyJ0 : Nat → FieldType := fun k => match k with
  | _ => .int
abbrev wsJ00 : List Cond := u_ws RJ0 TJ0 0
theorem nmJ0 : ∀ a, a < 0 → ∀ b, b < 0 → a ≠ b → (TJ0 a).2.1 ≠ (TJ0 b).2.1 := by decide +kernel
theorem tyJ0_ok : ∀ k, k < 0 → parseFieldDescriptor (TJ0 k).2.2.1 = some (tyJ0 k) := by decide +kernel
abbrev cJ0_length_8abf5 : ByteArray := prog_17_method_54_code
def yJ0_length_8abf5 : MethodName := ⟨RJ0, "length", "()I"⟩
abbrev cJ0_charAt_5068e : ByteArray := prog_17_method_56_code
def yJ0_charAt_5068e : MethodName := ⟨RJ0, "charAt", "(I)C"⟩
abbrev cJ0_coder_7d493 : ByteArray := prog_17_method_152_code
def yJ0_coder_7d493 : MethodName := ⟨RJ0, "coder", "()B"⟩
abbrev cJ0_isLatin1_aae02 : ByteArray := prog_17_method_154_code
def yJ0_isLatin1_aae02 : MethodName := ⟨RJ0, "isLatin1", "()Z"⟩
abbrev cJ0_checkIndex_df160 : ByteArray := prog_17_method_155_code
def yJ0_checkIndex_df160 : MethodName := ⟨RJ0, "checkIndex", "(II)V"⟩
def RJ1 : String := "java/lang/StringLatin1"
def TJ1 : u_T := fun k => match k with
  | _ => ("", "", "", false)
def tyJ1 : Nat → FieldType := fun k => match k with
  | _ => .int
abbrev wsJ10 : List Cond := u_ws RJ1 TJ1 0
theorem nmJ1 : ∀ a, a < 0 → ∀ b, b < 0 → a ≠ b → (TJ1 a).2.1 ≠ (TJ1 b).2.1 := by decide +kernel
theorem tyJ1_ok : ∀ k, k < 0 → parseFieldDescriptor (TJ1 k).2.2.1 = some (tyJ1 k) := by decide +kernel
abbrev cJ1_charAt_3b067 : ByteArray := prog_18_method_2_code
def yJ1_charAt_3b067 : MethodName := ⟨RJ1, "charAt", "([BI)C"⟩
def RJ2 : String := "java/lang/StringUTF16"
def TJ2 : u_T := fun k => match k with
  | _ => ("", "", "", false)
def tyJ2 : Nat → FieldType := fun k => match k with
  | _ => .int
abbrev wsJ20 : List Cond := u_ws RJ2 TJ2 0
theorem nmJ2 : ∀ a, a < 0 → ∀ b, b < 0 → a ≠ b → (TJ2 a).2.1 ≠ (TJ2 b).2.1 := by decide +kernel
theorem tyJ2_ok : ∀ k, k < 0 → parseFieldDescriptor (TJ2 k).2.2.1 = some (tyJ2 k) := by decide +kernel
abbrev cJ2_getChar_3b067 : ByteArray := prog_19_method_5_code
def yJ2_getChar_3b067 : MethodName := ⟨RJ2, "getChar", "([BI)C"⟩
abbrev cJ2_length_9d52b : ByteArray := prog_19_method_6_code
def yJ2_length_9d52b : MethodName := ⟨RJ2, "length", "([B)I"⟩
abbrev cJ2_charAt_3b067 : ByteArray := prog_19_method_83_code
def yJ2_charAt_3b067 : MethodName := ⟨RJ2, "charAt", "([BI)C"⟩
abbrev cJ2_checkIndex_2214a : ByteArray := prog_19_method_91_code
def yJ2_checkIndex_2214a : MethodName := ⟨RJ2, "checkIndex", "(I[B)V"⟩
def RJ10 : String := "java/lang/System"
def TJ10 : u_T := fun k => match k with
  | _ => ("", "", "", false)
def tyJ10 : Nat → FieldType := fun k => match k with
  | _ => .int
abbrev wsJ100 : List Cond := u_ws RJ10 TJ10 0
theorem nmJ10 : ∀ a, a < 0 → ∀ b, b < 0 → a ≠ b → (TJ10 a).2.1 ≠ (TJ10 b).2.1 := by decide +kernel
theorem tyJ10_ok : ∀ k, k < 0 → parseFieldDescriptor (TJ10 k).2.2.1 = some (tyJ10 k) := by decide +kernel
def RJ3 : String := "jdk/internal/util/Preconditions"
def TJ3 : u_T := fun k => match k with
  | _ => ("", "", "", false)
def tyJ3 : Nat → FieldType := fun k => match k with
  | _ => .int
abbrev wsJ30 : List Cond := u_ws RJ3 TJ3 0
theorem nmJ3 : ∀ a, a < 0 → ∀ b, b < 0 → a ≠ b → (TJ3 a).2.1 ≠ (TJ3 b).2.1 := by decide +kernel
theorem tyJ3_ok : ∀ k, k < 0 → parseFieldDescriptor (TJ3 k).2.2.1 = some (tyJ3 k) := by decide +kernel
abbrev cJ3_checkIndex_8e157 : ByteArray := prog_21_method_11_code
def yJ3_checkIndex_8e157 : MethodName := ⟨RJ3, "checkIndex", "(IILjava/util/function/BiFunction;)I"⟩
def RL : String := "LifeNoesLaw"
abbrev cL_law : ByteArray := code
def yL_law : MethodName := ⟨RL, "law", "([I)Z"⟩
abbrev vwCl : List vw_C := [(RX0, TX0, 3), (RX1, TX1, 3), (RX2, TX2, 3), (RX3, TX3, 3), (RX4, TX4, 3), (RX5, TX5, 3), (RX6, TX6, 7), (RX7, TX7, 3), (RX8, TX8, 3), (RX9, TX9, 13), (RX10, TX10, 3), (RX11, TX11, 16), (RX12, TX12, 53)]
end
section
/-! the words of the tables, each with its proof that it is one of gT -/
def gT : List Cond := lw_tbl.filter goodWord
theorem gT_good : ∀ w ∈ gT, goodWord w = true := fun w h => (List.mem_filter.mp h).2
theorem gT_in : ∀ w ∈ gT, w ∈ lw_tbl := fun w h => (List.mem_filter.mp h).1
theorem gin_1 {w : Cond} (h : w ∈ tables_1_1) (g : goodWord w = true) : w ∈ gT := List.mem_filter.mpr ⟨List.mem_append_right _ (List.mem_append_left _ h), g⟩
theorem gin_2 {w : Cond} (h : w ∈ tables_1_2) (g : goodWord w = true) : w ∈ gT := List.mem_filter.mpr ⟨List.mem_append_right _ (List.mem_append_right _ (List.mem_append_left _ h)), g⟩
theorem gin_3 {w : Cond} (h : w ∈ tables_1_3) (g : goodWord w = true) : w ∈ gT := List.mem_filter.mpr ⟨List.mem_append_right _ (List.mem_append_right _ (List.mem_append_right _ (List.mem_append_left _ h))), g⟩
theorem gin_4 {w : Cond} (h : w ∈ tables_1_4) (g : goodWord w = true) : w ∈ gT := List.mem_filter.mpr ⟨List.mem_append_right _ (List.mem_append_right _ (List.mem_append_right _ (List.mem_append_right _ (List.mem_append_left _ h)))), g⟩
theorem gin_5 {w : Cond} (h : w ∈ tables_1_5) (g : goodWord w = true) : w ∈ gT := List.mem_filter.mpr ⟨List.mem_append_right _ (List.mem_append_right _ (List.mem_append_right _ (List.mem_append_right _ (List.mem_append_right _ (List.mem_append_left _ h))))), g⟩
theorem gin_6 {w : Cond} (h : w ∈ tables_1_6) (g : goodWord w = true) : w ∈ gT := List.mem_filter.mpr ⟨List.mem_append_right _ (List.mem_append_right _ (List.mem_append_right _ (List.mem_append_right _ (List.mem_append_right _ (List.mem_append_right _ (List.mem_append_left _ h)))))), g⟩
theorem gin_7 {w : Cond} (h : w ∈ tables_1_7) (g : goodWord w = true) : w ∈ gT := List.mem_filter.mpr ⟨List.mem_append_right _ (List.mem_append_right _ (List.mem_append_right _ (List.mem_append_right _ (List.mem_append_right _ (List.mem_append_right _ (List.mem_append_right _ h)))))), g⟩
theorem gip_1 {q : MethodName × Nat} (h : q ∈ lw_privs_1) (g : goodWord (Cond.selects q.1.cls q.1 q.1) = true) : Cond.selects q.1.cls q.1 q.1 ∈ gT := List.mem_filter.mpr ⟨List.mem_append_left _ (List.mem_map.mpr ⟨q, (List.mem_append_left _ h), rfl⟩), g⟩
theorem gip_2 {q : MethodName × Nat} (h : q ∈ lw_privs_2) (g : goodWord (Cond.selects q.1.cls q.1 q.1) = true) : Cond.selects q.1.cls q.1 q.1 ∈ gT := List.mem_filter.mpr ⟨List.mem_append_left _ (List.mem_map.mpr ⟨q, (List.mem_append_right _ (List.mem_append_left _ h)), rfl⟩), g⟩
theorem gip_3 {q : MethodName × Nat} (h : q ∈ lw_privs_3) (g : goodWord (Cond.selects q.1.cls q.1 q.1) = true) : Cond.selects q.1.cls q.1 q.1 ∈ gT := List.mem_filter.mpr ⟨List.mem_append_left _ (List.mem_map.mpr ⟨q, (List.mem_append_right _ (List.mem_append_right _ (List.mem_append_left _ h))), rfl⟩), g⟩
theorem gip_4 {q : MethodName × Nat} (h : q ∈ lw_privs_4) (g : goodWord (Cond.selects q.1.cls q.1 q.1) = true) : Cond.selects q.1.cls q.1 q.1 ∈ gT := List.mem_filter.mpr ⟨List.mem_append_left _ (List.mem_map.mpr ⟨q, (List.mem_append_right _ (List.mem_append_right _ (List.mem_append_right _ (List.mem_append_left _ h)))), rfl⟩), g⟩
theorem gip_5 {q : MethodName × Nat} (h : q ∈ lw_privs_5) (g : goodWord (Cond.selects q.1.cls q.1 q.1) = true) : Cond.selects q.1.cls q.1 q.1 ∈ gT := List.mem_filter.mpr ⟨List.mem_append_left _ (List.mem_map.mpr ⟨q, (List.mem_append_right _ (List.mem_append_right _ (List.mem_append_right _ (List.mem_append_right _ (List.mem_append_left _ h))))), rfl⟩), g⟩
theorem gip_6 {q : MethodName × Nat} (h : q ∈ lw_privs_6) (g : goodWord (Cond.selects q.1.cls q.1 q.1) = true) : Cond.selects q.1.cls q.1 q.1 ∈ gT := List.mem_filter.mpr ⟨List.mem_append_left _ (List.mem_map.mpr ⟨q, (List.mem_append_right _ (List.mem_append_right _ (List.mem_append_right _ (List.mem_append_right _ (List.mem_append_right _ h))))), rfl⟩), g⟩
theorem wd_0 : Cond.initialized "LifeNoesLaw" ∈ gT := gin_1 (List.mem_of_getElem? (i := 0) rfl) rfl
theorem wd_1 : Cond.initialized "LifeNoes" ∈ gT := gin_1 (List.mem_of_getElem? (i := 1) rfl) rfl
theorem wd_2 : Cond.initialized "LifeNoes$Village" ∈ gT := gin_1 (List.mem_of_getElem? (i := 2) rfl) rfl
theorem wd_3 : Cond.initialized "LifeNoes$Ahead" ∈ gT := gin_1 (List.mem_of_getElem? (i := 3) rfl) rfl
theorem wd_4 : Cond.initialized "LifeNoes$TextReader" ∈ gT := gin_1 (List.mem_of_getElem? (i := 4) rfl) rfl
theorem wd_5 : Cond.initialized "LifeNoes$Sheet" ∈ gT := gin_1 (List.mem_of_getElem? (i := 5) rfl) rfl
theorem wd_6 : Cond.initialized "LifeNoes$Trace" ∈ gT := gin_1 (List.mem_of_getElem? (i := 6) rfl) rfl
theorem wd_7 : Cond.initialized "LifeNoes$Sayer" ∈ gT := gin_1 (List.mem_of_getElem? (i := 7) rfl) rfl
theorem wd_8 : Cond.initialized "LifeNoes$Quick" ∈ gT := gin_1 (List.mem_of_getElem? (i := 8) rfl) rfl
theorem wd_9 : Cond.initialized "LifeNoes$Bar" ∈ gT := gin_1 (List.mem_of_getElem? (i := 9) rfl) rfl
theorem wd_10 : Cond.initialized "LifeNoes$Wait" ∈ gT := gin_1 (List.mem_of_getElem? (i := 10) rfl) rfl
theorem wd_11 : Cond.initialized "LifeNoes$League" ∈ gT := gin_1 (List.mem_of_getElem? (i := 11) rfl) rfl
theorem wd_12 : Cond.initialized "LifeNoes$Told" ∈ gT := gin_1 (List.mem_of_getElem? (i := 12) rfl) rfl
theorem wd_13 : Cond.initialized "LifeNoesModel" ∈ gT := gin_1 (List.mem_of_getElem? (i := 13) rfl) rfl
theorem wd_14 : Cond.initialized "java/lang/Math" ∈ gT := gin_1 (List.mem_of_getElem? (i := 14) rfl) rfl
theorem wd_15 : Cond.initialized "java/lang/System" ∈ gT := gin_1 (List.mem_of_getElem? (i := 15) rfl) rfl
theorem wd_16 : Cond.initialized "java/lang/String" ∈ gT := gin_1 (List.mem_of_getElem? (i := 16) rfl) rfl
theorem wd_17 : Cond.initialized "java/lang/StringLatin1" ∈ gT := gin_1 (List.mem_of_getElem? (i := 17) rfl) rfl
theorem wd_18 : Cond.initialized "jdk/internal/util/Preconditions" ∈ gT := gin_1 (List.mem_of_getElem? (i := 18) rfl) rfl
theorem wd_19 : Cond.initialized "java/lang/StringUTF16" ∈ gT := gin_1 (List.mem_of_getElem? (i := 19) rfl) rfl
theorem wd_20 : Cond.initialized "java/lang/Integer" ∈ gT := gin_1 (List.mem_of_getElem? (i := 20) rfl) rfl
theorem wd_21 : Cond.classLink "LifeNoesLaw" 7 "LifeNoes" ∈ gT := gin_1 (List.mem_of_getElem? (i := 21) rfl) rfl
theorem wd_22 : Cond.instantiable "LifeNoes" 16 ∈ gT := gin_1 (List.mem_of_getElem? (i := 22) rfl) rfl
theorem wd_23 : Cond.methodLink "LifeNoesLaw" 9 ⟨"LifeNoes", "<init>", "()V"⟩ ∈ gT := gin_1 (List.mem_of_getElem? (i := 23) rfl) rfl
theorem wd_24 : Cond.instanceMethod ⟨"LifeNoes", "<init>", "()V"⟩ ∈ gT := gin_1 (List.mem_of_getElem? (i := 24) rfl) rfl
theorem wd_25 : Cond.code ⟨"LifeNoes", "<init>", "()V"⟩ prog_1_method_1_code 2 none ∈ gT := gin_1 (List.mem_of_getElem? (i := 25) rfl) rfl
theorem wd_26 : Cond.methodLink "LifeNoes" 1 ⟨"java/lang/Object", "<init>", "()V"⟩ ∈ gT := gin_1 (List.mem_of_getElem? (i := 26) rfl) rfl
theorem wd_27 : Cond.instanceMethod ⟨"java/lang/Object", "<init>", "()V"⟩ ∈ gT := gin_1 (List.mem_of_getElem? (i := 27) rfl) rfl
theorem wd_28 : Cond.code ⟨"java/lang/Object", "<init>", "()V"⟩ object_method_1_code 1 none ∈ gT := gin_1 (List.mem_of_getElem? (i := 28) rfl) rfl
theorem wd_29 : Cond.classLink "LifeNoes" 7 "LifeNoes$Village" ∈ gT := gin_1 (List.mem_of_getElem? (i := 29) rfl) rfl
theorem wd_30 : Cond.instantiable "LifeNoes$Village" 13 ∈ gT := gin_1 (List.mem_of_getElem? (i := 30) rfl) rfl
theorem wd_31 : Cond.methodLink "LifeNoes" 9 ⟨"LifeNoes$Village", "<init>", "()V"⟩ ∈ gT := gin_1 (List.mem_of_getElem? (i := 31) rfl) rfl
theorem wd_32 : Cond.instanceMethod ⟨"LifeNoes$Village", "<init>", "()V"⟩ ∈ gT := gin_1 (List.mem_of_getElem? (i := 32) rfl) rfl
theorem wd_33 : Cond.code ⟨"LifeNoes$Village", "<init>", "()V"⟩ prog_11_method_1_code 1 none ∈ gT := gin_1 (List.mem_of_getElem? (i := 33) rfl) rfl
theorem wd_34 : Cond.methodLink "LifeNoes$Village" 3 ⟨"java/lang/Object", "<init>", "()V"⟩ ∈ gT := gin_1 (List.mem_of_getElem? (i := 34) rfl) rfl
theorem wd_35 : Cond.classLink "LifeNoes$Village" 37 "[[I" ∈ gT := gin_1 (List.mem_of_getElem? (i := 35) rfl) rfl
theorem wd_37 : Cond.fieldLink "LifeNoes$Village" 9 "LifeNoes$Village" "people" "I" ∈ gT := gin_1 (List.mem_of_getElem? (i := 37) rfl) rfl
theorem wd_38 : Cond.fieldLink "LifeNoes" 124 "LifeNoes$Village" "people" "I" ∈ gT := gin_1 (List.mem_of_getElem? (i := 38) rfl) rfl
theorem wd_39 : Cond.fieldLink "LifeNoes$TextReader" 96 "LifeNoes$Village" "people" "I" ∈ gT := gin_1 (List.mem_of_getElem? (i := 39) rfl) rfl
theorem wd_40 : Cond.fieldLink "LifeNoes$Ahead" 79 "LifeNoes$Village" "people" "I" ∈ gT := gin_1 (List.mem_of_getElem? (i := 40) rfl) rfl
theorem wd_41 : Cond.fieldLink "LifeNoes$Village" 15 "LifeNoes$Village" "kind" "[I" ∈ gT := gin_1 (List.mem_of_getElem? (i := 41) rfl) rfl
theorem wd_42 : Cond.fieldLink "LifeNoes" 135 "LifeNoes$Village" "kind" "[I" ∈ gT := gin_1 (List.mem_of_getElem? (i := 42) rfl) rfl
theorem wd_43 : Cond.fieldLink "LifeNoes$Ahead" 109 "LifeNoes$Village" "kind" "[I" ∈ gT := gin_1 (List.mem_of_getElem? (i := 43) rfl) rfl
theorem wd_44 : Cond.fieldLink "LifeNoes$Village" 19 "LifeNoes$Village" "a" "[I" ∈ gT := gin_1 (List.mem_of_getElem? (i := 44) rfl) rfl
theorem wd_45 : Cond.fieldLink "LifeNoes" 138 "LifeNoes$Village" "a" "[I" ∈ gT := gin_1 (List.mem_of_getElem? (i := 45) rfl) rfl
theorem wd_46 : Cond.fieldLink "LifeNoes$Ahead" 112 "LifeNoes$Village" "a" "[I" ∈ gT := gin_1 (List.mem_of_getElem? (i := 46) rfl) rfl
theorem wd_47 : Cond.fieldLink "LifeNoes$Village" 22 "LifeNoes$Village" "age" "[I" ∈ gT := gin_1 (List.mem_of_getElem? (i := 47) rfl) rfl
theorem wd_48 : Cond.fieldLink "LifeNoes" 141 "LifeNoes$Village" "age" "[I" ∈ gT := gin_1 (List.mem_of_getElem? (i := 48) rfl) rfl
theorem wd_49 : Cond.fieldLink "LifeNoes$Village" 25 "LifeNoes$Village" "noes" "[I" ∈ gT := gin_1 (List.mem_of_getElem? (i := 49) rfl) rfl
theorem wd_50 : Cond.fieldLink "LifeNoes" 144 "LifeNoes$Village" "noes" "[I" ∈ gT := gin_1 (List.mem_of_getElem? (i := 50) rfl) rfl
theorem wd_51 : Cond.fieldLink "LifeNoes$Village" 28 "LifeNoes$Village" "had" "[I" ∈ gT := gin_1 (List.mem_of_getElem? (i := 51) rfl) rfl
theorem wd_52 : Cond.fieldLink "LifeNoes" 197 "LifeNoes$Village" "had" "[I" ∈ gT := gin_1 (List.mem_of_getElem? (i := 52) rfl) rfl
theorem wd_53 : Cond.fieldLink "LifeNoes$Village" 31 "LifeNoes$Village" "proposals" "I" ∈ gT := gin_1 (List.mem_of_getElem? (i := 53) rfl) rfl
theorem wd_54 : Cond.fieldLink "LifeNoes$Ahead" 51 "LifeNoes$Village" "proposals" "I" ∈ gT := gin_1 (List.mem_of_getElem? (i := 54) rfl) rfl
theorem wd_55 : Cond.fieldLink "LifeNoes$TextReader" 113 "LifeNoes$Village" "proposals" "I" ∈ gT := gin_1 (List.mem_of_getElem? (i := 55) rfl) rfl
theorem wd_56 : Cond.fieldLink "LifeNoes" 151 "LifeNoes$Village" "proposals" "I" ∈ gT := gin_1 (List.mem_of_getElem? (i := 56) rfl) rfl
theorem wd_57 : Cond.fieldLink "LifeNoes$Village" 34 "LifeNoes$Village" "weight" "[I" ∈ gT := gin_1 (List.mem_of_getElem? (i := 57) rfl) rfl
theorem wd_58 : Cond.fieldLink "LifeNoes$Ahead" 54 "LifeNoes$Village" "weight" "[I" ∈ gT := gin_1 (List.mem_of_getElem? (i := 58) rfl) rfl
theorem wd_59 : Cond.fieldLink "LifeNoes" 161 "LifeNoes$Village" "weight" "[I" ∈ gT := gin_1 (List.mem_of_getElem? (i := 59) rfl) rfl
theorem wd_60 : Cond.fieldLink "LifeNoes$Village" 39 "LifeNoes$Village" "worth" "[[I" ∈ gT := gin_1 (List.mem_of_getElem? (i := 60) rfl) rfl
theorem wd_61 : Cond.fieldLink "LifeNoes$Ahead" 75 "LifeNoes$Village" "worth" "[[I" ∈ gT := gin_1 (List.mem_of_getElem? (i := 61) rfl) rfl
theorem wd_62 : Cond.fieldLink "LifeNoes$TextReader" 128 "LifeNoes$Village" "worth" "[[I" ∈ gT := gin_1 (List.mem_of_getElem? (i := 62) rfl) rfl
theorem wd_63 : Cond.fieldLink "LifeNoes" 164 "LifeNoes$Village" "worth" "[[I" ∈ gT := gin_1 (List.mem_of_getElem? (i := 63) rfl) rfl
theorem wd_64 : Cond.fieldLink "LifeNoes$Village" 42 "LifeNoes$Village" "law" "[I" ∈ gT := gin_1 (List.mem_of_getElem? (i := 64) rfl) rfl
theorem wd_65 : Cond.fieldLink "LifeNoes$Ahead" 40 "LifeNoes$Village" "law" "[I" ∈ gT := gin_1 (List.mem_of_getElem? (i := 65) rfl) rfl
theorem wd_66 : Cond.fieldLink "LifeNoes$TextReader" 90 "LifeNoes$Village" "law" "[I" ∈ gT := gin_1 (List.mem_of_getElem? (i := 66) rfl) rfl
theorem wd_67 : Cond.fieldLink "LifeNoes" 171 "LifeNoes$Village" "law" "[I" ∈ gT := gin_1 (List.mem_of_getElem? (i := 67) rfl) rfl
theorem wd_68 : Cond.fieldLink "LifeNoes$Village" 45 "LifeNoes$Village" "z" "I" ∈ gT := gin_1 (List.mem_of_getElem? (i := 68) rfl) rfl
theorem wd_69 : Cond.fieldLink "LifeNoes" 114 "LifeNoes$Village" "z" "I" ∈ gT := gin_1 (List.mem_of_getElem? (i := 69) rfl) rfl
theorem wd_70 : Cond.fieldLink "LifeNoes$Village" 48 "LifeNoes$Village" "fell" "I" ∈ gT := gin_1 (List.mem_of_getElem? (i := 70) rfl) rfl
theorem wd_71 : Cond.fieldLink "LifeNoes" 302 "LifeNoes$Village" "fell" "I" ∈ gT := gin_1 (List.mem_of_getElem? (i := 71) rfl) rfl
theorem wd_72 : Cond.fieldLink "LifeNoes$Village" 51 "LifeNoes$Village" "passed" "I" ∈ gT := gin_1 (List.mem_of_getElem? (i := 72) rfl) rfl
theorem wd_73 : Cond.fieldLink "LifeNoes" 305 "LifeNoes$Village" "passed" "I" ∈ gT := gin_1 (List.mem_of_getElem? (i := 73) rfl) rfl
theorem wd_74 : Cond.lays "LifeNoes$Village" "LifeNoes$Village" "people" "I" ∈ gT := gin_1 (List.mem_of_getElem? (i := 74) rfl) rfl
theorem wd_75 : Cond.soleField "LifeNoes$Village" "people" ∈ gT := gin_1 (List.mem_of_getElem? (i := 75) rfl) rfl
theorem wd_76 : Cond.laysFinal "LifeNoes$Village" "LifeNoes$Village" "kind" "[I" ∈ gT := gin_1 (List.mem_of_getElem? (i := 76) rfl) rfl
theorem wd_77 : Cond.soleField "LifeNoes$Village" "kind" ∈ gT := gin_1 (List.mem_of_getElem? (i := 77) rfl) rfl
theorem wd_78 : Cond.laysFinal "LifeNoes$Village" "LifeNoes$Village" "a" "[I" ∈ gT := gin_1 (List.mem_of_getElem? (i := 78) rfl) rfl
theorem wd_79 : Cond.soleField "LifeNoes$Village" "a" ∈ gT := gin_1 (List.mem_of_getElem? (i := 79) rfl) rfl
theorem wd_80 : Cond.laysFinal "LifeNoes$Village" "LifeNoes$Village" "age" "[I" ∈ gT := gin_1 (List.mem_of_getElem? (i := 80) rfl) rfl
theorem wd_81 : Cond.soleField "LifeNoes$Village" "age" ∈ gT := gin_1 (List.mem_of_getElem? (i := 81) rfl) rfl
theorem wd_82 : Cond.laysFinal "LifeNoes$Village" "LifeNoes$Village" "noes" "[I" ∈ gT := gin_1 (List.mem_of_getElem? (i := 82) rfl) rfl
theorem wd_83 : Cond.soleField "LifeNoes$Village" "noes" ∈ gT := gin_1 (List.mem_of_getElem? (i := 83) rfl) rfl
theorem wd_84 : Cond.laysFinal "LifeNoes$Village" "LifeNoes$Village" "had" "[I" ∈ gT := gin_1 (List.mem_of_getElem? (i := 84) rfl) rfl
theorem wd_85 : Cond.soleField "LifeNoes$Village" "had" ∈ gT := gin_1 (List.mem_of_getElem? (i := 85) rfl) rfl
theorem wd_86 : Cond.lays "LifeNoes$Village" "LifeNoes$Village" "proposals" "I" ∈ gT := gin_1 (List.mem_of_getElem? (i := 86) rfl) rfl
theorem wd_87 : Cond.soleField "LifeNoes$Village" "proposals" ∈ gT := gin_1 (List.mem_of_getElem? (i := 87) rfl) rfl
theorem wd_88 : Cond.laysFinal "LifeNoes$Village" "LifeNoes$Village" "weight" "[I" ∈ gT := gin_1 (List.mem_of_getElem? (i := 88) rfl) rfl
theorem wd_89 : Cond.soleField "LifeNoes$Village" "weight" ∈ gT := gin_1 (List.mem_of_getElem? (i := 89) rfl) rfl
theorem wd_90 : Cond.laysFinal "LifeNoes$Village" "LifeNoes$Village" "worth" "[[I" ∈ gT := gin_1 (List.mem_of_getElem? (i := 90) rfl) rfl
theorem wd_91 : Cond.soleField "LifeNoes$Village" "worth" ∈ gT := gin_1 (List.mem_of_getElem? (i := 91) rfl) rfl
theorem wd_92 : Cond.laysFinal "LifeNoes$Village" "LifeNoes$Village" "law" "[I" ∈ gT := gin_1 (List.mem_of_getElem? (i := 92) rfl) rfl
theorem wd_93 : Cond.soleField "LifeNoes$Village" "law" ∈ gT := gin_1 (List.mem_of_getElem? (i := 93) rfl) rfl
theorem wd_94 : Cond.lays "LifeNoes$Village" "LifeNoes$Village" "z" "I" ∈ gT := gin_1 (List.mem_of_getElem? (i := 94) rfl) rfl
theorem wd_95 : Cond.soleField "LifeNoes$Village" "z" ∈ gT := gin_1 (List.mem_of_getElem? (i := 95) rfl) rfl
theorem wd_96 : Cond.lays "LifeNoes$Village" "LifeNoes$Village" "fell" "I" ∈ gT := gin_1 (List.mem_of_getElem? (i := 96) rfl) rfl
theorem wd_97 : Cond.soleField "LifeNoes$Village" "fell" ∈ gT := gin_1 (List.mem_of_getElem? (i := 97) rfl) rfl
theorem wd_98 : Cond.lays "LifeNoes$Village" "LifeNoes$Village" "passed" "I" ∈ gT := gin_1 (List.mem_of_getElem? (i := 98) rfl) rfl
theorem wd_99 : Cond.soleField "LifeNoes$Village" "passed" ∈ gT := gin_1 (List.mem_of_getElem? (i := 99) rfl) rfl
theorem wd_100 : Cond.superclass "LifeNoes$Village" "java/lang/Object" ∈ gT := gin_1 (List.mem_of_getElem? (i := 100) rfl) rfl
theorem wd_101 : Cond.arrayClass .int ∈ gT := gin_1 (List.mem_of_getElem? (i := 101) rfl) rfl
theorem wd_102 : Cond.classLink "LifeNoes" 23 "LifeNoes$Ahead" ∈ gT := gin_1 (List.mem_of_getElem? (i := 102) rfl) rfl
theorem wd_103 : Cond.instantiable "LifeNoes$Ahead" 3 ∈ gT := gin_1 (List.mem_of_getElem? (i := 103) rfl) rfl
theorem wd_105 : Cond.instanceMethod ⟨"LifeNoes$Ahead", "<init>", "()V"⟩ ∈ gT := gin_1 (List.mem_of_getElem? (i := 105) rfl) rfl
theorem wd_106 : Cond.code ⟨"LifeNoes$Ahead", "<init>", "()V"⟩ prog_2_method_1_code 1 none ∈ gT := gin_1 (List.mem_of_getElem? (i := 106) rfl) rfl
theorem wd_107 : Cond.methodLink "LifeNoes$Ahead" 3 ⟨"java/lang/Object", "<init>", "()V"⟩ ∈ gT := gin_1 (List.mem_of_getElem? (i := 107) rfl) rfl
theorem wd_108 : Cond.classLink "LifeNoes$Ahead" 9 "LifeNoes$Village" ∈ gT := gin_1 (List.mem_of_getElem? (i := 108) rfl) rfl
theorem wd_109 : Cond.methodLink "LifeNoes$Ahead" 11 ⟨"LifeNoes$Village", "<init>", "()V"⟩ ∈ gT := gin_1 (List.mem_of_getElem? (i := 109) rfl) rfl
theorem wd_110 : Cond.fieldLink "LifeNoes$Ahead" 12 "LifeNoes$Ahead" "v" "LLifeNoes$Village;" ∈ gT := gin_1 (List.mem_of_getElem? (i := 110) rfl) rfl
theorem wd_111 : Cond.fieldLink "LifeNoes$Ahead" 18 "LifeNoes$Ahead" "power" "[J" ∈ gT := gin_1 (List.mem_of_getElem? (i := 111) rfl) rfl
theorem wd_112 : Cond.fieldLink "LifeNoes" 211 "LifeNoes$Ahead" "power" "[J" ∈ gT := gin_1 (List.mem_of_getElem? (i := 112) rfl) rfl
theorem wd_113 : Cond.fieldLink "LifeNoes$Ahead" 22 "LifeNoes$Ahead" "measure" "I" ∈ gT := gin_1 (List.mem_of_getElem? (i := 113) rfl) rfl
theorem wd_114 : Cond.laysFinal "LifeNoes$Ahead" "LifeNoes$Ahead" "v" "LLifeNoes$Village;" ∈ gT := gin_1 (List.mem_of_getElem? (i := 114) rfl) rfl
theorem wd_115 : Cond.soleField "LifeNoes$Ahead" "v" ∈ gT := gin_1 (List.mem_of_getElem? (i := 115) rfl) rfl
theorem wd_116 : Cond.laysFinal "LifeNoes$Ahead" "LifeNoes$Ahead" "power" "[J" ∈ gT := gin_1 (List.mem_of_getElem? (i := 116) rfl) rfl
theorem wd_117 : Cond.soleField "LifeNoes$Ahead" "power" ∈ gT := gin_1 (List.mem_of_getElem? (i := 117) rfl) rfl
theorem wd_118 : Cond.lays "LifeNoes$Ahead" "LifeNoes$Ahead" "measure" "I" ∈ gT := gin_1 (List.mem_of_getElem? (i := 118) rfl) rfl
theorem wd_119 : Cond.soleField "LifeNoes$Ahead" "measure" ∈ gT := gin_1 (List.mem_of_getElem? (i := 119) rfl) rfl
theorem wd_120 : Cond.superclass "LifeNoes$Ahead" "java/lang/Object" ∈ gT := gin_1 (List.mem_of_getElem? (i := 120) rfl) rfl
theorem wd_121 : Cond.arrayClass .long ∈ gT := gin_1 (List.mem_of_getElem? (i := 121) rfl) rfl
theorem wd_122 : Cond.classLink "LifeNoes" 30 "LifeNoes$TextReader" ∈ gT := gin_1 (List.mem_of_getElem? (i := 122) rfl) rfl
theorem wd_123 : Cond.instantiable "LifeNoes$TextReader" 7 ∈ gT := gin_1 (List.mem_of_getElem? (i := 123) rfl) rfl
theorem wd_125 : Cond.instanceMethod ⟨"LifeNoes$TextReader", "<init>", "()V"⟩ ∈ gT := gin_1 (List.mem_of_getElem? (i := 125) rfl) rfl
theorem wd_126 : Cond.code ⟨"LifeNoes$TextReader", "<init>", "()V"⟩ prog_8_method_1_code 1 none ∈ gT := gin_1 (List.mem_of_getElem? (i := 126) rfl) rfl
theorem wd_127 : Cond.methodLink "LifeNoes$TextReader" 3 ⟨"java/lang/Object", "<init>", "()V"⟩ ∈ gT := gin_1 (List.mem_of_getElem? (i := 127) rfl) rfl
theorem wd_128 : Cond.classLink "LifeNoes$TextReader" 9 "LifeNoes$Village" ∈ gT := gin_1 (List.mem_of_getElem? (i := 128) rfl) rfl
theorem wd_129 : Cond.methodLink "LifeNoes$TextReader" 11 ⟨"LifeNoes$Village", "<init>", "()V"⟩ ∈ gT := gin_1 (List.mem_of_getElem? (i := 129) rfl) rfl
theorem wd_130 : Cond.fieldLink "LifeNoes$TextReader" 12 "LifeNoes$TextReader" "made" "LLifeNoes$Village;" ∈ gT := gin_1 (List.mem_of_getElem? (i := 130) rfl) rfl
theorem wd_131 : Cond.fieldLink "LifeNoes" 117 "LifeNoes$TextReader" "made" "LLifeNoes$Village;" ∈ gT := gin_1 (List.mem_of_getElem? (i := 131) rfl) rfl
theorem wd_132 : Cond.fieldLink "LifeNoes$TextReader" 18 "LifeNoes$TextReader" "bytes" "[I" ∈ gT := gin_1 (List.mem_of_getElem? (i := 132) rfl) rfl
theorem wd_133 : Cond.fieldLink "LifeNoes$TextReader" 22 "LifeNoes$TextReader" "length" "I" ∈ gT := gin_1 (List.mem_of_getElem? (i := 133) rfl) rfl
theorem wd_134 : Cond.fieldLink "LifeNoes$TextReader" 26 "LifeNoes$TextReader" "at" "I" ∈ gT := gin_1 (List.mem_of_getElem? (i := 134) rfl) rfl
theorem wd_135 : Cond.fieldLink "LifeNoes$TextReader" 29 "LifeNoes$TextReader" "token" "I" ∈ gT := gin_1 (List.mem_of_getElem? (i := 135) rfl) rfl
theorem wd_136 : Cond.fieldLink "LifeNoes$TextReader" 32 "LifeNoes$TextReader" "start" "I" ∈ gT := gin_1 (List.mem_of_getElem? (i := 136) rfl) rfl
theorem wd_137 : Cond.fieldLink "LifeNoes" 111 "LifeNoes$TextReader" "start" "I" ∈ gT := gin_1 (List.mem_of_getElem? (i := 137) rfl) rfl
theorem wd_138 : Cond.fieldLink "LifeNoes$TextReader" 35 "LifeNoes$TextReader" "number" "I" ∈ gT := gin_1 (List.mem_of_getElem? (i := 138) rfl) rfl
theorem wd_139 : Cond.laysFinal "LifeNoes$TextReader" "LifeNoes$TextReader" "made" "LLifeNoes$Village;" ∈ gT := gin_1 (List.mem_of_getElem? (i := 139) rfl) rfl
theorem wd_140 : Cond.soleField "LifeNoes$TextReader" "made" ∈ gT := gin_1 (List.mem_of_getElem? (i := 140) rfl) rfl
theorem wd_141 : Cond.laysFinal "LifeNoes$TextReader" "LifeNoes$TextReader" "bytes" "[I" ∈ gT := gin_1 (List.mem_of_getElem? (i := 141) rfl) rfl
theorem wd_142 : Cond.soleField "LifeNoes$TextReader" "bytes" ∈ gT := gin_1 (List.mem_of_getElem? (i := 142) rfl) rfl
theorem wd_143 : Cond.lays "LifeNoes$TextReader" "LifeNoes$TextReader" "length" "I" ∈ gT := gin_1 (List.mem_of_getElem? (i := 143) rfl) rfl
theorem wd_144 : Cond.soleField "LifeNoes$TextReader" "length" ∈ gT := gin_1 (List.mem_of_getElem? (i := 144) rfl) rfl
theorem wd_145 : Cond.lays "LifeNoes$TextReader" "LifeNoes$TextReader" "at" "I" ∈ gT := gin_1 (List.mem_of_getElem? (i := 145) rfl) rfl
theorem wd_146 : Cond.soleField "LifeNoes$TextReader" "at" ∈ gT := gin_1 (List.mem_of_getElem? (i := 146) rfl) rfl
theorem wd_147 : Cond.lays "LifeNoes$TextReader" "LifeNoes$TextReader" "token" "I" ∈ gT := gin_1 (List.mem_of_getElem? (i := 147) rfl) rfl
theorem wd_148 : Cond.soleField "LifeNoes$TextReader" "token" ∈ gT := gin_1 (List.mem_of_getElem? (i := 148) rfl) rfl
theorem wd_149 : Cond.lays "LifeNoes$TextReader" "LifeNoes$TextReader" "start" "I" ∈ gT := gin_1 (List.mem_of_getElem? (i := 149) rfl) rfl
theorem wd_150 : Cond.soleField "LifeNoes$TextReader" "start" ∈ gT := gin_1 (List.mem_of_getElem? (i := 150) rfl) rfl
theorem wd_151 : Cond.lays "LifeNoes$TextReader" "LifeNoes$TextReader" "number" "I" ∈ gT := gin_1 (List.mem_of_getElem? (i := 151) rfl) rfl
theorem wd_152 : Cond.soleField "LifeNoes$TextReader" "number" ∈ gT := gin_1 (List.mem_of_getElem? (i := 152) rfl) rfl
theorem wd_153 : Cond.superclass "LifeNoes$TextReader" "java/lang/Object" ∈ gT := gin_1 (List.mem_of_getElem? (i := 153) rfl) rfl
theorem wd_154 : Cond.classLink "LifeNoes" 45 "[[I" ∈ gT := gin_1 (List.mem_of_getElem? (i := 154) rfl) rfl
theorem wd_155 : Cond.classLink "LifeNoes" 56 "LifeNoes$Sheet" ∈ gT := gin_1 (List.mem_of_getElem? (i := 155) rfl) rfl
theorem wd_157 : Cond.classLink "LifeNoes" 71 "LifeNoes$Sayer" ∈ gT := gin_1 (List.mem_of_getElem? (i := 157) rfl) rfl
theorem wd_159 : Cond.instantiable "LifeNoes$Sheet" 3 ∈ gT := gin_1 (List.mem_of_getElem? (i := 159) rfl) rfl
theorem wd_161 : Cond.instanceMethod ⟨"LifeNoes$Sheet", "<init>", "()V"⟩ ∈ gT := gin_1 (List.mem_of_getElem? (i := 161) rfl) rfl
theorem wd_162 : Cond.code ⟨"LifeNoes$Sheet", "<init>", "()V"⟩ prog_7_method_1_code 1 none ∈ gT := gin_1 (List.mem_of_getElem? (i := 162) rfl) rfl
theorem wd_163 : Cond.methodLink "LifeNoes$Sheet" 3 ⟨"java/lang/Object", "<init>", "()V"⟩ ∈ gT := gin_1 (List.mem_of_getElem? (i := 163) rfl) rfl
theorem wd_164 : Cond.fieldLink "LifeNoes$Sheet" 9 "LifeNoes$Sheet" "sort" "I" ∈ gT := gin_1 (List.mem_of_getElem? (i := 164) rfl) rfl
theorem wd_165 : Cond.fieldLink "LifeNoes" 244 "LifeNoes$Sheet" "sort" "I" ∈ gT := gin_1 (List.mem_of_getElem? (i := 165) rfl) rfl
theorem wd_166 : Cond.fieldLink "LifeNoes$Sheet" 15 "LifeNoes$Sheet" "length" "I" ∈ gT := gin_1 (List.mem_of_getElem? (i := 166) rfl) rfl
theorem wd_167 : Cond.fieldLink "LifeNoes" 247 "LifeNoes$Sheet" "length" "I" ∈ gT := gin_1 (List.mem_of_getElem? (i := 167) rfl) rfl
theorem wd_168 : Cond.fieldLink "LifeNoes$Sheet" 18 "LifeNoes$Sheet" "items" "[I" ∈ gT := gin_1 (List.mem_of_getElem? (i := 168) rfl) rfl
theorem wd_169 : Cond.fieldLink "LifeNoes" 255 "LifeNoes$Sheet" "items" "[I" ∈ gT := gin_1 (List.mem_of_getElem? (i := 169) rfl) rfl
theorem wd_170 : Cond.lays "LifeNoes$Sheet" "LifeNoes$Sheet" "sort" "I" ∈ gT := gin_1 (List.mem_of_getElem? (i := 170) rfl) rfl
theorem wd_171 : Cond.soleField "LifeNoes$Sheet" "sort" ∈ gT := gin_1 (List.mem_of_getElem? (i := 171) rfl) rfl
theorem wd_172 : Cond.lays "LifeNoes$Sheet" "LifeNoes$Sheet" "length" "I" ∈ gT := gin_1 (List.mem_of_getElem? (i := 172) rfl) rfl
theorem wd_173 : Cond.soleField "LifeNoes$Sheet" "length" ∈ gT := gin_1 (List.mem_of_getElem? (i := 173) rfl) rfl
theorem wd_174 : Cond.laysFinal "LifeNoes$Sheet" "LifeNoes$Sheet" "items" "[I" ∈ gT := gin_1 (List.mem_of_getElem? (i := 174) rfl) rfl
theorem wd_175 : Cond.soleField "LifeNoes$Sheet" "items" ∈ gT := gin_1 (List.mem_of_getElem? (i := 175) rfl) rfl
theorem wd_176 : Cond.superclass "LifeNoes$Sheet" "java/lang/Object" ∈ gT := gin_1 (List.mem_of_getElem? (i := 176) rfl) rfl
theorem wd_177 : Cond.classLink "LifeNoes" 78 "LifeNoes$Trace" ∈ gT := gin_1 (List.mem_of_getElem? (i := 177) rfl) rfl
theorem wd_178 : Cond.instantiable "LifeNoes$Trace" 3 ∈ gT := gin_1 (List.mem_of_getElem? (i := 178) rfl) rfl
theorem wd_180 : Cond.instanceMethod ⟨"LifeNoes$Trace", "<init>", "()V"⟩ ∈ gT := gin_1 (List.mem_of_getElem? (i := 180) rfl) rfl
theorem wd_181 : Cond.code ⟨"LifeNoes$Trace", "<init>", "()V"⟩ prog_10_method_1_code 1 none ∈ gT := gin_1 (List.mem_of_getElem? (i := 181) rfl) rfl
theorem wd_182 : Cond.methodLink "LifeNoes$Trace" 3 ⟨"java/lang/Object", "<init>", "()V"⟩ ∈ gT := gin_1 (List.mem_of_getElem? (i := 182) rfl) rfl
theorem wd_183 : Cond.fieldLink "LifeNoes$Trace" 9 "LifeNoes$Trace" "numbers" "[I" ∈ gT := gin_1 (List.mem_of_getElem? (i := 183) rfl) rfl
theorem wd_184 : Cond.fieldLink "LifeNoes" 296 "LifeNoes$Trace" "numbers" "[I" ∈ gT := gin_1 (List.mem_of_getElem? (i := 184) rfl) rfl
theorem wd_185 : Cond.fieldLink "LifeNoes$Trace" 15 "LifeNoes$Trace" "count" "I" ∈ gT := gin_1 (List.mem_of_getElem? (i := 185) rfl) rfl
theorem wd_186 : Cond.fieldLink "LifeNoes" 293 "LifeNoes$Trace" "count" "I" ∈ gT := gin_1 (List.mem_of_getElem? (i := 186) rfl) rfl
theorem wd_187 : Cond.fieldLink "LifeNoes$Trace" 19 "LifeNoes$Trace" "parted" "Z" ∈ gT := gin_1 (List.mem_of_getElem? (i := 187) rfl) rfl
theorem wd_188 : Cond.fieldLink "LifeNoes$Told" 26 "LifeNoes$Trace" "parted" "Z" ∈ gT := gin_1 (List.mem_of_getElem? (i := 188) rfl) rfl
theorem wd_189 : Cond.fieldLink "LifeNoes$Sayer" 30 "LifeNoes$Trace" "parted" "Z" ∈ gT := gin_1 (List.mem_of_getElem? (i := 189) rfl) rfl
theorem wd_190 : Cond.fieldLink "LifeNoes" 290 "LifeNoes$Trace" "parted" "Z" ∈ gT := gin_1 (List.mem_of_getElem? (i := 190) rfl) rfl
theorem wd_191 : Cond.laysFinal "LifeNoes$Trace" "LifeNoes$Trace" "numbers" "[I" ∈ gT := gin_1 (List.mem_of_getElem? (i := 191) rfl) rfl
theorem wd_192 : Cond.soleField "LifeNoes$Trace" "numbers" ∈ gT := gin_1 (List.mem_of_getElem? (i := 192) rfl) rfl
theorem wd_193 : Cond.lays "LifeNoes$Trace" "LifeNoes$Trace" "count" "I" ∈ gT := gin_1 (List.mem_of_getElem? (i := 193) rfl) rfl
theorem wd_194 : Cond.soleField "LifeNoes$Trace" "count" ∈ gT := gin_1 (List.mem_of_getElem? (i := 194) rfl) rfl
theorem wd_195 : Cond.lays "LifeNoes$Trace" "LifeNoes$Trace" "parted" "Z" ∈ gT := gin_1 (List.mem_of_getElem? (i := 195) rfl) rfl
theorem wd_196 : Cond.soleField "LifeNoes$Trace" "parted" ∈ gT := gin_1 (List.mem_of_getElem? (i := 196) rfl) rfl
theorem wd_197 : Cond.superclass "LifeNoes$Trace" "java/lang/Object" ∈ gT := gin_1 (List.mem_of_getElem? (i := 197) rfl) rfl
theorem wd_198 : Cond.instantiable "LifeNoes$Sayer" 3 ∈ gT := gin_1 (List.mem_of_getElem? (i := 198) rfl) rfl
theorem wd_199 : Cond.methodLink "LifeNoes" 81 ⟨"LifeNoes$Sayer", "<init>", "(LLifeNoes$Trace;)V"⟩ ∈ gT := gin_1 (List.mem_of_getElem? (i := 199) rfl) rfl
theorem wd_200 : Cond.instanceMethod ⟨"LifeNoes$Sayer", "<init>", "(LLifeNoes$Trace;)V"⟩ ∈ gT := gin_1 (List.mem_of_getElem? (i := 200) rfl) rfl
theorem wd_201 : Cond.code ⟨"LifeNoes$Sayer", "<init>", "(LLifeNoes$Trace;)V"⟩ prog_6_method_1_code 2 none ∈ gT := gin_1 (List.mem_of_getElem? (i := 201) rfl) rfl
theorem wd_202 : Cond.methodLink "LifeNoes$Sayer" 1 ⟨"java/lang/Object", "<init>", "()V"⟩ ∈ gT := gin_1 (List.mem_of_getElem? (i := 202) rfl) rfl
theorem wd_203 : Cond.fieldLink "LifeNoes$Sayer" 16 "LifeNoes$Sayer" "trace" "LLifeNoes$Trace;" ∈ gT := gin_1 (List.mem_of_getElem? (i := 203) rfl) rfl
theorem wd_204 : Cond.fieldLink "LifeNoes$Bar" 7 "LifeNoes$Bar" "trace" "LLifeNoes$Trace;" ∈ gT := gin_1 (List.mem_of_getElem? (i := 204) rfl) rfl
theorem wd_205 : Cond.sameField "LifeNoes$Bar" "LifeNoes$Sayer" "trace" "LLifeNoes$Trace;" ∈ gT := gin_1 (List.mem_of_getElem? (i := 205) rfl) rfl
theorem wd_206 : Cond.fieldLink "LifeNoes$League" 7 "LifeNoes$League" "trace" "LLifeNoes$Trace;" ∈ gT := gin_1 (List.mem_of_getElem? (i := 206) rfl) rfl
theorem wd_207 : Cond.sameField "LifeNoes$League" "LifeNoes$Sayer" "trace" "LLifeNoes$Trace;" ∈ gT := gin_1 (List.mem_of_getElem? (i := 207) rfl) rfl
theorem wd_208 : Cond.fieldLink "LifeNoes$Wait" 7 "LifeNoes$Wait" "trace" "LLifeNoes$Trace;" ∈ gT := gin_1 (List.mem_of_getElem? (i := 208) rfl) rfl
theorem wd_209 : Cond.sameField "LifeNoes$Wait" "LifeNoes$Sayer" "trace" "LLifeNoes$Trace;" ∈ gT := gin_1 (List.mem_of_getElem? (i := 209) rfl) rfl
theorem wd_210 : Cond.fieldLink "LifeNoes$Quick" 7 "LifeNoes$Quick" "trace" "LLifeNoes$Trace;" ∈ gT := gin_1 (List.mem_of_getElem? (i := 210) rfl) rfl
theorem wd_211 : Cond.sameField "LifeNoes$Quick" "LifeNoes$Sayer" "trace" "LLifeNoes$Trace;" ∈ gT := gin_1 (List.mem_of_getElem? (i := 211) rfl) rfl
theorem wd_212 : Cond.fieldLink "LifeNoes$Told" 7 "LifeNoes$Told" "trace" "LLifeNoes$Trace;" ∈ gT := gin_1 (List.mem_of_getElem? (i := 212) rfl) rfl
theorem wd_213 : Cond.sameField "LifeNoes$Told" "LifeNoes$Sayer" "trace" "LLifeNoes$Trace;" ∈ gT := gin_1 (List.mem_of_getElem? (i := 213) rfl) rfl
theorem wd_214 : Cond.fieldLink "LifeNoes$Sayer" 7 "LifeNoes$Sayer" "n" "I" ∈ gT := gin_1 (List.mem_of_getElem? (i := 214) rfl) rfl
theorem wd_215 : Cond.fieldLink "LifeNoes$League" 23 "LifeNoes$League" "n" "I" ∈ gT := gin_1 (List.mem_of_getElem? (i := 215) rfl) rfl
theorem wd_216 : Cond.sameField "LifeNoes$League" "LifeNoes$Sayer" "n" "I" ∈ gT := gin_1 (List.mem_of_getElem? (i := 216) rfl) rfl
theorem wd_217 : Cond.fieldLink "LifeNoes$Wait" 26 "LifeNoes$Wait" "n" "I" ∈ gT := gin_1 (List.mem_of_getElem? (i := 217) rfl) rfl
theorem wd_218 : Cond.sameField "LifeNoes$Wait" "LifeNoes$Sayer" "n" "I" ∈ gT := gin_1 (List.mem_of_getElem? (i := 218) rfl) rfl
theorem wd_219 : Cond.fieldLink "LifeNoes$Bar" 26 "LifeNoes$Bar" "n" "I" ∈ gT := gin_1 (List.mem_of_getElem? (i := 219) rfl) rfl
theorem wd_220 : Cond.sameField "LifeNoes$Bar" "LifeNoes$Sayer" "n" "I" ∈ gT := gin_1 (List.mem_of_getElem? (i := 220) rfl) rfl
theorem wd_221 : Cond.fieldLink "LifeNoes" 280 "LifeNoes$Sayer" "n" "I" ∈ gT := gin_1 (List.mem_of_getElem? (i := 221) rfl) rfl
theorem wd_222 : Cond.fieldLink "LifeNoes$Sayer" 13 "LifeNoes$Sayer" "a" "I" ∈ gT := gin_1 (List.mem_of_getElem? (i := 222) rfl) rfl
theorem wd_223 : Cond.fieldLink "LifeNoes$Quick" 23 "LifeNoes$Quick" "a" "I" ∈ gT := gin_1 (List.mem_of_getElem? (i := 223) rfl) rfl
theorem wd_224 : Cond.sameField "LifeNoes$Quick" "LifeNoes$Sayer" "a" "I" ∈ gT := gin_1 (List.mem_of_getElem? (i := 224) rfl) rfl
theorem wd_225 : Cond.fieldLink "LifeNoes$Told" 30 "LifeNoes$Told" "a" "I" ∈ gT := gin_1 (List.mem_of_getElem? (i := 225) rfl) rfl
theorem wd_226 : Cond.sameField "LifeNoes$Told" "LifeNoes$Sayer" "a" "I" ∈ gT := gin_1 (List.mem_of_getElem? (i := 226) rfl) rfl
theorem wd_227 : Cond.fieldLink "LifeNoes" 323 "LifeNoes$Sayer" "a" "I" ∈ gT := gin_1 (List.mem_of_getElem? (i := 227) rfl) rfl
theorem wd_228 : Cond.laysFinal "LifeNoes$Sayer" "LifeNoes$Sayer" "trace" "LLifeNoes$Trace;" ∈ gT := gin_1 (List.mem_of_getElem? (i := 228) rfl) rfl
theorem wd_229 : Cond.soleField "LifeNoes$Sayer" "trace" ∈ gT := gin_1 (List.mem_of_getElem? (i := 229) rfl) rfl
theorem wd_230 : Cond.lays "LifeNoes$Sayer" "LifeNoes$Sayer" "n" "I" ∈ gT := gin_1 (List.mem_of_getElem? (i := 230) rfl) rfl
theorem wd_231 : Cond.soleField "LifeNoes$Sayer" "n" ∈ gT := gin_1 (List.mem_of_getElem? (i := 231) rfl) rfl
theorem wd_232 : Cond.lays "LifeNoes$Sayer" "LifeNoes$Sayer" "a" "I" ∈ gT := gin_1 (List.mem_of_getElem? (i := 232) rfl) rfl
theorem wd_233 : Cond.soleField "LifeNoes$Sayer" "a" ∈ gT := gin_1 (List.mem_of_getElem? (i := 233) rfl) rfl
theorem wd_234 : Cond.superclass "LifeNoes$Sayer" "java/lang/Object" ∈ gT := gin_1 (List.mem_of_getElem? (i := 234) rfl) rfl
theorem wd_235 : Cond.classLink "LifeNoes" 84 "LifeNoes$Quick" ∈ gT := gin_1 (List.mem_of_getElem? (i := 235) rfl) rfl
theorem wd_236 : Cond.instantiable "LifeNoes$Quick" 3 ∈ gT := gin_1 (List.mem_of_getElem? (i := 236) rfl) rfl
theorem wd_237 : Cond.methodLink "LifeNoes" 86 ⟨"LifeNoes$Quick", "<init>", "(LLifeNoes$Trace;)V"⟩ ∈ gT := gin_1 (List.mem_of_getElem? (i := 237) rfl) rfl
theorem wd_238 : Cond.instanceMethod ⟨"LifeNoes$Quick", "<init>", "(LLifeNoes$Trace;)V"⟩ ∈ gT := gin_1 (List.mem_of_getElem? (i := 238) rfl) rfl
theorem wd_239 : Cond.code ⟨"LifeNoes$Quick", "<init>", "(LLifeNoes$Trace;)V"⟩ prog_5_method_1_code 2 none ∈ gT := gin_1 (List.mem_of_getElem? (i := 239) rfl) rfl
theorem wd_240 : Cond.methodLink "LifeNoes$Quick" 1 ⟨"LifeNoes$Sayer", "<init>", "(LLifeNoes$Trace;)V"⟩ ∈ gT := gin_2 (List.mem_of_getElem? (i := 0) rfl) rfl
theorem wd_241 : Cond.laysFinal "LifeNoes$Quick" "LifeNoes$Sayer" "trace" "LLifeNoes$Trace;" ∈ gT := gin_2 (List.mem_of_getElem? (i := 1) rfl) rfl
theorem wd_242 : Cond.lays "LifeNoes$Quick" "LifeNoes$Sayer" "n" "I" ∈ gT := gin_2 (List.mem_of_getElem? (i := 2) rfl) rfl
theorem wd_243 : Cond.lays "LifeNoes$Quick" "LifeNoes$Sayer" "a" "I" ∈ gT := gin_2 (List.mem_of_getElem? (i := 3) rfl) rfl
theorem wd_244 : Cond.superclass "LifeNoes$Quick" "LifeNoes$Sayer" ∈ gT := gin_2 (List.mem_of_getElem? (i := 4) rfl) rfl
theorem wd_245 : Cond.classLink "LifeNoes" 87 "LifeNoes$Bar" ∈ gT := gin_2 (List.mem_of_getElem? (i := 5) rfl) rfl
theorem wd_246 : Cond.instantiable "LifeNoes$Bar" 3 ∈ gT := gin_2 (List.mem_of_getElem? (i := 6) rfl) rfl
theorem wd_247 : Cond.methodLink "LifeNoes" 89 ⟨"LifeNoes$Bar", "<init>", "(LLifeNoes$Trace;)V"⟩ ∈ gT := gin_2 (List.mem_of_getElem? (i := 7) rfl) rfl
theorem wd_248 : Cond.instanceMethod ⟨"LifeNoes$Bar", "<init>", "(LLifeNoes$Trace;)V"⟩ ∈ gT := gin_2 (List.mem_of_getElem? (i := 8) rfl) rfl
theorem wd_249 : Cond.code ⟨"LifeNoes$Bar", "<init>", "(LLifeNoes$Trace;)V"⟩ prog_3_method_1_code 2 none ∈ gT := gin_2 (List.mem_of_getElem? (i := 9) rfl) rfl
theorem wd_250 : Cond.methodLink "LifeNoes$Bar" 1 ⟨"LifeNoes$Sayer", "<init>", "(LLifeNoes$Trace;)V"⟩ ∈ gT := gin_2 (List.mem_of_getElem? (i := 10) rfl) rfl
theorem wd_251 : Cond.laysFinal "LifeNoes$Bar" "LifeNoes$Sayer" "trace" "LLifeNoes$Trace;" ∈ gT := gin_2 (List.mem_of_getElem? (i := 11) rfl) rfl
theorem wd_252 : Cond.lays "LifeNoes$Bar" "LifeNoes$Sayer" "n" "I" ∈ gT := gin_2 (List.mem_of_getElem? (i := 12) rfl) rfl
theorem wd_253 : Cond.lays "LifeNoes$Bar" "LifeNoes$Sayer" "a" "I" ∈ gT := gin_2 (List.mem_of_getElem? (i := 13) rfl) rfl
theorem wd_254 : Cond.superclass "LifeNoes$Bar" "LifeNoes$Sayer" ∈ gT := gin_2 (List.mem_of_getElem? (i := 14) rfl) rfl
theorem wd_255 : Cond.classLink "LifeNoes" 90 "LifeNoes$Wait" ∈ gT := gin_2 (List.mem_of_getElem? (i := 15) rfl) rfl
theorem wd_256 : Cond.instantiable "LifeNoes$Wait" 3 ∈ gT := gin_2 (List.mem_of_getElem? (i := 16) rfl) rfl
theorem wd_257 : Cond.methodLink "LifeNoes" 92 ⟨"LifeNoes$Wait", "<init>", "(LLifeNoes$Trace;)V"⟩ ∈ gT := gin_2 (List.mem_of_getElem? (i := 17) rfl) rfl
theorem wd_258 : Cond.instanceMethod ⟨"LifeNoes$Wait", "<init>", "(LLifeNoes$Trace;)V"⟩ ∈ gT := gin_2 (List.mem_of_getElem? (i := 18) rfl) rfl
theorem wd_259 : Cond.code ⟨"LifeNoes$Wait", "<init>", "(LLifeNoes$Trace;)V"⟩ prog_12_method_1_code 2 none ∈ gT := gin_2 (List.mem_of_getElem? (i := 19) rfl) rfl
theorem wd_260 : Cond.methodLink "LifeNoes$Wait" 1 ⟨"LifeNoes$Bar", "<init>", "(LLifeNoes$Trace;)V"⟩ ∈ gT := gin_2 (List.mem_of_getElem? (i := 20) rfl) rfl
theorem wd_261 : Cond.laysFinal "LifeNoes$Wait" "LifeNoes$Sayer" "trace" "LLifeNoes$Trace;" ∈ gT := gin_2 (List.mem_of_getElem? (i := 21) rfl) rfl
theorem wd_262 : Cond.lays "LifeNoes$Wait" "LifeNoes$Sayer" "n" "I" ∈ gT := gin_2 (List.mem_of_getElem? (i := 22) rfl) rfl
theorem wd_263 : Cond.lays "LifeNoes$Wait" "LifeNoes$Sayer" "a" "I" ∈ gT := gin_2 (List.mem_of_getElem? (i := 23) rfl) rfl
theorem wd_264 : Cond.superclass "LifeNoes$Wait" "LifeNoes$Bar" ∈ gT := gin_2 (List.mem_of_getElem? (i := 24) rfl) rfl
theorem wd_265 : Cond.classLink "LifeNoes" 93 "LifeNoes$League" ∈ gT := gin_2 (List.mem_of_getElem? (i := 25) rfl) rfl
theorem wd_266 : Cond.instantiable "LifeNoes$League" 3 ∈ gT := gin_2 (List.mem_of_getElem? (i := 26) rfl) rfl
theorem wd_267 : Cond.methodLink "LifeNoes" 95 ⟨"LifeNoes$League", "<init>", "(LLifeNoes$Trace;)V"⟩ ∈ gT := gin_2 (List.mem_of_getElem? (i := 27) rfl) rfl
theorem wd_268 : Cond.instanceMethod ⟨"LifeNoes$League", "<init>", "(LLifeNoes$Trace;)V"⟩ ∈ gT := gin_2 (List.mem_of_getElem? (i := 28) rfl) rfl
theorem wd_269 : Cond.code ⟨"LifeNoes$League", "<init>", "(LLifeNoes$Trace;)V"⟩ prog_4_method_1_code 2 none ∈ gT := gin_2 (List.mem_of_getElem? (i := 29) rfl) rfl
theorem wd_270 : Cond.methodLink "LifeNoes$League" 1 ⟨"LifeNoes$Quick", "<init>", "(LLifeNoes$Trace;)V"⟩ ∈ gT := gin_2 (List.mem_of_getElem? (i := 30) rfl) rfl
theorem wd_271 : Cond.laysFinal "LifeNoes$League" "LifeNoes$Sayer" "trace" "LLifeNoes$Trace;" ∈ gT := gin_2 (List.mem_of_getElem? (i := 31) rfl) rfl
theorem wd_272 : Cond.lays "LifeNoes$League" "LifeNoes$Sayer" "n" "I" ∈ gT := gin_2 (List.mem_of_getElem? (i := 32) rfl) rfl
theorem wd_273 : Cond.lays "LifeNoes$League" "LifeNoes$Sayer" "a" "I" ∈ gT := gin_2 (List.mem_of_getElem? (i := 33) rfl) rfl
theorem wd_274 : Cond.superclass "LifeNoes$League" "LifeNoes$Quick" ∈ gT := gin_2 (List.mem_of_getElem? (i := 34) rfl) rfl
theorem wd_275 : Cond.classLink "LifeNoes" 96 "LifeNoes$Told" ∈ gT := gin_2 (List.mem_of_getElem? (i := 35) rfl) rfl
theorem wd_276 : Cond.instantiable "LifeNoes$Told" 3 ∈ gT := gin_2 (List.mem_of_getElem? (i := 36) rfl) rfl
theorem wd_277 : Cond.methodLink "LifeNoes" 98 ⟨"LifeNoes$Told", "<init>", "(LLifeNoes$Trace;)V"⟩ ∈ gT := gin_2 (List.mem_of_getElem? (i := 37) rfl) rfl
theorem wd_278 : Cond.instanceMethod ⟨"LifeNoes$Told", "<init>", "(LLifeNoes$Trace;)V"⟩ ∈ gT := gin_2 (List.mem_of_getElem? (i := 38) rfl) rfl
theorem wd_279 : Cond.code ⟨"LifeNoes$Told", "<init>", "(LLifeNoes$Trace;)V"⟩ prog_9_method_1_code 2 none ∈ gT := gin_2 (List.mem_of_getElem? (i := 39) rfl) rfl
theorem wd_280 : Cond.methodLink "LifeNoes$Told" 1 ⟨"LifeNoes$Sayer", "<init>", "(LLifeNoes$Trace;)V"⟩ ∈ gT := gin_2 (List.mem_of_getElem? (i := 40) rfl) rfl
theorem wd_281 : Cond.laysFinal "LifeNoes$Told" "LifeNoes$Sayer" "trace" "LLifeNoes$Trace;" ∈ gT := gin_2 (List.mem_of_getElem? (i := 41) rfl) rfl
theorem wd_282 : Cond.lays "LifeNoes$Told" "LifeNoes$Sayer" "n" "I" ∈ gT := gin_2 (List.mem_of_getElem? (i := 42) rfl) rfl
theorem wd_283 : Cond.lays "LifeNoes$Told" "LifeNoes$Sayer" "a" "I" ∈ gT := gin_2 (List.mem_of_getElem? (i := 43) rfl) rfl
theorem wd_284 : Cond.superclass "LifeNoes$Told" "LifeNoes$Sayer" ∈ gT := gin_2 (List.mem_of_getElem? (i := 44) rfl) rfl
theorem wd_285 : Cond.fieldLink "LifeNoes" 10 "LifeNoes" "now" "LLifeNoes$Village;" ∈ gT := gin_2 (List.mem_of_getElem? (i := 45) rfl) rfl
theorem wd_286 : Cond.fieldLink "LifeNoes" 16 "LifeNoes" "kept" "LLifeNoes$Village;" ∈ gT := gin_2 (List.mem_of_getElem? (i := 46) rfl) rfl
theorem wd_287 : Cond.fieldLink "LifeNoes" 19 "LifeNoes" "isKept" "Z" ∈ gT := gin_2 (List.mem_of_getElem? (i := 47) rfl) rfl
theorem wd_288 : Cond.fieldLink "LifeNoes" 26 "LifeNoes" "ahead" "LLifeNoes$Ahead;" ∈ gT := gin_2 (List.mem_of_getElem? (i := 48) rfl) rfl
theorem wd_289 : Cond.fieldLink "LifeNoes" 33 "LifeNoes" "reader" "LLifeNoes$TextReader;" ∈ gT := gin_2 (List.mem_of_getElem? (i := 49) rfl) rfl
theorem wd_290 : Cond.fieldLink "LifeNoes" 37 "LifeNoes" "tape" "[I" ∈ gT := gin_2 (List.mem_of_getElem? (i := 50) rfl) rfl
theorem wd_291 : Cond.fieldLink "LifeNoes" 41 "LifeNoes" "tapeLength" "I" ∈ gT := gin_2 (List.mem_of_getElem? (i := 51) rfl) rfl
theorem wd_292 : Cond.fieldLink "LifeNoes" 47 "LifeNoes" "rows" "[[I" ∈ gT := gin_2 (List.mem_of_getElem? (i := 52) rfl) rfl
theorem wd_293 : Cond.fieldLink "LifeNoes" 50 "LifeNoes" "dueRows" "[[I" ∈ gT := gin_2 (List.mem_of_getElem? (i := 53) rfl) rfl
theorem wd_294 : Cond.fieldLink "LifeNoes" 53 "LifeNoes" "rowCount" "I" ∈ gT := gin_2 (List.mem_of_getElem? (i := 54) rfl) rfl
theorem wd_295 : Cond.fieldLink "LifeNoes" 58 "LifeNoes" "sheets" "[LLifeNoes$Sheet;" ∈ gT := gin_2 (List.mem_of_getElem? (i := 55) rfl) rfl
theorem wd_296 : Cond.fieldLink "LifeNoes" 62 "LifeNoes" "shelfHolds" "[I" ∈ gT := gin_2 (List.mem_of_getElem? (i := 56) rfl) rfl
theorem wd_297 : Cond.fieldLink "LifeNoes" 65 "LifeNoes" "shelfNumber" "[I" ∈ gT := gin_2 (List.mem_of_getElem? (i := 57) rfl) rfl
theorem wd_298 : Cond.fieldLink "LifeNoes" 68 "LifeNoes" "shelfLength" "[I" ∈ gT := gin_2 (List.mem_of_getElem? (i := 58) rfl) rfl
theorem wd_299 : Cond.fieldLink "LifeNoes" 73 "LifeNoes" "things" "[LLifeNoes$Sayer;" ∈ gT := gin_2 (List.mem_of_getElem? (i := 59) rfl) rfl
theorem wd_300 : Cond.fieldLink "LifeNoes" 99 "LifeNoes" "bodies" "LLifeNoes$Trace;" ∈ gT := gin_2 (List.mem_of_getElem? (i := 60) rfl) rfl
theorem wd_301 : Cond.laysFinal "LifeNoes" "LifeNoes" "now" "LLifeNoes$Village;" ∈ gT := gin_2 (List.mem_of_getElem? (i := 61) rfl) rfl
theorem wd_302 : Cond.soleField "LifeNoes" "now" ∈ gT := gin_2 (List.mem_of_getElem? (i := 62) rfl) rfl
theorem wd_303 : Cond.laysFinal "LifeNoes" "LifeNoes" "kept" "LLifeNoes$Village;" ∈ gT := gin_2 (List.mem_of_getElem? (i := 63) rfl) rfl
theorem wd_304 : Cond.soleField "LifeNoes" "kept" ∈ gT := gin_2 (List.mem_of_getElem? (i := 64) rfl) rfl
theorem wd_305 : Cond.lays "LifeNoes" "LifeNoes" "isKept" "Z" ∈ gT := gin_2 (List.mem_of_getElem? (i := 65) rfl) rfl
theorem wd_306 : Cond.soleField "LifeNoes" "isKept" ∈ gT := gin_2 (List.mem_of_getElem? (i := 66) rfl) rfl
theorem wd_307 : Cond.laysFinal "LifeNoes" "LifeNoes" "ahead" "LLifeNoes$Ahead;" ∈ gT := gin_2 (List.mem_of_getElem? (i := 67) rfl) rfl
theorem wd_308 : Cond.soleField "LifeNoes" "ahead" ∈ gT := gin_2 (List.mem_of_getElem? (i := 68) rfl) rfl
theorem wd_309 : Cond.laysFinal "LifeNoes" "LifeNoes" "reader" "LLifeNoes$TextReader;" ∈ gT := gin_2 (List.mem_of_getElem? (i := 69) rfl) rfl
theorem wd_310 : Cond.soleField "LifeNoes" "reader" ∈ gT := gin_2 (List.mem_of_getElem? (i := 70) rfl) rfl
theorem wd_311 : Cond.laysFinal "LifeNoes" "LifeNoes" "tape" "[I" ∈ gT := gin_2 (List.mem_of_getElem? (i := 71) rfl) rfl
theorem wd_312 : Cond.soleField "LifeNoes" "tape" ∈ gT := gin_2 (List.mem_of_getElem? (i := 72) rfl) rfl
theorem wd_313 : Cond.lays "LifeNoes" "LifeNoes" "tapeLength" "I" ∈ gT := gin_2 (List.mem_of_getElem? (i := 73) rfl) rfl
theorem wd_314 : Cond.soleField "LifeNoes" "tapeLength" ∈ gT := gin_2 (List.mem_of_getElem? (i := 74) rfl) rfl
theorem wd_315 : Cond.laysFinal "LifeNoes" "LifeNoes" "rows" "[[I" ∈ gT := gin_2 (List.mem_of_getElem? (i := 75) rfl) rfl
theorem wd_316 : Cond.soleField "LifeNoes" "rows" ∈ gT := gin_2 (List.mem_of_getElem? (i := 76) rfl) rfl
theorem wd_317 : Cond.laysFinal "LifeNoes" "LifeNoes" "dueRows" "[[I" ∈ gT := gin_2 (List.mem_of_getElem? (i := 77) rfl) rfl
theorem wd_318 : Cond.soleField "LifeNoes" "dueRows" ∈ gT := gin_2 (List.mem_of_getElem? (i := 78) rfl) rfl
theorem wd_319 : Cond.lays "LifeNoes" "LifeNoes" "rowCount" "I" ∈ gT := gin_2 (List.mem_of_getElem? (i := 79) rfl) rfl
theorem wd_320 : Cond.soleField "LifeNoes" "rowCount" ∈ gT := gin_2 (List.mem_of_getElem? (i := 80) rfl) rfl
theorem wd_321 : Cond.laysFinal "LifeNoes" "LifeNoes" "sheets" "[LLifeNoes$Sheet;" ∈ gT := gin_2 (List.mem_of_getElem? (i := 81) rfl) rfl
theorem wd_322 : Cond.soleField "LifeNoes" "sheets" ∈ gT := gin_2 (List.mem_of_getElem? (i := 82) rfl) rfl
theorem wd_323 : Cond.laysFinal "LifeNoes" "LifeNoes" "shelfHolds" "[I" ∈ gT := gin_2 (List.mem_of_getElem? (i := 83) rfl) rfl
theorem wd_324 : Cond.soleField "LifeNoes" "shelfHolds" ∈ gT := gin_2 (List.mem_of_getElem? (i := 84) rfl) rfl
theorem wd_325 : Cond.laysFinal "LifeNoes" "LifeNoes" "shelfNumber" "[I" ∈ gT := gin_2 (List.mem_of_getElem? (i := 85) rfl) rfl
theorem wd_326 : Cond.soleField "LifeNoes" "shelfNumber" ∈ gT := gin_2 (List.mem_of_getElem? (i := 86) rfl) rfl
theorem wd_327 : Cond.laysFinal "LifeNoes" "LifeNoes" "shelfLength" "[I" ∈ gT := gin_2 (List.mem_of_getElem? (i := 87) rfl) rfl
theorem wd_328 : Cond.soleField "LifeNoes" "shelfLength" ∈ gT := gin_2 (List.mem_of_getElem? (i := 88) rfl) rfl
theorem wd_329 : Cond.laysFinal "LifeNoes" "LifeNoes" "things" "[LLifeNoes$Sayer;" ∈ gT := gin_2 (List.mem_of_getElem? (i := 89) rfl) rfl
theorem wd_330 : Cond.soleField "LifeNoes" "things" ∈ gT := gin_2 (List.mem_of_getElem? (i := 90) rfl) rfl
theorem wd_331 : Cond.laysFinal "LifeNoes" "LifeNoes" "bodies" "LLifeNoes$Trace;" ∈ gT := gin_2 (List.mem_of_getElem? (i := 91) rfl) rfl
theorem wd_332 : Cond.soleField "LifeNoes" "bodies" ∈ gT := gin_2 (List.mem_of_getElem? (i := 92) rfl) rfl
theorem wd_333 : Cond.superclass "LifeNoes" "java/lang/Object" ∈ gT := gin_2 (List.mem_of_getElem? (i := 93) rfl) rfl
theorem wd_334 : Cond.methodLink "LifeNoesLaw" 15 ⟨"LifeNoes", "feed", "(JI)I"⟩ ∈ gT := gin_2 (List.mem_of_getElem? (i := 94) rfl) rfl
theorem wd_335 : Cond.instanceMethod ⟨"LifeNoes", "feed", "(JI)I"⟩ ∈ gT := gin_2 (List.mem_of_getElem? (i := 95) rfl) rfl
theorem wd_336 : Cond.selects "LifeNoes" ⟨"LifeNoes", "feed", "(JI)I"⟩ ⟨"LifeNoes", "feed", "(JI)I"⟩ ∈ gT := gin_2 (List.mem_of_getElem? (i := 96) rfl) rfl
theorem wd_337 : Cond.code ⟨"LifeNoes", "feed", "(JI)I"⟩ prog_1_method_2_code 5 (some .int) ∈ gT := gin_2 (List.mem_of_getElem? (i := 97) rfl) rfl
theorem wd_338 : Cond.methodLink "LifeNoes" 103 ⟨"LifeNoes", "within", "(III)Z"⟩ ∈ gT := gin_2 (List.mem_of_getElem? (i := 98) rfl) rfl
theorem wd_339 : Cond.static ⟨"LifeNoes", "within", "(III)Z"⟩ ∈ gT := gin_2 (List.mem_of_getElem? (i := 99) rfl) rfl
theorem wd_340 : Cond.code ⟨"LifeNoes", "within", "(III)Z"⟩ prog_1_method_44_code 3 (some .boolean) ∈ gT := gin_2 (List.mem_of_getElem? (i := 100) rfl) rfl
theorem wd_341 : Cond.methodLink "LifeNoesLaw" 20 ⟨"LifeNoes", "village", "()I"⟩ ∈ gT := gin_2 (List.mem_of_getElem? (i := 101) rfl) rfl
theorem wd_342 : Cond.instanceMethod ⟨"LifeNoes", "village", "()I"⟩ ∈ gT := gin_2 (List.mem_of_getElem? (i := 102) rfl) rfl
theorem wd_343 : Cond.selects "LifeNoes" ⟨"LifeNoes", "village", "()I"⟩ ⟨"LifeNoes", "village", "()I"⟩ ∈ gT := gin_2 (List.mem_of_getElem? (i := 103) rfl) rfl
theorem wd_344 : Cond.code ⟨"LifeNoes", "village", "()I"⟩ prog_1_method_3_code 3 (some .int) ∈ gT := gin_2 (List.mem_of_getElem? (i := 104) rfl) rfl
theorem wd_345 : Cond.methodLink "LifeNoes" 107 ⟨"LifeNoes$TextReader", "readText", "([II)Z"⟩ ∈ gT := gin_2 (List.mem_of_getElem? (i := 105) rfl) rfl
theorem wd_346 : Cond.instanceMethod ⟨"LifeNoes$TextReader", "readText", "([II)Z"⟩ ∈ gT := gin_2 (List.mem_of_getElem? (i := 106) rfl) rfl
theorem wd_347 : Cond.selects "LifeNoes$TextReader" ⟨"LifeNoes$TextReader", "readText", "([II)Z"⟩ ⟨"LifeNoes$TextReader", "readText", "([II)Z"⟩ ∈ gT := gin_2 (List.mem_of_getElem? (i := 107) rfl) rfl
theorem wd_348 : Cond.code ⟨"LifeNoes$TextReader", "readText", "([II)Z"⟩ prog_8_method_2_code 4 (some .boolean) ∈ gT := gin_2 (List.mem_of_getElem? (i := 108) rfl) rfl
theorem wd_349 : Cond.methodLink "LifeNoes$TextReader" 38 ⟨"java/lang/Math", "min", "(II)I"⟩ ∈ gT := gin_2 (List.mem_of_getElem? (i := 109) rfl) rfl
theorem wd_350 : Cond.static ⟨"java/lang/Math", "min", "(II)I"⟩ ∈ gT := gin_2 (List.mem_of_getElem? (i := 110) rfl) rfl
theorem wd_351 : Cond.code ⟨"java/lang/Math", "min", "(II)I"⟩ prog_16_method_69_code 2 (some .int) ∈ gT := gin_2 (List.mem_of_getElem? (i := 111) rfl) rfl
theorem wd_352 : Cond.methodLink "LifeNoes$TextReader" 44 ⟨"java/lang/Math", "max", "(II)I"⟩ ∈ gT := gin_2 (List.mem_of_getElem? (i := 112) rfl) rfl
theorem wd_353 : Cond.static ⟨"java/lang/Math", "max", "(II)I"⟩ ∈ gT := gin_2 (List.mem_of_getElem? (i := 113) rfl) rfl
theorem wd_354 : Cond.code ⟨"java/lang/Math", "max", "(II)I"⟩ prog_16_method_65_code 2 (some .int) ∈ gT := gin_2 (List.mem_of_getElem? (i := 114) rfl) rfl
theorem wd_355 : Cond.methodLink "LifeNoes$TextReader" 47 ⟨"java/lang/System", "arraycopy", "(Ljava/lang/Object;ILjava/lang/Object;II)V"⟩ ∈ gT := gin_2 (List.mem_of_getElem? (i := 115) rfl) rfl
theorem wd_356 : Cond.static ⟨"java/lang/System", "arraycopy", "(Ljava/lang/Object;ILjava/lang/Object;II)V"⟩ ∈ gT := gin_2 (List.mem_of_getElem? (i := 116) rfl) rfl
theorem wd_357 : Cond.native ⟨"java/lang/System", "arraycopy", "(Ljava/lang/Object;ILjava/lang/Object;II)V"⟩ ∈ gT := gin_2 (List.mem_of_getElem? (i := 117) rfl) rfl
theorem wd_358 : Cond.methodLink "LifeNoes$TextReader" 53 ⟨"LifeNoes$Village", "empty", "()V"⟩ ∈ gT := gin_2 (List.mem_of_getElem? (i := 118) rfl) rfl
theorem wd_359 : Cond.instanceMethod ⟨"LifeNoes$Village", "empty", "()V"⟩ ∈ gT := gin_2 (List.mem_of_getElem? (i := 119) rfl) rfl
theorem wd_360 : Cond.selects "LifeNoes$Village" ⟨"LifeNoes$Village", "empty", "()V"⟩ ⟨"LifeNoes$Village", "empty", "()V"⟩ ∈ gT := gin_2 (List.mem_of_getElem? (i := 120) rfl) rfl
theorem wd_361 : Cond.code ⟨"LifeNoes$Village", "empty", "()V"⟩ prog_11_method_2_code 1 none ∈ gT := gin_2 (List.mem_of_getElem? (i := 121) rfl) rfl
theorem wd_362 : Cond.methodLink "LifeNoes$TextReader" 56 ⟨"LifeNoes$TextReader", "advance", "()V"⟩ ∈ gT := gin_2 (List.mem_of_getElem? (i := 122) rfl) rfl
theorem wd_364 : Cond.instanceMethod ⟨"LifeNoes$TextReader", "advance", "()V"⟩ ∈ gT := gin_2 (List.mem_of_getElem? (i := 124) rfl) rfl
theorem wd_365 : Cond.code ⟨"LifeNoes$TextReader", "advance", "()V"⟩ prog_8_method_13_code 1 none ∈ gT := gin_2 (List.mem_of_getElem? (i := 125) rfl) rfl
theorem wd_367 : Cond.methodLink "LifeNoes$TextReader" 152 ⟨"LifeNoes$TextReader", "takeNumber", "()V"⟩ ∈ gT := gin_2 (List.mem_of_getElem? (i := 127) rfl) rfl
theorem wd_369 : Cond.instanceMethod ⟨"LifeNoes$TextReader", "takeNumber", "()V"⟩ ∈ gT := gin_2 (List.mem_of_getElem? (i := 129) rfl) rfl
theorem wd_370 : Cond.code ⟨"LifeNoes$TextReader", "takeNumber", "()V"⟩ prog_8_method_14_code 1 none ∈ gT := gin_2 (List.mem_of_getElem? (i := 130) rfl) rfl
theorem wd_371 : Cond.methodLink "LifeNoes$TextReader" 59 ⟨"LifeNoes$TextReader", "readStatement", "()Z"⟩ ∈ gT := gin_2 (List.mem_of_getElem? (i := 131) rfl) rfl
theorem wd_373 : Cond.instanceMethod ⟨"LifeNoes$TextReader", "readStatement", "()Z"⟩ ∈ gT := gin_2 (List.mem_of_getElem? (i := 133) rfl) rfl
theorem wd_374 : Cond.code ⟨"LifeNoes$TextReader", "readStatement", "()Z"⟩ prog_8_method_3_code 2 (some .boolean) ∈ gT := gin_2 (List.mem_of_getElem? (i := 134) rfl) rfl
theorem wd_375 : Cond.methodLink "LifeNoes$TextReader" 63 ⟨"LifeNoes$TextReader", "kindNamed", "()I"⟩ ∈ gT := gin_2 (List.mem_of_getElem? (i := 135) rfl) rfl
theorem wd_377 : Cond.instanceMethod ⟨"LifeNoes$TextReader", "kindNamed", "()I"⟩ ∈ gT := gin_2 (List.mem_of_getElem? (i := 137) rfl) rfl
theorem wd_378 : Cond.code ⟨"LifeNoes$TextReader", "kindNamed", "()I"⟩ prog_8_method_9_code 1 (some .int) ∈ gT := gin_2 (List.mem_of_getElem? (i := 138) rfl) rfl
theorem wd_380 : Cond.methodLink "LifeNoes$TextReader" 73 ⟨"LifeNoes$TextReader", "isName", "(Ljava/lang/String;)Z"⟩ ∈ gT := gin_2 (List.mem_of_getElem? (i := 140) rfl) rfl
theorem wd_382 : Cond.instanceMethod ⟨"LifeNoes$TextReader", "isName", "(Ljava/lang/String;)Z"⟩ ∈ gT := gin_2 (List.mem_of_getElem? (i := 142) rfl) rfl
theorem wd_383 : Cond.code ⟨"LifeNoes$TextReader", "isName", "(Ljava/lang/String;)Z"⟩ prog_8_method_10_code 3 (some .boolean) ∈ gT := gin_2 (List.mem_of_getElem? (i := 143) rfl) rfl
theorem wd_384 : Cond.methodLink "LifeNoes$TextReader" 141 ⟨"java/lang/String", "length", "()I"⟩ ∈ gT := gin_2 (List.mem_of_getElem? (i := 144) rfl) rfl
theorem wd_385 : Cond.instanceMethod ⟨"java/lang/String", "length", "()I"⟩ ∈ gT := gin_2 (List.mem_of_getElem? (i := 145) rfl) rfl
theorem wd_386 : Cond.selects "java/lang/String" ⟨"java/lang/String", "length", "()I"⟩ ⟨"java/lang/String", "length", "()I"⟩ ∈ gT := gin_2 (List.mem_of_getElem? (i := 146) rfl) rfl
theorem wd_387 : Cond.code ⟨"java/lang/String", "length", "()I"⟩ prog_17_method_54_code 1 (some .int) ∈ gT := gin_2 (List.mem_of_getElem? (i := 147) rfl) rfl
theorem wd_388 : Cond.methodLink "java/lang/String" 335 ⟨"java/lang/String", "coder", "()B"⟩ ∈ gT := gin_2 (List.mem_of_getElem? (i := 148) rfl) rfl
theorem wd_389 : Cond.instanceMethod ⟨"java/lang/String", "coder", "()B"⟩ ∈ gT := gin_2 (List.mem_of_getElem? (i := 149) rfl) rfl
theorem wd_390 : Cond.selects "java/lang/String" ⟨"java/lang/String", "coder", "()B"⟩ ⟨"java/lang/String", "coder", "()B"⟩ ∈ gT := gin_2 (List.mem_of_getElem? (i := 150) rfl) rfl
theorem wd_391 : Cond.code ⟨"java/lang/String", "coder", "()B"⟩ prog_17_method_152_code 1 (some .byte) ∈ gT := gin_2 (List.mem_of_getElem? (i := 151) rfl) rfl
theorem wd_392 : Cond.fieldLink "java/lang/String" 38 "java/lang/String" "COMPACT_STRINGS" "Z" ∈ gT := gin_2 (List.mem_of_getElem? (i := 152) rfl) rfl
theorem wd_394 : Cond.methodLink "LifeNoes$TextReader" 145 ⟨"java/lang/String", "charAt", "(I)C"⟩ ∈ gT := gin_2 (List.mem_of_getElem? (i := 154) rfl) rfl
theorem wd_395 : Cond.instanceMethod ⟨"java/lang/String", "charAt", "(I)C"⟩ ∈ gT := gin_2 (List.mem_of_getElem? (i := 155) rfl) rfl
theorem wd_396 : Cond.selects "java/lang/String" ⟨"java/lang/String", "charAt", "(I)C"⟩ ⟨"java/lang/String", "charAt", "(I)C"⟩ ∈ gT := gin_2 (List.mem_of_getElem? (i := 156) rfl) rfl
theorem wd_397 : Cond.code ⟨"java/lang/String", "charAt", "(I)C"⟩ prog_17_method_56_code 2 (some .char) ∈ gT := gin_2 (List.mem_of_getElem? (i := 157) rfl) rfl
theorem wd_398 : Cond.methodLink "java/lang/String" 492 ⟨"java/lang/String", "isLatin1", "()Z"⟩ ∈ gT := gin_2 (List.mem_of_getElem? (i := 158) rfl) rfl
theorem wd_399 : Cond.instanceMethod ⟨"java/lang/String", "isLatin1", "()Z"⟩ ∈ gT := gin_2 (List.mem_of_getElem? (i := 159) rfl) rfl
theorem wd_400 : Cond.selects "java/lang/String" ⟨"java/lang/String", "isLatin1", "()Z"⟩ ⟨"java/lang/String", "isLatin1", "()Z"⟩ ∈ gT := gin_2 (List.mem_of_getElem? (i := 160) rfl) rfl
theorem wd_401 : Cond.code ⟨"java/lang/String", "isLatin1", "()Z"⟩ prog_17_method_154_code 1 (some .boolean) ∈ gT := gin_2 (List.mem_of_getElem? (i := 161) rfl) rfl
theorem wd_402 : Cond.methodLink "java/lang/String" 495 ⟨"java/lang/StringLatin1", "charAt", "([BI)C"⟩ ∈ gT := gin_2 (List.mem_of_getElem? (i := 162) rfl) rfl
theorem wd_403 : Cond.static ⟨"java/lang/StringLatin1", "charAt", "([BI)C"⟩ ∈ gT := gin_2 (List.mem_of_getElem? (i := 163) rfl) rfl
theorem wd_404 : Cond.code ⟨"java/lang/StringLatin1", "charAt", "([BI)C"⟩ prog_18_method_2_code 2 (some .char) ∈ gT := gin_2 (List.mem_of_getElem? (i := 164) rfl) rfl
theorem wd_405 : Cond.methodLink "java/lang/StringLatin1" 9 ⟨"java/lang/String", "checkIndex", "(II)V"⟩ ∈ gT := gin_2 (List.mem_of_getElem? (i := 165) rfl) rfl
theorem wd_406 : Cond.static ⟨"java/lang/String", "checkIndex", "(II)V"⟩ ∈ gT := gin_2 (List.mem_of_getElem? (i := 166) rfl) rfl
theorem wd_407 : Cond.code ⟨"java/lang/String", "checkIndex", "(II)V"⟩ prog_17_method_155_code 2 none ∈ gT := gin_2 (List.mem_of_getElem? (i := 167) rfl) rfl
theorem wd_408 : Cond.fieldLink "java/lang/String" 1053 "jdk/internal/util/Preconditions" "SIOOBE_FORMATTER" "Ljava/util/function/BiFunction;" ∈ gT := gin_2 (List.mem_of_getElem? (i := 168) rfl) rfl
theorem wd_410 : Cond.methodLink "java/lang/String" 1059 ⟨"jdk/internal/util/Preconditions", "checkIndex", "(IILjava/util/function/BiFunction;)I"⟩ ∈ gT := gin_2 (List.mem_of_getElem? (i := 170) rfl) rfl
theorem wd_411 : Cond.static ⟨"jdk/internal/util/Preconditions", "checkIndex", "(IILjava/util/function/BiFunction;)I"⟩ ∈ gT := gin_2 (List.mem_of_getElem? (i := 171) rfl) rfl
theorem wd_412 : Cond.code ⟨"jdk/internal/util/Preconditions", "checkIndex", "(IILjava/util/function/BiFunction;)I"⟩ prog_21_method_11_code 3 (some .int) ∈ gT := gin_2 (List.mem_of_getElem? (i := 172) rfl) rfl
theorem wd_413 : Cond.methodLink "java/lang/String" 498 ⟨"java/lang/StringUTF16", "charAt", "([BI)C"⟩ ∈ gT := gin_2 (List.mem_of_getElem? (i := 173) rfl) rfl
theorem wd_414 : Cond.static ⟨"java/lang/StringUTF16", "charAt", "([BI)C"⟩ ∈ gT := gin_2 (List.mem_of_getElem? (i := 174) rfl) rfl
theorem wd_415 : Cond.code ⟨"java/lang/StringUTF16", "charAt", "([BI)C"⟩ prog_19_method_83_code 2 (some .char) ∈ gT := gin_2 (List.mem_of_getElem? (i := 175) rfl) rfl
theorem wd_416 : Cond.methodLink "java/lang/StringUTF16" 67 ⟨"java/lang/StringUTF16", "checkIndex", "(I[B)V"⟩ ∈ gT := gin_2 (List.mem_of_getElem? (i := 176) rfl) rfl
theorem wd_417 : Cond.static ⟨"java/lang/StringUTF16", "checkIndex", "(I[B)V"⟩ ∈ gT := gin_2 (List.mem_of_getElem? (i := 177) rfl) rfl
theorem wd_418 : Cond.code ⟨"java/lang/StringUTF16", "checkIndex", "(I[B)V"⟩ prog_19_method_91_code 2 none ∈ gT := gin_2 (List.mem_of_getElem? (i := 178) rfl) rfl
theorem wd_419 : Cond.methodLink "java/lang/StringUTF16" 48 ⟨"java/lang/StringUTF16", "length", "([B)I"⟩ ∈ gT := gin_2 (List.mem_of_getElem? (i := 179) rfl) rfl
theorem wd_420 : Cond.static ⟨"java/lang/StringUTF16", "length", "([B)I"⟩ ∈ gT := gin_2 (List.mem_of_getElem? (i := 180) rfl) rfl
theorem wd_421 : Cond.code ⟨"java/lang/StringUTF16", "length", "([B)I"⟩ prog_19_method_6_code 1 (some .int) ∈ gT := gin_2 (List.mem_of_getElem? (i := 181) rfl) rfl
theorem wd_422 : Cond.methodLink "java/lang/StringUTF16" 414 ⟨"java/lang/String", "checkIndex", "(II)V"⟩ ∈ gT := gin_2 (List.mem_of_getElem? (i := 182) rfl) rfl
theorem wd_423 : Cond.methodLink "java/lang/StringUTF16" 71 ⟨"java/lang/StringUTF16", "getChar", "([BI)C"⟩ ∈ gT := gin_2 (List.mem_of_getElem? (i := 183) rfl) rfl
theorem wd_424 : Cond.static ⟨"java/lang/StringUTF16", "getChar", "([BI)C"⟩ ∈ gT := gin_2 (List.mem_of_getElem? (i := 184) rfl) rfl
theorem wd_425 : Cond.code ⟨"java/lang/StringUTF16", "getChar", "([BI)C"⟩ prog_19_method_5_code 2 (some .char) ∈ gT := gin_2 (List.mem_of_getElem? (i := 185) rfl) rfl
theorem wd_426 : Cond.fieldLink "java/lang/StringUTF16" 44 "java/lang/StringUTF16" "$assertionsDisabled" "Z" ∈ gT := gin_2 (List.mem_of_getElem? (i := 186) rfl) rfl
theorem wd_428 : Cond.fieldLink "java/lang/StringUTF16" 59 "java/lang/StringUTF16" "HI_BYTE_SHIFT" "I" ∈ gT := gin_2 (List.mem_of_getElem? (i := 188) rfl) rfl
theorem wd_430 : Cond.fieldLink "java/lang/StringUTF16" 63 "java/lang/StringUTF16" "LO_BYTE_SHIFT" "I" ∈ gT := gin_2 (List.mem_of_getElem? (i := 190) rfl) rfl
theorem wd_437 : Cond.methodLink "LifeNoes$TextReader" 67 ⟨"LifeNoes$TextReader", "readPerson", "(I)Z"⟩ ∈ gT := gin_2 (List.mem_of_getElem? (i := 197) rfl) rfl
theorem wd_439 : Cond.instanceMethod ⟨"LifeNoes$TextReader", "readPerson", "(I)Z"⟩ ∈ gT := gin_2 (List.mem_of_getElem? (i := 199) rfl) rfl
theorem wd_440 : Cond.code ⟨"LifeNoes$TextReader", "readPerson", "(I)Z"⟩ prog_8_method_4_code 5 (some .boolean) ∈ gT := gin_2 (List.mem_of_getElem? (i := 200) rfl) rfl
theorem wd_442 : Cond.methodLink "LifeNoes$TextReader" 101 ⟨"LifeNoes$TextReader", "isNumber", "(II)Z"⟩ ∈ gT := gin_2 (List.mem_of_getElem? (i := 202) rfl) rfl
theorem wd_444 : Cond.instanceMethod ⟨"LifeNoes$TextReader", "isNumber", "(II)Z"⟩ ∈ gT := gin_2 (List.mem_of_getElem? (i := 204) rfl) rfl
theorem wd_445 : Cond.code ⟨"LifeNoes$TextReader", "isNumber", "(II)Z"⟩ prog_8_method_11_code 3 (some .boolean) ∈ gT := gin_2 (List.mem_of_getElem? (i := 205) rfl) rfl
theorem wd_447 : Cond.methodLink "LifeNoes$TextReader" 109 ⟨"LifeNoes$Village", "addPerson", "(IIII)I"⟩ ∈ gT := gin_2 (List.mem_of_getElem? (i := 207) rfl) rfl
theorem wd_448 : Cond.instanceMethod ⟨"LifeNoes$Village", "addPerson", "(IIII)I"⟩ ∈ gT := gin_2 (List.mem_of_getElem? (i := 208) rfl) rfl
theorem wd_449 : Cond.selects "LifeNoes$Village" ⟨"LifeNoes$Village", "addPerson", "(IIII)I"⟩ ⟨"LifeNoes$Village", "addPerson", "(IIII)I"⟩ ∈ gT := gin_2 (List.mem_of_getElem? (i := 209) rfl) rfl
theorem wd_450 : Cond.code ⟨"LifeNoes$Village", "addPerson", "(IIII)I"⟩ prog_11_method_4_code 7 (some .int) ∈ gT := gin_2 (List.mem_of_getElem? (i := 210) rfl) rfl
theorem wd_451 : Cond.methodLink "LifeNoes$TextReader" 93 ⟨"LifeNoes$TextReader", "readEnd", "()Z"⟩ ∈ gT := gin_2 (List.mem_of_getElem? (i := 211) rfl) rfl
theorem wd_453 : Cond.instanceMethod ⟨"LifeNoes$TextReader", "readEnd", "()Z"⟩ ∈ gT := gin_2 (List.mem_of_getElem? (i := 213) rfl) rfl
theorem wd_454 : Cond.code ⟨"LifeNoes$TextReader", "readEnd", "()Z"⟩ prog_8_method_8_code 1 (some .boolean) ∈ gT := gin_2 (List.mem_of_getElem? (i := 214) rfl) rfl
theorem wd_455 : Cond.methodLink "LifeNoes$TextReader" 125 ⟨"LifeNoes$TextReader", "isByte", "(I)Z"⟩ ∈ gT := gin_2 (List.mem_of_getElem? (i := 215) rfl) rfl
theorem wd_457 : Cond.instanceMethod ⟨"LifeNoes$TextReader", "isByte", "(I)Z"⟩ ∈ gT := gin_2 (List.mem_of_getElem? (i := 217) rfl) rfl
theorem wd_458 : Cond.code ⟨"LifeNoes$TextReader", "isByte", "(I)Z"⟩ prog_8_method_12_code 2 (some .boolean) ∈ gT := gin_2 (List.mem_of_getElem? (i := 218) rfl) rfl
theorem wd_460 : Cond.methodLink "LifeNoes$TextReader" 77 ⟨"LifeNoes$TextReader", "readProposal", "()Z"⟩ ∈ gT := gin_2 (List.mem_of_getElem? (i := 220) rfl) rfl
theorem wd_462 : Cond.instanceMethod ⟨"LifeNoes$TextReader", "readProposal", "()Z"⟩ ∈ gT := gin_2 (List.mem_of_getElem? (i := 222) rfl) rfl
theorem wd_463 : Cond.code ⟨"LifeNoes$TextReader", "readProposal", "()Z"⟩ prog_8_method_5_code 2 (some .boolean) ∈ gT := gin_2 (List.mem_of_getElem? (i := 223) rfl) rfl
theorem wd_464 : Cond.methodLink "LifeNoes$TextReader" 116 ⟨"LifeNoes$Village", "addProposal", "(I)I"⟩ ∈ gT := gin_2 (List.mem_of_getElem? (i := 224) rfl) rfl
theorem wd_465 : Cond.instanceMethod ⟨"LifeNoes$Village", "addProposal", "(I)I"⟩ ∈ gT := gin_2 (List.mem_of_getElem? (i := 225) rfl) rfl
theorem wd_466 : Cond.selects "LifeNoes$Village" ⟨"LifeNoes$Village", "addProposal", "(I)I"⟩ ⟨"LifeNoes$Village", "addProposal", "(I)I"⟩ ∈ gT := gin_2 (List.mem_of_getElem? (i := 226) rfl) rfl
theorem wd_467 : Cond.code ⟨"LifeNoes$Village", "addProposal", "(I)I"⟩ prog_11_method_6_code 4 (some .int) ∈ gT := gin_2 (List.mem_of_getElem? (i := 227) rfl) rfl
theorem wd_469 : Cond.methodLink "LifeNoes$TextReader" 122 ⟨"LifeNoes$TextReader", "readWorths", "(I)Z"⟩ ∈ gT := gin_2 (List.mem_of_getElem? (i := 229) rfl) rfl
theorem wd_471 : Cond.instanceMethod ⟨"LifeNoes$TextReader", "readWorths", "(I)Z"⟩ ∈ gT := gin_2 (List.mem_of_getElem? (i := 231) rfl) rfl
theorem wd_472 : Cond.code ⟨"LifeNoes$TextReader", "readWorths", "(I)Z"⟩ prog_8_method_6_code 4 (some .boolean) ∈ gT := gin_2 (List.mem_of_getElem? (i := 232) rfl) rfl
theorem wd_474 : Cond.methodLink "LifeNoes$TextReader" 82 ⟨"LifeNoes$TextReader", "readLaw", "(III)Z"⟩ ∈ gT := gin_2 (List.mem_of_getElem? (i := 234) rfl) rfl
theorem wd_476 : Cond.instanceMethod ⟨"LifeNoes$TextReader", "readLaw", "(III)Z"⟩ ∈ gT := gin_2 (List.mem_of_getElem? (i := 236) rfl) rfl
theorem wd_477 : Cond.code ⟨"LifeNoes$TextReader", "readLaw", "(III)Z"⟩ prog_8_method_7_code 4 (some .boolean) ∈ gT := gin_2 (List.mem_of_getElem? (i := 237) rfl) rfl
theorem wd_480 : Cond.methodLink "LifeNoes" 120 ⟨"LifeNoes$Village", "copyFrom", "(LLifeNoes$Village;)V"⟩ ∈ gT := gin_3 (List.mem_of_getElem? (i := 0) rfl) rfl
theorem wd_481 : Cond.instanceMethod ⟨"LifeNoes$Village", "copyFrom", "(LLifeNoes$Village;)V"⟩ ∈ gT := gin_3 (List.mem_of_getElem? (i := 1) rfl) rfl
theorem wd_482 : Cond.selects "LifeNoes$Village" ⟨"LifeNoes$Village", "copyFrom", "(LLifeNoes$Village;)V"⟩ ⟨"LifeNoes$Village", "copyFrom", "(LLifeNoes$Village;)V"⟩ ∈ gT := gin_3 (List.mem_of_getElem? (i := 2) rfl) rfl
theorem wd_483 : Cond.code ⟨"LifeNoes$Village", "copyFrom", "(LLifeNoes$Village;)V"⟩ prog_11_method_3_code 3 none ∈ gT := gin_3 (List.mem_of_getElem? (i := 3) rfl) rfl
theorem wd_484 : Cond.methodLink "LifeNoes$Village" 54 ⟨"java/lang/System", "arraycopy", "(Ljava/lang/Object;ILjava/lang/Object;II)V"⟩ ∈ gT := gin_3 (List.mem_of_getElem? (i := 4) rfl) rfl
theorem wd_485 : Cond.arrayClass .byte ∈ gT := gin_3 (List.mem_of_getElem? (i := 5) rfl) rfl
theorem wd_486 : Cond.methodLink "LifeNoesLaw" 25 ⟨"LifeNoes", "person", "(IIII)I"⟩ ∈ gT := gin_3 (List.mem_of_getElem? (i := 6) rfl) rfl
theorem wd_487 : Cond.instanceMethod ⟨"LifeNoes", "person", "(IIII)I"⟩ ∈ gT := gin_3 (List.mem_of_getElem? (i := 7) rfl) rfl
theorem wd_488 : Cond.selects "LifeNoes" ⟨"LifeNoes", "person", "(IIII)I"⟩ ⟨"LifeNoes", "person", "(IIII)I"⟩ ∈ gT := gin_3 (List.mem_of_getElem? (i := 8) rfl) rfl
theorem wd_489 : Cond.code ⟨"LifeNoes", "person", "(IIII)I"⟩ prog_1_method_4_code 5 (some .int) ∈ gT := gin_3 (List.mem_of_getElem? (i := 9) rfl) rfl
theorem wd_490 : Cond.methodLink "LifeNoes" 127 ⟨"LifeNoes$Village", "addPerson", "(IIII)I"⟩ ∈ gT := gin_3 (List.mem_of_getElem? (i := 10) rfl) rfl
theorem wd_491 : Cond.methodLink "LifeNoesLaw" 30 ⟨"LifeNoes", "personOf", "(II)I"⟩ ∈ gT := gin_3 (List.mem_of_getElem? (i := 11) rfl) rfl
theorem wd_492 : Cond.instanceMethod ⟨"LifeNoes", "personOf", "(II)I"⟩ ∈ gT := gin_3 (List.mem_of_getElem? (i := 12) rfl) rfl
theorem wd_493 : Cond.selects "LifeNoes" ⟨"LifeNoes", "personOf", "(II)I"⟩ ⟨"LifeNoes", "personOf", "(II)I"⟩ ∈ gT := gin_3 (List.mem_of_getElem? (i := 13) rfl) rfl
theorem wd_494 : Cond.code ⟨"LifeNoes", "personOf", "(II)I"⟩ prog_1_method_5_code 3 (some .int) ∈ gT := gin_3 (List.mem_of_getElem? (i := 14) rfl) rfl
theorem wd_495 : Cond.methodLink "LifeNoes" 131 ⟨"LifeNoes", "isPerson", "(I)Z"⟩ ∈ gT := gin_3 (List.mem_of_getElem? (i := 15) rfl) rfl
theorem wd_497 : Cond.instanceMethod ⟨"LifeNoes", "isPerson", "(I)Z"⟩ ∈ gT := gin_3 (List.mem_of_getElem? (i := 17) rfl) rfl
theorem wd_498 : Cond.code ⟨"LifeNoes", "isPerson", "(I)Z"⟩ prog_1_method_45_code 2 (some .boolean) ∈ gT := gin_3 (List.mem_of_getElem? (i := 18) rfl) rfl
theorem wd_499 : Cond.methodLink "LifeNoesLaw" 35 ⟨"LifeNoes", "leave", "(I)I"⟩ ∈ gT := gin_3 (List.mem_of_getElem? (i := 19) rfl) rfl
theorem wd_500 : Cond.instanceMethod ⟨"LifeNoes", "leave", "(I)I"⟩ ∈ gT := gin_3 (List.mem_of_getElem? (i := 20) rfl) rfl
theorem wd_501 : Cond.selects "LifeNoes" ⟨"LifeNoes", "leave", "(I)I"⟩ ⟨"LifeNoes", "leave", "(I)I"⟩ ∈ gT := gin_3 (List.mem_of_getElem? (i := 21) rfl) rfl
theorem wd_502 : Cond.code ⟨"LifeNoes", "leave", "(I)I"⟩ prog_1_method_6_code 2 (some .int) ∈ gT := gin_3 (List.mem_of_getElem? (i := 22) rfl) rfl
theorem wd_503 : Cond.methodLink "LifeNoes" 147 ⟨"LifeNoes$Village", "removePerson", "(I)V"⟩ ∈ gT := gin_3 (List.mem_of_getElem? (i := 23) rfl) rfl
theorem wd_504 : Cond.instanceMethod ⟨"LifeNoes$Village", "removePerson", "(I)V"⟩ ∈ gT := gin_3 (List.mem_of_getElem? (i := 24) rfl) rfl
theorem wd_505 : Cond.selects "LifeNoes$Village" ⟨"LifeNoes$Village", "removePerson", "(I)V"⟩ ⟨"LifeNoes$Village", "removePerson", "(I)V"⟩ ∈ gT := gin_3 (List.mem_of_getElem? (i := 25) rfl) rfl
theorem wd_506 : Cond.code ⟨"LifeNoes$Village", "removePerson", "(I)V"⟩ prog_11_method_5_code 4 none ∈ gT := gin_3 (List.mem_of_getElem? (i := 26) rfl) rfl
theorem wd_507 : Cond.methodLink "LifeNoesLaw" 40 ⟨"LifeNoes", "mind", "(III)I"⟩ ∈ gT := gin_3 (List.mem_of_getElem? (i := 27) rfl) rfl
theorem wd_508 : Cond.instanceMethod ⟨"LifeNoes", "mind", "(III)I"⟩ ∈ gT := gin_3 (List.mem_of_getElem? (i := 28) rfl) rfl
theorem wd_509 : Cond.selects "LifeNoes" ⟨"LifeNoes", "mind", "(III)I"⟩ ⟨"LifeNoes", "mind", "(III)I"⟩ ∈ gT := gin_3 (List.mem_of_getElem? (i := 29) rfl) rfl
theorem wd_510 : Cond.code ⟨"LifeNoes", "mind", "(III)I"⟩ prog_1_method_7_code 5 (some .int) ∈ gT := gin_3 (List.mem_of_getElem? (i := 30) rfl) rfl
theorem wd_511 : Cond.methodLink "LifeNoesLaw" 45 ⟨"LifeNoes", "give", "(II)I"⟩ ∈ gT := gin_3 (List.mem_of_getElem? (i := 31) rfl) rfl
theorem wd_512 : Cond.instanceMethod ⟨"LifeNoes", "give", "(II)I"⟩ ∈ gT := gin_3 (List.mem_of_getElem? (i := 32) rfl) rfl
theorem wd_513 : Cond.selects "LifeNoes" ⟨"LifeNoes", "give", "(II)I"⟩ ⟨"LifeNoes", "give", "(II)I"⟩ ∈ gT := gin_3 (List.mem_of_getElem? (i := 33) rfl) rfl
theorem wd_514 : Cond.code ⟨"LifeNoes", "give", "(II)I"⟩ prog_1_method_8_code 3 (some .int) ∈ gT := gin_3 (List.mem_of_getElem? (i := 34) rfl) rfl
theorem wd_515 : Cond.methodLink "LifeNoesLaw" 49 ⟨"LifeNoes", "noes", "(II)I"⟩ ∈ gT := gin_3 (List.mem_of_getElem? (i := 35) rfl) rfl
theorem wd_516 : Cond.instanceMethod ⟨"LifeNoes", "noes", "(II)I"⟩ ∈ gT := gin_3 (List.mem_of_getElem? (i := 36) rfl) rfl
theorem wd_517 : Cond.selects "LifeNoes" ⟨"LifeNoes", "noes", "(II)I"⟩ ⟨"LifeNoes", "noes", "(II)I"⟩ ∈ gT := gin_3 (List.mem_of_getElem? (i := 37) rfl) rfl
theorem wd_518 : Cond.code ⟨"LifeNoes", "noes", "(II)I"⟩ prog_1_method_9_code 4 (some .int) ∈ gT := gin_3 (List.mem_of_getElem? (i := 38) rfl) rfl
theorem wd_519 : Cond.methodLink "LifeNoesLaw" 53 ⟨"LifeNoes", "proposal", "(I)I"⟩ ∈ gT := gin_3 (List.mem_of_getElem? (i := 39) rfl) rfl
theorem wd_520 : Cond.instanceMethod ⟨"LifeNoes", "proposal", "(I)I"⟩ ∈ gT := gin_3 (List.mem_of_getElem? (i := 40) rfl) rfl
theorem wd_521 : Cond.selects "LifeNoes" ⟨"LifeNoes", "proposal", "(I)I"⟩ ⟨"LifeNoes", "proposal", "(I)I"⟩ ∈ gT := gin_3 (List.mem_of_getElem? (i := 41) rfl) rfl
theorem wd_522 : Cond.code ⟨"LifeNoes", "proposal", "(I)I"⟩ prog_1_method_10_code 2 (some .int) ∈ gT := gin_3 (List.mem_of_getElem? (i := 42) rfl) rfl
theorem wd_523 : Cond.methodLink "LifeNoes" 154 ⟨"LifeNoes$Village", "addProposal", "(I)I"⟩ ∈ gT := gin_3 (List.mem_of_getElem? (i := 43) rfl) rfl
theorem wd_524 : Cond.methodLink "LifeNoesLaw" 57 ⟨"LifeNoes", "weigh", "(II)I"⟩ ∈ gT := gin_3 (List.mem_of_getElem? (i := 44) rfl) rfl
theorem wd_525 : Cond.instanceMethod ⟨"LifeNoes", "weigh", "(II)I"⟩ ∈ gT := gin_3 (List.mem_of_getElem? (i := 45) rfl) rfl
theorem wd_526 : Cond.selects "LifeNoes" ⟨"LifeNoes", "weigh", "(II)I"⟩ ⟨"LifeNoes", "weigh", "(II)I"⟩ ∈ gT := gin_3 (List.mem_of_getElem? (i := 46) rfl) rfl
theorem wd_527 : Cond.code ⟨"LifeNoes", "weigh", "(II)I"⟩ prog_1_method_11_code 4 (some .int) ∈ gT := gin_3 (List.mem_of_getElem? (i := 47) rfl) rfl
theorem wd_528 : Cond.methodLink "LifeNoes" 158 ⟨"LifeNoes", "isProposal", "(I)Z"⟩ ∈ gT := gin_3 (List.mem_of_getElem? (i := 48) rfl) rfl
theorem wd_530 : Cond.instanceMethod ⟨"LifeNoes", "isProposal", "(I)Z"⟩ ∈ gT := gin_3 (List.mem_of_getElem? (i := 50) rfl) rfl
theorem wd_531 : Cond.code ⟨"LifeNoes", "isProposal", "(I)Z"⟩ prog_1_method_46_code 2 (some .boolean) ∈ gT := gin_3 (List.mem_of_getElem? (i := 51) rfl) rfl
theorem wd_532 : Cond.methodLink "LifeNoesLaw" 61 ⟨"LifeNoes", "worth", "(III)I"⟩ ∈ gT := gin_3 (List.mem_of_getElem? (i := 52) rfl) rfl
theorem wd_533 : Cond.instanceMethod ⟨"LifeNoes", "worth", "(III)I"⟩ ∈ gT := gin_3 (List.mem_of_getElem? (i := 53) rfl) rfl
theorem wd_534 : Cond.selects "LifeNoes" ⟨"LifeNoes", "worth", "(III)I"⟩ ⟨"LifeNoes", "worth", "(III)I"⟩ ∈ gT := gin_3 (List.mem_of_getElem? (i := 54) rfl) rfl
theorem wd_535 : Cond.code ⟨"LifeNoes", "worth", "(III)I"⟩ prog_1_method_12_code 5 (some .int) ∈ gT := gin_3 (List.mem_of_getElem? (i := 55) rfl) rfl
theorem wd_536 : Cond.methodLink "LifeNoesLaw" 65 ⟨"LifeNoes", "proposalOf", "(II)I"⟩ ∈ gT := gin_3 (List.mem_of_getElem? (i := 56) rfl) rfl
theorem wd_537 : Cond.instanceMethod ⟨"LifeNoes", "proposalOf", "(II)I"⟩ ∈ gT := gin_3 (List.mem_of_getElem? (i := 57) rfl) rfl
theorem wd_538 : Cond.selects "LifeNoes" ⟨"LifeNoes", "proposalOf", "(II)I"⟩ ⟨"LifeNoes", "proposalOf", "(II)I"⟩ ∈ gT := gin_3 (List.mem_of_getElem? (i := 58) rfl) rfl
theorem wd_539 : Cond.code ⟨"LifeNoes", "proposalOf", "(II)I"⟩ prog_1_method_13_code 3 (some .int) ∈ gT := gin_3 (List.mem_of_getElem? (i := 59) rfl) rfl
theorem wd_540 : Cond.methodLink "LifeNoesLaw" 69 ⟨"LifeNoes", "set", "(II)I"⟩ ∈ gT := gin_3 (List.mem_of_getElem? (i := 60) rfl) rfl
theorem wd_541 : Cond.instanceMethod ⟨"LifeNoes", "set", "(II)I"⟩ ∈ gT := gin_3 (List.mem_of_getElem? (i := 61) rfl) rfl
theorem wd_542 : Cond.selects "LifeNoes" ⟨"LifeNoes", "set", "(II)I"⟩ ⟨"LifeNoes", "set", "(II)I"⟩ ∈ gT := gin_3 (List.mem_of_getElem? (i := 62) rfl) rfl
theorem wd_543 : Cond.code ⟨"LifeNoes", "set", "(II)I"⟩ prog_1_method_14_code 4 (some .int) ∈ gT := gin_3 (List.mem_of_getElem? (i := 63) rfl) rfl
theorem wd_544 : Cond.methodLink "LifeNoes" 167 ⟨"LifeNoes", "mayBeLaw", "(II)Z"⟩ ∈ gT := gin_3 (List.mem_of_getElem? (i := 64) rfl) rfl
theorem wd_545 : Cond.static ⟨"LifeNoes", "mayBeLaw", "(II)Z"⟩ ∈ gT := gin_3 (List.mem_of_getElem? (i := 65) rfl) rfl
theorem wd_546 : Cond.code ⟨"LifeNoes", "mayBeLaw", "(II)Z"⟩ prog_1_method_48_code 2 (some .boolean) ∈ gT := gin_3 (List.mem_of_getElem? (i := 66) rfl) rfl
theorem wd_547 : Cond.methodLink "LifeNoesLaw" 73 ⟨"LifeNoes", "law", "(I)I"⟩ ∈ gT := gin_3 (List.mem_of_getElem? (i := 67) rfl) rfl
theorem wd_548 : Cond.instanceMethod ⟨"LifeNoes", "law", "(I)I"⟩ ∈ gT := gin_3 (List.mem_of_getElem? (i := 68) rfl) rfl
theorem wd_549 : Cond.selects "LifeNoes" ⟨"LifeNoes", "law", "(I)I"⟩ ⟨"LifeNoes", "law", "(I)I"⟩ ∈ gT := gin_3 (List.mem_of_getElem? (i := 69) rfl) rfl
theorem wd_550 : Cond.code ⟨"LifeNoes", "law", "(I)I"⟩ prog_1_method_15_code 2 (some .int) ∈ gT := gin_3 (List.mem_of_getElem? (i := 70) rfl) rfl
theorem wd_551 : Cond.methodLink "LifeNoesLaw" 77 ⟨"LifeNoes", "would", "(I)I"⟩ ∈ gT := gin_3 (List.mem_of_getElem? (i := 71) rfl) rfl
theorem wd_552 : Cond.instanceMethod ⟨"LifeNoes", "would", "(I)I"⟩ ∈ gT := gin_3 (List.mem_of_getElem? (i := 72) rfl) rfl
theorem wd_553 : Cond.selects "LifeNoes" ⟨"LifeNoes", "would", "(I)I"⟩ ⟨"LifeNoes", "would", "(I)I"⟩ ∈ gT := gin_3 (List.mem_of_getElem? (i := 73) rfl) rfl
theorem wd_554 : Cond.code ⟨"LifeNoes", "would", "(I)I"⟩ prog_1_method_16_code 2 (some .int) ∈ gT := gin_3 (List.mem_of_getElem? (i := 74) rfl) rfl
theorem wd_555 : Cond.methodLink "LifeNoes" 174 ⟨"LifeNoes$Village", "packedNoes", "()I"⟩ ∈ gT := gin_3 (List.mem_of_getElem? (i := 75) rfl) rfl
theorem wd_556 : Cond.instanceMethod ⟨"LifeNoes$Village", "packedNoes", "()I"⟩ ∈ gT := gin_3 (List.mem_of_getElem? (i := 76) rfl) rfl
theorem wd_557 : Cond.selects "LifeNoes$Village" ⟨"LifeNoes$Village", "packedNoes", "()I"⟩ ⟨"LifeNoes$Village", "packedNoes", "()I"⟩ ∈ gT := gin_3 (List.mem_of_getElem? (i := 77) rfl) rfl
theorem wd_558 : Cond.code ⟨"LifeNoes$Village", "packedNoes", "()I"⟩ prog_11_method_9_code 3 (some .int) ∈ gT := gin_3 (List.mem_of_getElem? (i := 78) rfl) rfl
theorem wd_559 : Cond.methodLink "LifeNoes" 178 ⟨"LifeNoes$Village", "whoWould", "(III)I"⟩ ∈ gT := gin_3 (List.mem_of_getElem? (i := 79) rfl) rfl
theorem wd_560 : Cond.instanceMethod ⟨"LifeNoes$Village", "whoWould", "(III)I"⟩ ∈ gT := gin_3 (List.mem_of_getElem? (i := 80) rfl) rfl
theorem wd_561 : Cond.selects "LifeNoes$Village" ⟨"LifeNoes$Village", "whoWould", "(III)I"⟩ ⟨"LifeNoes$Village", "whoWould", "(III)I"⟩ ∈ gT := gin_3 (List.mem_of_getElem? (i := 81) rfl) rfl
theorem wd_562 : Cond.code ⟨"LifeNoes$Village", "whoWould", "(III)I"⟩ prog_11_method_12_code 7 (some .int) ∈ gT := gin_3 (List.mem_of_getElem? (i := 82) rfl) rfl
theorem wd_563 : Cond.methodLink "LifeNoes$Village" 64 ⟨"LifeNoes$Village", "calledOfLeague", "(II)I"⟩ ∈ gT := gin_3 (List.mem_of_getElem? (i := 83) rfl) rfl
theorem wd_565 : Cond.instanceMethod ⟨"LifeNoes$Village", "calledOfLeague", "(II)I"⟩ ∈ gT := gin_3 (List.mem_of_getElem? (i := 85) rfl) rfl
theorem wd_566 : Cond.code ⟨"LifeNoes$Village", "calledOfLeague", "(II)I"⟩ prog_11_method_15_code 6 (some .int) ∈ gT := gin_3 (List.mem_of_getElem? (i := 86) rfl) rfl
theorem wd_567 : Cond.methodLink "LifeNoes$Village" 79 ⟨"LifeNoes$Village", "isInLeague", "(II)Z"⟩ ∈ gT := gin_3 (List.mem_of_getElem? (i := 87) rfl) rfl
theorem wd_569 : Cond.instanceMethod ⟨"LifeNoes$Village", "isInLeague", "(II)Z"⟩ ∈ gT := gin_3 (List.mem_of_getElem? (i := 89) rfl) rfl
theorem wd_570 : Cond.code ⟨"LifeNoes$Village", "isInLeague", "(II)Z"⟩ prog_11_method_16_code 3 (some .boolean) ∈ gT := gin_3 (List.mem_of_getElem? (i := 90) rfl) rfl
theorem wd_571 : Cond.methodLink "LifeNoes$Village" 68 ⟨"LifeNoes$Village", "noesIn", "(II)I"⟩ ∈ gT := gin_3 (List.mem_of_getElem? (i := 91) rfl) rfl
theorem wd_572 : Cond.static ⟨"LifeNoes$Village", "noesIn", "(II)I"⟩ ∈ gT := gin_3 (List.mem_of_getElem? (i := 92) rfl) rfl
theorem wd_573 : Cond.code ⟨"LifeNoes$Village", "noesIn", "(II)I"⟩ prog_11_method_10_code 2 (some .int) ∈ gT := gin_3 (List.mem_of_getElem? (i := 93) rfl) rfl
theorem wd_574 : Cond.methodLink "LifeNoes$Village" 71 ⟨"LifeNoes$Village", "dislikes", "(IIII)Z"⟩ ∈ gT := gin_3 (List.mem_of_getElem? (i := 94) rfl) rfl
theorem wd_576 : Cond.instanceMethod ⟨"LifeNoes$Village", "dislikes", "(IIII)Z"⟩ ∈ gT := gin_3 (List.mem_of_getElem? (i := 96) rfl) rfl
theorem wd_577 : Cond.code ⟨"LifeNoes$Village", "dislikes", "(IIII)Z"⟩ prog_11_method_13_code 6 (some .boolean) ∈ gT := gin_3 (List.mem_of_getElem? (i := 97) rfl) rfl
theorem wd_578 : Cond.methodLink "LifeNoes$Village" 75 ⟨"LifeNoes$Village", "hasWorseOff", "(III)Z"⟩ ∈ gT := gin_3 (List.mem_of_getElem? (i := 98) rfl) rfl
theorem wd_580 : Cond.instanceMethod ⟨"LifeNoes$Village", "hasWorseOff", "(III)Z"⟩ ∈ gT := gin_3 (List.mem_of_getElem? (i := 100) rfl) rfl
theorem wd_581 : Cond.code ⟨"LifeNoes$Village", "hasWorseOff", "(III)Z"⟩ prog_11_method_14_code 5 (some .boolean) ∈ gT := gin_3 (List.mem_of_getElem? (i := 101) rfl) rfl
theorem wd_582 : Cond.methodLink "LifeNoesLaw" 81 ⟨"LifeNoes", "says", "(I)I"⟩ ∈ gT := gin_3 (List.mem_of_getElem? (i := 102) rfl) rfl
theorem wd_583 : Cond.instanceMethod ⟨"LifeNoes", "says", "(I)I"⟩ ∈ gT := gin_3 (List.mem_of_getElem? (i := 103) rfl) rfl
theorem wd_584 : Cond.selects "LifeNoes" ⟨"LifeNoes", "says", "(I)I"⟩ ⟨"LifeNoes", "says", "(I)I"⟩ ∈ gT := gin_3 (List.mem_of_getElem? (i := 104) rfl) rfl
theorem wd_585 : Cond.code ⟨"LifeNoes", "says", "(I)I"⟩ prog_1_method_17_code 2 (some .int) ∈ gT := gin_3 (List.mem_of_getElem? (i := 105) rfl) rfl
theorem wd_586 : Cond.methodLink "LifeNoes" 182 ⟨"LifeNoes$Village", "whoSays", "(III)I"⟩ ∈ gT := gin_3 (List.mem_of_getElem? (i := 106) rfl) rfl
theorem wd_587 : Cond.instanceMethod ⟨"LifeNoes$Village", "whoSays", "(III)I"⟩ ∈ gT := gin_3 (List.mem_of_getElem? (i := 107) rfl) rfl
theorem wd_588 : Cond.selects "LifeNoes$Village" ⟨"LifeNoes$Village", "whoSays", "(III)I"⟩ ⟨"LifeNoes$Village", "whoSays", "(III)I"⟩ ∈ gT := gin_3 (List.mem_of_getElem? (i := 108) rfl) rfl
theorem wd_589 : Cond.code ⟨"LifeNoes$Village", "whoSays", "(III)I"⟩ prog_11_method_17_code 4 (some .int) ∈ gT := gin_3 (List.mem_of_getElem? (i := 109) rfl) rfl
theorem wd_590 : Cond.methodLink "LifeNoes$Village" 83 ⟨"LifeNoes$Village", "whoWould", "(III)I"⟩ ∈ gT := gin_3 (List.mem_of_getElem? (i := 110) rfl) rfl
theorem wd_591 : Cond.methodLink "LifeNoes$Village" 87 ⟨"LifeNoes$Village", "sayersOf", "(I)I"⟩ ∈ gT := gin_3 (List.mem_of_getElem? (i := 111) rfl) rfl
theorem wd_592 : Cond.instanceMethod ⟨"LifeNoes$Village", "sayersOf", "(I)I"⟩ ∈ gT := gin_3 (List.mem_of_getElem? (i := 112) rfl) rfl
theorem wd_593 : Cond.selects "LifeNoes$Village" ⟨"LifeNoes$Village", "sayersOf", "(I)I"⟩ ⟨"LifeNoes$Village", "sayersOf", "(I)I"⟩ ∈ gT := gin_3 (List.mem_of_getElem? (i := 113) rfl) rfl
theorem wd_594 : Cond.code ⟨"LifeNoes$Village", "sayersOf", "(I)I"⟩ prog_11_method_18_code 6 (some .int) ∈ gT := gin_3 (List.mem_of_getElem? (i := 114) rfl) rfl
theorem wd_595 : Cond.methodLink "LifeNoes$Village" 91 ⟨"LifeNoes$Village", "oldestOf", "(I)I"⟩ ∈ gT := gin_3 (List.mem_of_getElem? (i := 115) rfl) rfl
theorem wd_597 : Cond.instanceMethod ⟨"LifeNoes$Village", "oldestOf", "(I)I"⟩ ∈ gT := gin_3 (List.mem_of_getElem? (i := 117) rfl) rfl
theorem wd_598 : Cond.code ⟨"LifeNoes$Village", "oldestOf", "(I)I"⟩ prog_11_method_19_code 4 (some .int) ∈ gT := gin_3 (List.mem_of_getElem? (i := 118) rfl) rfl
theorem wd_599 : Cond.methodLink "LifeNoes$Village" 94 ⟨"java/lang/Math", "max", "(II)I"⟩ ∈ gT := gin_3 (List.mem_of_getElem? (i := 119) rfl) rfl
theorem wd_600 : Cond.methodLink "LifeNoesLaw" 85 ⟨"LifeNoes", "comes", "(I)I"⟩ ∈ gT := gin_3 (List.mem_of_getElem? (i := 120) rfl) rfl
theorem wd_601 : Cond.instanceMethod ⟨"LifeNoes", "comes", "(I)I"⟩ ∈ gT := gin_3 (List.mem_of_getElem? (i := 121) rfl) rfl
theorem wd_602 : Cond.selects "LifeNoes" ⟨"LifeNoes", "comes", "(I)I"⟩ ⟨"LifeNoes", "comes", "(I)I"⟩ ∈ gT := gin_3 (List.mem_of_getElem? (i := 122) rfl) rfl
theorem wd_603 : Cond.code ⟨"LifeNoes", "comes", "(I)I"⟩ prog_1_method_18_code 2 (some .int) ∈ gT := gin_3 (List.mem_of_getElem? (i := 123) rfl) rfl
theorem wd_604 : Cond.methodLink "LifeNoes" 185 ⟨"LifeNoes$Village", "passYear", "(I)Z"⟩ ∈ gT := gin_3 (List.mem_of_getElem? (i := 124) rfl) rfl
theorem wd_605 : Cond.instanceMethod ⟨"LifeNoes$Village", "passYear", "(I)Z"⟩ ∈ gT := gin_3 (List.mem_of_getElem? (i := 125) rfl) rfl
theorem wd_606 : Cond.selects "LifeNoes$Village" ⟨"LifeNoes$Village", "passYear", "(I)Z"⟩ ⟨"LifeNoes$Village", "passYear", "(I)Z"⟩ ∈ gT := gin_3 (List.mem_of_getElem? (i := 126) rfl) rfl
theorem wd_607 : Cond.code ⟨"LifeNoes$Village", "passYear", "(I)Z"⟩ prog_11_method_22_code 7 (some .boolean) ∈ gT := gin_3 (List.mem_of_getElem? (i := 127) rfl) rfl
theorem wd_608 : Cond.methodLink "LifeNoes$Village" 104 ⟨"LifeNoes$Village", "packedNoes", "()I"⟩ ∈ gT := gin_3 (List.mem_of_getElem? (i := 128) rfl) rfl
theorem wd_609 : Cond.methodLink "LifeNoes$Village" 107 ⟨"LifeNoes$Village", "whoSays", "(III)I"⟩ ∈ gT := gin_3 (List.mem_of_getElem? (i := 129) rfl) rfl
theorem wd_610 : Cond.methodLink "LifeNoes$Village" 110 ⟨"LifeNoes$Village", "isFall", "(I)Z"⟩ ∈ gT := gin_3 (List.mem_of_getElem? (i := 130) rfl) rfl
theorem wd_611 : Cond.instanceMethod ⟨"LifeNoes$Village", "isFall", "(I)Z"⟩ ∈ gT := gin_3 (List.mem_of_getElem? (i := 131) rfl) rfl
theorem wd_612 : Cond.selects "LifeNoes$Village" ⟨"LifeNoes$Village", "isFall", "(I)Z"⟩ ⟨"LifeNoes$Village", "isFall", "(I)Z"⟩ ∈ gT := gin_3 (List.mem_of_getElem? (i := 132) rfl) rfl
theorem wd_613 : Cond.code ⟨"LifeNoes$Village", "isFall", "(I)Z"⟩ prog_11_method_20_code 2 (some .boolean) ∈ gT := gin_3 (List.mem_of_getElem? (i := 133) rfl) rfl
theorem wd_614 : Cond.methodLink "LifeNoes$Village" 99 ⟨"java/lang/Integer", "bitCount", "(I)I"⟩ ∈ gT := gin_3 (List.mem_of_getElem? (i := 134) rfl) rfl
theorem wd_615 : Cond.static ⟨"java/lang/Integer", "bitCount", "(I)I"⟩ ∈ gT := gin_3 (List.mem_of_getElem? (i := 135) rfl) rfl
theorem wd_616 : Cond.code ⟨"java/lang/Integer", "bitCount", "(I)I"⟩ prog_15_method_49_code 1 (some .int) ∈ gT := gin_3 (List.mem_of_getElem? (i := 136) rfl) rfl
theorem wd_617 : Cond.constant "java/lang/Integer" 265 1431655765 ∈ gT := gin_3 (List.mem_of_getElem? (i := 137) rfl) rfl
theorem wd_618 : Cond.constant "java/lang/Integer" 266 858993459 ∈ gT := gin_3 (List.mem_of_getElem? (i := 138) rfl) rfl
theorem wd_619 : Cond.constant "java/lang/Integer" 267 252645135 ∈ gT := gin_3 (List.mem_of_getElem? (i := 139) rfl) rfl
theorem wd_620 : Cond.methodLink "LifeNoes$Village" 114 ⟨"LifeNoes$Village", "noesAfter", "(III)I"⟩ ∈ gT := gin_3 (List.mem_of_getElem? (i := 140) rfl) rfl
theorem wd_621 : Cond.instanceMethod ⟨"LifeNoes$Village", "noesAfter", "(III)I"⟩ ∈ gT := gin_3 (List.mem_of_getElem? (i := 141) rfl) rfl
theorem wd_622 : Cond.selects "LifeNoes$Village" ⟨"LifeNoes$Village", "noesAfter", "(III)I"⟩ ⟨"LifeNoes$Village", "noesAfter", "(III)I"⟩ ∈ gT := gin_3 (List.mem_of_getElem? (i := 142) rfl) rfl
theorem wd_623 : Cond.code ⟨"LifeNoes$Village", "noesAfter", "(III)I"⟩ prog_11_method_21_code 8 (some .int) ∈ gT := gin_3 (List.mem_of_getElem? (i := 143) rfl) rfl
theorem wd_624 : Cond.methodLink "LifeNoesLaw" 89 ⟨"LifeNoes", "lot", "()I"⟩ ∈ gT := gin_3 (List.mem_of_getElem? (i := 144) rfl) rfl
theorem wd_625 : Cond.instanceMethod ⟨"LifeNoes", "lot", "()I"⟩ ∈ gT := gin_3 (List.mem_of_getElem? (i := 145) rfl) rfl
theorem wd_626 : Cond.selects "LifeNoes" ⟨"LifeNoes", "lot", "()I"⟩ ⟨"LifeNoes", "lot", "()I"⟩ ∈ gT := gin_3 (List.mem_of_getElem? (i := 146) rfl) rfl
theorem wd_627 : Cond.code ⟨"LifeNoes", "lot", "()I"⟩ prog_1_method_19_code 2 (some .int) ∈ gT := gin_3 (List.mem_of_getElem? (i := 147) rfl) rfl
theorem wd_628 : Cond.methodLink "LifeNoes" 188 ⟨"LifeNoes$Village", "allWeights", "()I"⟩ ∈ gT := gin_3 (List.mem_of_getElem? (i := 148) rfl) rfl
theorem wd_629 : Cond.instanceMethod ⟨"LifeNoes$Village", "allWeights", "()I"⟩ ∈ gT := gin_3 (List.mem_of_getElem? (i := 149) rfl) rfl
theorem wd_630 : Cond.selects "LifeNoes$Village" ⟨"LifeNoes$Village", "allWeights", "()I"⟩ ⟨"LifeNoes$Village", "allWeights", "()I"⟩ ∈ gT := gin_3 (List.mem_of_getElem? (i := 150) rfl) rfl
theorem wd_631 : Cond.code ⟨"LifeNoes$Village", "allWeights", "()I"⟩ prog_11_method_7_code 3 (some .int) ∈ gT := gin_3 (List.mem_of_getElem? (i := 151) rfl) rfl
theorem wd_632 : Cond.methodLink "LifeNoes" 191 ⟨"LifeNoes", "nextLot", "(I)I"⟩ ∈ gT := gin_3 (List.mem_of_getElem? (i := 152) rfl) rfl
theorem wd_633 : Cond.static ⟨"LifeNoes", "nextLot", "(I)I"⟩ ∈ gT := gin_3 (List.mem_of_getElem? (i := 153) rfl) rfl
theorem wd_634 : Cond.code ⟨"LifeNoes", "nextLot", "(I)I"⟩ prog_1_method_49_code 1 (some .int) ∈ gT := gin_3 (List.mem_of_getElem? (i := 154) rfl) rfl
theorem wd_635 : Cond.constant "LifeNoes" 308 1103515245 ∈ gT := gin_3 (List.mem_of_getElem? (i := 155) rfl) rfl
theorem wd_636 : Cond.methodLink "LifeNoes" 194 ⟨"LifeNoes$Village", "drawn", "(I)I"⟩ ∈ gT := gin_3 (List.mem_of_getElem? (i := 156) rfl) rfl
theorem wd_637 : Cond.instanceMethod ⟨"LifeNoes$Village", "drawn", "(I)I"⟩ ∈ gT := gin_3 (List.mem_of_getElem? (i := 157) rfl) rfl
theorem wd_638 : Cond.selects "LifeNoes$Village" ⟨"LifeNoes$Village", "drawn", "(I)I"⟩ ⟨"LifeNoes$Village", "drawn", "(I)I"⟩ ∈ gT := gin_3 (List.mem_of_getElem? (i := 158) rfl) rfl
theorem wd_639 : Cond.code ⟨"LifeNoes$Village", "drawn", "(I)I"⟩ prog_11_method_11_code 6 (some .int) ∈ gT := gin_3 (List.mem_of_getElem? (i := 159) rfl) rfl
theorem wd_640 : Cond.methodLink "LifeNoes$Village" 60 ⟨"LifeNoes$Village", "allWeights", "()I"⟩ ∈ gT := gin_3 (List.mem_of_getElem? (i := 160) rfl) rfl
theorem wd_641 : Cond.methodLink "LifeNoesLaw" 93 ⟨"LifeNoes", "had", "(I)I"⟩ ∈ gT := gin_3 (List.mem_of_getElem? (i := 161) rfl) rfl
theorem wd_642 : Cond.instanceMethod ⟨"LifeNoes", "had", "(I)I"⟩ ∈ gT := gin_3 (List.mem_of_getElem? (i := 162) rfl) rfl
theorem wd_643 : Cond.selects "LifeNoes" ⟨"LifeNoes", "had", "(I)I"⟩ ⟨"LifeNoes", "had", "(I)I"⟩ ∈ gT := gin_3 (List.mem_of_getElem? (i := 163) rfl) rfl
theorem wd_644 : Cond.code ⟨"LifeNoes", "had", "(I)I"⟩ prog_1_method_20_code 2 (some .int) ∈ gT := gin_3 (List.mem_of_getElem? (i := 164) rfl) rfl
theorem wd_645 : Cond.constant "LifeNoes" 200 100000 ∈ gT := gin_3 (List.mem_of_getElem? (i := 165) rfl) rfl
theorem wd_646 : Cond.methodLink "LifeNoesLaw" 97 ⟨"LifeNoes", "seed", "(I)I"⟩ ∈ gT := gin_3 (List.mem_of_getElem? (i := 166) rfl) rfl
theorem wd_647 : Cond.instanceMethod ⟨"LifeNoes", "seed", "(I)I"⟩ ∈ gT := gin_3 (List.mem_of_getElem? (i := 167) rfl) rfl
theorem wd_648 : Cond.selects "LifeNoes" ⟨"LifeNoes", "seed", "(I)I"⟩ ⟨"LifeNoes", "seed", "(I)I"⟩ ∈ gT := gin_3 (List.mem_of_getElem? (i := 168) rfl) rfl
theorem wd_649 : Cond.code ⟨"LifeNoes", "seed", "(I)I"⟩ prog_1_method_21_code 3 (some .int) ∈ gT := gin_3 (List.mem_of_getElem? (i := 169) rfl) rfl
theorem wd_650 : Cond.methodLink "LifeNoesLaw" 101 ⟨"LifeNoes", "value", "(III)J"⟩ ∈ gT := gin_3 (List.mem_of_getElem? (i := 170) rfl) rfl
theorem wd_651 : Cond.instanceMethod ⟨"LifeNoes", "value", "(III)J"⟩ ∈ gT := gin_3 (List.mem_of_getElem? (i := 171) rfl) rfl
theorem wd_652 : Cond.selects "LifeNoes" ⟨"LifeNoes", "value", "(III)J"⟩ ⟨"LifeNoes", "value", "(III)J"⟩ ∈ gT := gin_3 (List.mem_of_getElem? (i := 172) rfl) rfl
theorem wd_653 : Cond.code ⟨"LifeNoes", "value", "(III)J"⟩ prog_1_method_22_code 4 (some .long) ∈ gT := gin_3 (List.mem_of_getElem? (i := 173) rfl) rfl
theorem wd_654 : Cond.constantLong "LifeNoes" 201 (-1000000000000) ∈ gT := gin_3 (List.mem_of_getElem? (i := 174) rfl) rfl
theorem wd_655 : Cond.methodLink "LifeNoes" 203 ⟨"LifeNoes$Ahead", "look", "(LLifeNoes$Village;I)V"⟩ ∈ gT := gin_3 (List.mem_of_getElem? (i := 175) rfl) rfl
theorem wd_656 : Cond.instanceMethod ⟨"LifeNoes$Ahead", "look", "(LLifeNoes$Village;I)V"⟩ ∈ gT := gin_3 (List.mem_of_getElem? (i := 176) rfl) rfl
theorem wd_657 : Cond.selects "LifeNoes$Ahead" ⟨"LifeNoes$Ahead", "look", "(LLifeNoes$Village;I)V"⟩ ⟨"LifeNoes$Ahead", "look", "(LLifeNoes$Village;I)V"⟩ ∈ gT := gin_3 (List.mem_of_getElem? (i := 177) rfl) rfl
theorem wd_658 : Cond.code ⟨"LifeNoes$Ahead", "look", "(LLifeNoes$Village;I)V"⟩ prog_2_method_2_code 4 none ∈ gT := gin_3 (List.mem_of_getElem? (i := 178) rfl) rfl
theorem wd_659 : Cond.methodLink "LifeNoes$Ahead" 26 ⟨"LifeNoes$Village", "copyFrom", "(LLifeNoes$Village;)V"⟩ ∈ gT := gin_3 (List.mem_of_getElem? (i := 179) rfl) rfl
theorem wd_660 : Cond.methodLink "LifeNoes$Ahead" 30 ⟨"LifeNoes$Village", "allWeights", "()I"⟩ ∈ gT := gin_3 (List.mem_of_getElem? (i := 180) rfl) rfl
theorem wd_661 : Cond.methodLink "LifeNoes$Ahead" 34 ⟨"java/lang/Math", "max", "(II)I"⟩ ∈ gT := gin_3 (List.mem_of_getElem? (i := 181) rfl) rfl
theorem wd_662 : Cond.methodLink "LifeNoes" 207 ⟨"LifeNoes$Ahead", "sum", "(I)J"⟩ ∈ gT := gin_3 (List.mem_of_getElem? (i := 182) rfl) rfl
theorem wd_663 : Cond.instanceMethod ⟨"LifeNoes$Ahead", "sum", "(I)J"⟩ ∈ gT := gin_3 (List.mem_of_getElem? (i := 183) rfl) rfl
theorem wd_664 : Cond.selects "LifeNoes$Ahead" ⟨"LifeNoes$Ahead", "sum", "(I)J"⟩ ⟨"LifeNoes$Ahead", "sum", "(I)J"⟩ ∈ gT := gin_3 (List.mem_of_getElem? (i := 184) rfl) rfl
theorem wd_665 : Cond.code ⟨"LifeNoes$Ahead", "sum", "(I)J"⟩ prog_2_method_3_code 2 (some .long) ∈ gT := gin_3 (List.mem_of_getElem? (i := 185) rfl) rfl
theorem wd_666 : Cond.methodLink "LifeNoes$Ahead" 44 ⟨"LifeNoes$Village", "packedNoes", "()I"⟩ ∈ gT := gin_3 (List.mem_of_getElem? (i := 186) rfl) rfl
theorem wd_667 : Cond.methodLink "LifeNoes$Ahead" 47 ⟨"LifeNoes$Ahead", "sumFrom", "(III)J"⟩ ∈ gT := gin_3 (List.mem_of_getElem? (i := 187) rfl) rfl
theorem wd_669 : Cond.instanceMethod ⟨"LifeNoes$Ahead", "sumFrom", "(III)J"⟩ ∈ gT := gin_3 (List.mem_of_getElem? (i := 189) rfl) rfl
theorem wd_670 : Cond.code ⟨"LifeNoes$Ahead", "sumFrom", "(III)J"⟩ prog_2_method_4_code 10 (some .long) ∈ gT := gin_3 (List.mem_of_getElem? (i := 190) rfl) rfl
theorem wd_671 : Cond.methodLink "LifeNoes$Ahead" 57 ⟨"LifeNoes$Village", "whoSays", "(III)I"⟩ ∈ gT := gin_3 (List.mem_of_getElem? (i := 191) rfl) rfl
theorem wd_672 : Cond.methodLink "LifeNoes$Ahead" 61 ⟨"LifeNoes$Village", "isFall", "(I)Z"⟩ ∈ gT := gin_3 (List.mem_of_getElem? (i := 192) rfl) rfl
theorem wd_673 : Cond.methodLink "LifeNoes$Ahead" 65 ⟨"LifeNoes$Ahead", "gain", "(IZ)J"⟩ ∈ gT := gin_3 (List.mem_of_getElem? (i := 193) rfl) rfl
theorem wd_675 : Cond.instanceMethod ⟨"LifeNoes$Ahead", "gain", "(IZ)J"⟩ ∈ gT := gin_3 (List.mem_of_getElem? (i := 195) rfl) rfl
theorem wd_676 : Cond.code ⟨"LifeNoes$Ahead", "gain", "(IZ)J"⟩ prog_2_method_5_code 6 (some .long) ∈ gT := gin_3 (List.mem_of_getElem? (i := 196) rfl) rfl
theorem wd_677 : Cond.methodLink "LifeNoes$Ahead" 72 ⟨"LifeNoes$Ahead", "isLikedByAllButOne", "(I)Z"⟩ ∈ gT := gin_3 (List.mem_of_getElem? (i := 197) rfl) rfl
theorem wd_679 : Cond.instanceMethod ⟨"LifeNoes$Ahead", "isLikedByAllButOne", "(I)Z"⟩ ∈ gT := gin_3 (List.mem_of_getElem? (i := 199) rfl) rfl
theorem wd_680 : Cond.code ⟨"LifeNoes$Ahead", "isLikedByAllButOne", "(I)Z"⟩ prog_2_method_6_code 4 (some .boolean) ∈ gT := gin_3 (List.mem_of_getElem? (i := 200) rfl) rfl
theorem wd_681 : Cond.methodLink "LifeNoes$Ahead" 69 ⟨"LifeNoes$Village", "noesAfter", "(III)I"⟩ ∈ gT := gin_3 (List.mem_of_getElem? (i := 201) rfl) rfl
theorem wd_682 : Cond.methodLink "LifeNoes" 215 ⟨"LifeNoes", "partOf", "(JJI)J"⟩ ∈ gT := gin_3 (List.mem_of_getElem? (i := 202) rfl) rfl
theorem wd_683 : Cond.static ⟨"LifeNoes", "partOf", "(JJI)J"⟩ ∈ gT := gin_3 (List.mem_of_getElem? (i := 203) rfl) rfl
theorem wd_684 : Cond.code ⟨"LifeNoes", "partOf", "(JJI)J"⟩ prog_1_method_51_code 7 (some .long) ∈ gT := gin_3 (List.mem_of_getElem? (i := 204) rfl) rfl
theorem wd_685 : Cond.methodLink "LifeNoes" 315 ⟨"java/lang/Math", "abs", "(J)J"⟩ ∈ gT := gin_3 (List.mem_of_getElem? (i := 205) rfl) rfl
theorem wd_686 : Cond.static ⟨"java/lang/Math", "abs", "(J)J"⟩ ∈ gT := gin_3 (List.mem_of_getElem? (i := 206) rfl) rfl
theorem wd_687 : Cond.code ⟨"java/lang/Math", "abs", "(J)J"⟩ prog_16_method_61_code 2 (some .long) ∈ gT := gin_3 (List.mem_of_getElem? (i := 207) rfl) rfl
theorem wd_688 : Cond.methodLink "LifeNoes" 319 ⟨"LifeNoes", "commonDivisor", "(JJ)J"⟩ ∈ gT := gin_3 (List.mem_of_getElem? (i := 208) rfl) rfl
theorem wd_689 : Cond.static ⟨"LifeNoes", "commonDivisor", "(JJ)J"⟩ ∈ gT := gin_3 (List.mem_of_getElem? (i := 209) rfl) rfl
theorem wd_690 : Cond.code ⟨"LifeNoes", "commonDivisor", "(JJ)J"⟩ prog_1_method_52_code 11 (some .long) ∈ gT := gin_3 (List.mem_of_getElem? (i := 210) rfl) rfl
theorem wd_691 : Cond.methodLink "LifeNoesLaw" 106 ⟨"LifeNoes", "best", "(III)J"⟩ ∈ gT := gin_3 (List.mem_of_getElem? (i := 211) rfl) rfl
theorem wd_692 : Cond.instanceMethod ⟨"LifeNoes", "best", "(III)J"⟩ ∈ gT := gin_3 (List.mem_of_getElem? (i := 212) rfl) rfl
theorem wd_693 : Cond.selects "LifeNoes" ⟨"LifeNoes", "best", "(III)J"⟩ ⟨"LifeNoes", "best", "(III)J"⟩ ∈ gT := gin_3 (List.mem_of_getElem? (i := 213) rfl) rfl
theorem wd_694 : Cond.code ⟨"LifeNoes", "best", "(III)J"⟩ prog_1_method_23_code 4 (some .long) ∈ gT := gin_3 (List.mem_of_getElem? (i := 214) rfl) rfl
theorem wd_695 : Cond.methodLink "LifeNoes" 219 ⟨"LifeNoes$Ahead", "bestSum", "(I)J"⟩ ∈ gT := gin_3 (List.mem_of_getElem? (i := 215) rfl) rfl
theorem wd_696 : Cond.instanceMethod ⟨"LifeNoes$Ahead", "bestSum", "(I)J"⟩ ∈ gT := gin_3 (List.mem_of_getElem? (i := 216) rfl) rfl
theorem wd_697 : Cond.selects "LifeNoes$Ahead" ⟨"LifeNoes$Ahead", "bestSum", "(I)J"⟩ ⟨"LifeNoes$Ahead", "bestSum", "(I)J"⟩ ∈ gT := gin_3 (List.mem_of_getElem? (i := 217) rfl) rfl
theorem wd_698 : Cond.code ⟨"LifeNoes$Ahead", "bestSum", "(I)J"⟩ prog_2_method_7_code 2 (some .long) ∈ gT := gin_3 (List.mem_of_getElem? (i := 218) rfl) rfl
theorem wd_699 : Cond.methodLink "LifeNoes$Ahead" 82 ⟨"LifeNoes$Ahead", "bestSumFrom", "(III)J"⟩ ∈ gT := gin_3 (List.mem_of_getElem? (i := 219) rfl) rfl
theorem wd_701 : Cond.instanceMethod ⟨"LifeNoes$Ahead", "bestSumFrom", "(III)J"⟩ ∈ gT := gin_3 (List.mem_of_getElem? (i := 221) rfl) rfl
theorem wd_702 : Cond.code ⟨"LifeNoes$Ahead", "bestSumFrom", "(III)J"⟩ prog_2_method_8_code 7 (some .long) ∈ gT := gin_3 (List.mem_of_getElem? (i := 222) rfl) rfl
theorem wd_703 : Cond.methodLink "LifeNoes$Ahead" 85 ⟨"LifeNoes$Ahead", "bestOf", "(IIII)J"⟩ ∈ gT := gin_3 (List.mem_of_getElem? (i := 223) rfl) rfl
theorem wd_705 : Cond.instanceMethod ⟨"LifeNoes$Ahead", "bestOf", "(IIII)J"⟩ ∈ gT := gin_3 (List.mem_of_getElem? (i := 225) rfl) rfl
theorem wd_706 : Cond.code ⟨"LifeNoes$Ahead", "bestOf", "(IIII)J"⟩ prog_2_method_9_code 10 (some .long) ∈ gT := gin_3 (List.mem_of_getElem? (i := 226) rfl) rfl
theorem wd_707 : Cond.methodLink "LifeNoes$Ahead" 89 ⟨"LifeNoes$Village", "whoWould", "(III)I"⟩ ∈ gT := gin_3 (List.mem_of_getElem? (i := 227) rfl) rfl
theorem wd_708 : Cond.methodLink "LifeNoes$Ahead" 92 ⟨"LifeNoes$Ahead", "ownBit", "()I"⟩ ∈ gT := gin_3 (List.mem_of_getElem? (i := 228) rfl) rfl
theorem wd_710 : Cond.instanceMethod ⟨"LifeNoes$Ahead", "ownBit", "()I"⟩ ∈ gT := gin_3 (List.mem_of_getElem? (i := 230) rfl) rfl
theorem wd_711 : Cond.code ⟨"LifeNoes$Ahead", "ownBit", "()I"⟩ prog_2_method_11_code 1 (some .int) ∈ gT := gin_3 (List.mem_of_getElem? (i := 231) rfl) rfl
theorem wd_712 : Cond.methodLink "LifeNoes$Ahead" 95 ⟨"LifeNoes$Village", "sayersOf", "(I)I"⟩ ∈ gT := gin_3 (List.mem_of_getElem? (i := 232) rfl) rfl
theorem wd_713 : Cond.methodLink "LifeNoes$Ahead" 99 ⟨"LifeNoes$Ahead", "withSayers", "(IIIII)J"⟩ ∈ gT := gin_3 (List.mem_of_getElem? (i := 233) rfl) rfl
theorem wd_715 : Cond.instanceMethod ⟨"LifeNoes$Ahead", "withSayers", "(IIIII)J"⟩ ∈ gT := gin_3 (List.mem_of_getElem? (i := 235) rfl) rfl
theorem wd_716 : Cond.code ⟨"LifeNoes$Ahead", "withSayers", "(IIIII)J"⟩ prog_2_method_10_code 8 (some .long) ∈ gT := gin_3 (List.mem_of_getElem? (i := 236) rfl) rfl
theorem wd_717 : Cond.methodLink "LifeNoes$Ahead" 103 ⟨"LifeNoes$Village", "noesIn", "(II)I"⟩ ∈ gT := gin_3 (List.mem_of_getElem? (i := 237) rfl) rfl
theorem wd_718 : Cond.methodLink "LifeNoes$Ahead" 106 ⟨"java/lang/Math", "max", "(JJ)J"⟩ ∈ gT := gin_3 (List.mem_of_getElem? (i := 238) rfl) rfl
theorem wd_719 : Cond.static ⟨"java/lang/Math", "max", "(JJ)J"⟩ ∈ gT := gin_3 (List.mem_of_getElem? (i := 239) rfl) rfl
theorem wd_720 : Cond.code ⟨"java/lang/Math", "max", "(JJ)J"⟩ prog_16_method_66_code 4 (some .long) ∈ gT := gin_4 (List.mem_of_getElem? (i := 0) rfl) rfl
theorem wd_721 : Cond.methodLink "LifeNoesLaw" 110 ⟨"LifeNoes", "should", "(III)I"⟩ ∈ gT := gin_4 (List.mem_of_getElem? (i := 1) rfl) rfl
theorem wd_722 : Cond.instanceMethod ⟨"LifeNoes", "should", "(III)I"⟩ ∈ gT := gin_4 (List.mem_of_getElem? (i := 2) rfl) rfl
theorem wd_723 : Cond.selects "LifeNoes" ⟨"LifeNoes", "should", "(III)I"⟩ ⟨"LifeNoes", "should", "(III)I"⟩ ∈ gT := gin_4 (List.mem_of_getElem? (i := 3) rfl) rfl
theorem wd_724 : Cond.code ⟨"LifeNoes", "should", "(III)I"⟩ prog_1_method_24_code 4 (some .int) ∈ gT := gin_4 (List.mem_of_getElem? (i := 4) rfl) rfl
theorem wd_725 : Cond.methodLink "LifeNoes" 222 ⟨"LifeNoes$Ahead", "isNoBetter", "(II)Z"⟩ ∈ gT := gin_4 (List.mem_of_getElem? (i := 5) rfl) rfl
theorem wd_726 : Cond.instanceMethod ⟨"LifeNoes$Ahead", "isNoBetter", "(II)Z"⟩ ∈ gT := gin_4 (List.mem_of_getElem? (i := 6) rfl) rfl
theorem wd_727 : Cond.selects "LifeNoes$Ahead" ⟨"LifeNoes$Ahead", "isNoBetter", "(II)Z"⟩ ⟨"LifeNoes$Ahead", "isNoBetter", "(II)Z"⟩ ∈ gT := gin_4 (List.mem_of_getElem? (i := 7) rfl) rfl
theorem wd_728 : Cond.code ⟨"LifeNoes$Ahead", "isNoBetter", "(II)Z"⟩ prog_2_method_12_code 8 (some .boolean) ∈ gT := gin_4 (List.mem_of_getElem? (i := 8) rfl) rfl
theorem wd_729 : Cond.methodLink "LifeNoesLaw" 114 ⟨"LifeNoes", "barOf", "(II)I"⟩ ∈ gT := gin_4 (List.mem_of_getElem? (i := 9) rfl) rfl
theorem wd_730 : Cond.instanceMethod ⟨"LifeNoes", "barOf", "(II)I"⟩ ∈ gT := gin_4 (List.mem_of_getElem? (i := 10) rfl) rfl
theorem wd_731 : Cond.selects "LifeNoes" ⟨"LifeNoes", "barOf", "(II)I"⟩ ⟨"LifeNoes", "barOf", "(II)I"⟩ ∈ gT := gin_4 (List.mem_of_getElem? (i := 11) rfl) rfl
theorem wd_732 : Cond.code ⟨"LifeNoes", "barOf", "(II)I"⟩ prog_1_method_25_code 3 (some .int) ∈ gT := gin_4 (List.mem_of_getElem? (i := 12) rfl) rfl
theorem wd_733 : Cond.methodLink "LifeNoes" 225 ⟨"LifeNoes$Ahead", "bestBar", "(II)I"⟩ ∈ gT := gin_4 (List.mem_of_getElem? (i := 13) rfl) rfl
theorem wd_734 : Cond.instanceMethod ⟨"LifeNoes$Ahead", "bestBar", "(II)I"⟩ ∈ gT := gin_4 (List.mem_of_getElem? (i := 14) rfl) rfl
theorem wd_735 : Cond.selects "LifeNoes$Ahead" ⟨"LifeNoes$Ahead", "bestBar", "(II)I"⟩ ⟨"LifeNoes$Ahead", "bestBar", "(II)I"⟩ ∈ gT := gin_4 (List.mem_of_getElem? (i := 15) rfl) rfl
theorem wd_736 : Cond.code ⟨"LifeNoes$Ahead", "bestBar", "(II)I"⟩ prog_2_method_13_code 9 (some .int) ∈ gT := gin_4 (List.mem_of_getElem? (i := 16) rfl) rfl
theorem wd_737 : Cond.methodLink "LifeNoes$Ahead" 115 ⟨"LifeNoes$Ahead", "sum", "(I)J"⟩ ∈ gT := gin_4 (List.mem_of_getElem? (i := 17) rfl) rfl
theorem wd_738 : Cond.methodLink "LifeNoesLaw" 118 ⟨"LifeNoes", "lets", "(II)I"⟩ ∈ gT := gin_4 (List.mem_of_getElem? (i := 18) rfl) rfl
theorem wd_739 : Cond.instanceMethod ⟨"LifeNoes", "lets", "(II)I"⟩ ∈ gT := gin_4 (List.mem_of_getElem? (i := 19) rfl) rfl
theorem wd_740 : Cond.selects "LifeNoes" ⟨"LifeNoes", "lets", "(II)I"⟩ ⟨"LifeNoes", "lets", "(II)I"⟩ ∈ gT := gin_4 (List.mem_of_getElem? (i := 20) rfl) rfl
theorem wd_741 : Cond.code ⟨"LifeNoes", "lets", "(II)I"⟩ prog_1_method_26_code 5 (some .int) ∈ gT := gin_4 (List.mem_of_getElem? (i := 21) rfl) rfl
theorem wd_742 : Cond.methodLink "LifeNoes" 229 ⟨"LifeNoes$Ahead", "rowThatLets", "(II)I"⟩ ∈ gT := gin_4 (List.mem_of_getElem? (i := 22) rfl) rfl
theorem wd_743 : Cond.instanceMethod ⟨"LifeNoes$Ahead", "rowThatLets", "(II)I"⟩ ∈ gT := gin_4 (List.mem_of_getElem? (i := 23) rfl) rfl
theorem wd_744 : Cond.selects "LifeNoes$Ahead" ⟨"LifeNoes$Ahead", "rowThatLets", "(II)I"⟩ ⟨"LifeNoes$Ahead", "rowThatLets", "(II)I"⟩ ∈ gT := gin_4 (List.mem_of_getElem? (i := 24) rfl) rfl
theorem wd_745 : Cond.code ⟨"LifeNoes$Ahead", "rowThatLets", "(II)I"⟩ prog_2_method_15_code 3 (some .int) ∈ gT := gin_4 (List.mem_of_getElem? (i := 25) rfl) rfl
theorem wd_746 : Cond.methodLink "LifeNoes$Ahead" 119 ⟨"LifeNoes$Ahead", "rowFrom", "(IIII)I"⟩ ∈ gT := gin_4 (List.mem_of_getElem? (i := 26) rfl) rfl
theorem wd_748 : Cond.instanceMethod ⟨"LifeNoes$Ahead", "rowFrom", "(IIII)I"⟩ ∈ gT := gin_4 (List.mem_of_getElem? (i := 28) rfl) rfl
theorem wd_749 : Cond.code ⟨"LifeNoes$Ahead", "rowFrom", "(IIII)I"⟩ prog_2_method_16_code 8 (some .int) ∈ gT := gin_4 (List.mem_of_getElem? (i := 29) rfl) rfl
theorem wd_750 : Cond.methodLink "LifeNoesLaw" 122 ⟨"LifeNoes", "harm", "(I)I"⟩ ∈ gT := gin_4 (List.mem_of_getElem? (i := 30) rfl) rfl
theorem wd_751 : Cond.instanceMethod ⟨"LifeNoes", "harm", "(I)I"⟩ ∈ gT := gin_4 (List.mem_of_getElem? (i := 31) rfl) rfl
theorem wd_752 : Cond.selects "LifeNoes" ⟨"LifeNoes", "harm", "(I)I"⟩ ⟨"LifeNoes", "harm", "(I)I"⟩ ∈ gT := gin_4 (List.mem_of_getElem? (i := 32) rfl) rfl
theorem wd_753 : Cond.code ⟨"LifeNoes", "harm", "(I)I"⟩ prog_1_method_27_code 2 (some .int) ∈ gT := gin_4 (List.mem_of_getElem? (i := 33) rfl) rfl
theorem wd_754 : Cond.methodLink "LifeNoes" 232 ⟨"LifeNoes$Ahead", "leastHarm", "(I)I"⟩ ∈ gT := gin_4 (List.mem_of_getElem? (i := 34) rfl) rfl
theorem wd_755 : Cond.instanceMethod ⟨"LifeNoes$Ahead", "leastHarm", "(I)I"⟩ ∈ gT := gin_4 (List.mem_of_getElem? (i := 35) rfl) rfl
theorem wd_756 : Cond.selects "LifeNoes$Ahead" ⟨"LifeNoes$Ahead", "leastHarm", "(I)I"⟩ ⟨"LifeNoes$Ahead", "leastHarm", "(I)I"⟩ ∈ gT := gin_4 (List.mem_of_getElem? (i := 36) rfl) rfl
theorem wd_757 : Cond.code ⟨"LifeNoes$Ahead", "leastHarm", "(I)I"⟩ prog_2_method_14_code 9 (some .int) ∈ gT := gin_4 (List.mem_of_getElem? (i := 37) rfl) rfl
theorem wd_758 : Cond.methodLink "LifeNoesLaw" 126 ⟨"LifeNoes", "spoilt", "(II)J"⟩ ∈ gT := gin_4 (List.mem_of_getElem? (i := 38) rfl) rfl
theorem wd_759 : Cond.instanceMethod ⟨"LifeNoes", "spoilt", "(II)J"⟩ ∈ gT := gin_4 (List.mem_of_getElem? (i := 39) rfl) rfl
theorem wd_760 : Cond.selects "LifeNoes" ⟨"LifeNoes", "spoilt", "(II)J"⟩ ⟨"LifeNoes", "spoilt", "(II)J"⟩ ∈ gT := gin_4 (List.mem_of_getElem? (i := 40) rfl) rfl
theorem wd_761 : Cond.code ⟨"LifeNoes", "spoilt", "(II)J"⟩ prog_1_method_28_code 3 (some .long) ∈ gT := gin_4 (List.mem_of_getElem? (i := 41) rfl) rfl
theorem wd_762 : Cond.constantLong "LifeNoes" 235 (-1) ∈ gT := gin_4 (List.mem_of_getElem? (i := 42) rfl) rfl
theorem wd_763 : Cond.methodLink "LifeNoesLaw" 131 ⟨"LifeNoes", "prove", "(I)I"⟩ ∈ gT := gin_4 (List.mem_of_getElem? (i := 43) rfl) rfl
theorem wd_764 : Cond.instanceMethod ⟨"LifeNoes", "prove", "(I)I"⟩ ∈ gT := gin_4 (List.mem_of_getElem? (i := 44) rfl) rfl
theorem wd_765 : Cond.selects "LifeNoes" ⟨"LifeNoes", "prove", "(I)I"⟩ ⟨"LifeNoes", "prove", "(I)I"⟩ ∈ gT := gin_4 (List.mem_of_getElem? (i := 45) rfl) rfl
theorem wd_766 : Cond.code ⟨"LifeNoes", "prove", "(I)I"⟩ prog_1_method_29_code 2 (some .int) ∈ gT := gin_4 (List.mem_of_getElem? (i := 46) rfl) rfl
theorem wd_767 : Cond.methodLink "LifeNoes" 237 ⟨"LifeNoes", "fillRows", "([[II)V"⟩ ∈ gT := gin_4 (List.mem_of_getElem? (i := 47) rfl) rfl
theorem wd_769 : Cond.instanceMethod ⟨"LifeNoes", "fillRows", "([[II)V"⟩ ∈ gT := gin_4 (List.mem_of_getElem? (i := 49) rfl) rfl
theorem wd_770 : Cond.code ⟨"LifeNoes", "fillRows", "([[II)V"⟩ prog_1_method_50_code 9 none ∈ gT := gin_4 (List.mem_of_getElem? (i := 50) rfl) rfl
theorem wd_771 : Cond.methodLink "LifeNoes" 309 ⟨"LifeNoes$Village", "isFall", "(I)Z"⟩ ∈ gT := gin_4 (List.mem_of_getElem? (i := 51) rfl) rfl
theorem wd_772 : Cond.methodLink "LifeNoes" 312 ⟨"LifeNoes$Village", "noesAfter", "(III)I"⟩ ∈ gT := gin_4 (List.mem_of_getElem? (i := 52) rfl) rfl
theorem wd_773 : Cond.methodLink "LifeNoesLaw" 135 ⟨"LifeNoes", "row", "(II)I"⟩ ∈ gT := gin_4 (List.mem_of_getElem? (i := 53) rfl) rfl
theorem wd_774 : Cond.instanceMethod ⟨"LifeNoes", "row", "(II)I"⟩ ∈ gT := gin_4 (List.mem_of_getElem? (i := 54) rfl) rfl
theorem wd_775 : Cond.selects "LifeNoes" ⟨"LifeNoes", "row", "(II)I"⟩ ⟨"LifeNoes", "row", "(II)I"⟩ ∈ gT := gin_4 (List.mem_of_getElem? (i := 55) rfl) rfl
theorem wd_776 : Cond.code ⟨"LifeNoes", "row", "(II)I"⟩ prog_1_method_30_code 3 (some .int) ∈ gT := gin_4 (List.mem_of_getElem? (i := 56) rfl) rfl
theorem wd_777 : Cond.methodLink "LifeNoes" 241 ⟨"LifeNoes", "isInRows", "(II)Z"⟩ ∈ gT := gin_4 (List.mem_of_getElem? (i := 57) rfl) rfl
theorem wd_779 : Cond.instanceMethod ⟨"LifeNoes", "isInRows", "(II)Z"⟩ ∈ gT := gin_4 (List.mem_of_getElem? (i := 59) rfl) rfl
theorem wd_780 : Cond.code ⟨"LifeNoes", "isInRows", "(II)Z"⟩ prog_1_method_47_code 3 (some .boolean) ∈ gT := gin_4 (List.mem_of_getElem? (i := 60) rfl) rfl
theorem wd_781 : Cond.methodLink "LifeNoesLaw" 139 ⟨"LifeNoes", "alterRow", "(III)I"⟩ ∈ gT := gin_4 (List.mem_of_getElem? (i := 61) rfl) rfl
theorem wd_782 : Cond.instanceMethod ⟨"LifeNoes", "alterRow", "(III)I"⟩ ∈ gT := gin_4 (List.mem_of_getElem? (i := 62) rfl) rfl
theorem wd_783 : Cond.selects "LifeNoes" ⟨"LifeNoes", "alterRow", "(III)I"⟩ ⟨"LifeNoes", "alterRow", "(III)I"⟩ ∈ gT := gin_4 (List.mem_of_getElem? (i := 63) rfl) rfl
theorem wd_784 : Cond.code ⟨"LifeNoes", "alterRow", "(III)I"⟩ prog_1_method_31_code 5 (some .int) ∈ gT := gin_4 (List.mem_of_getElem? (i := 64) rfl) rfl
theorem wd_785 : Cond.methodLink "LifeNoesLaw" 143 ⟨"LifeNoes", "judge", "()I"⟩ ∈ gT := gin_4 (List.mem_of_getElem? (i := 65) rfl) rfl
theorem wd_786 : Cond.instanceMethod ⟨"LifeNoes", "judge", "()I"⟩ ∈ gT := gin_4 (List.mem_of_getElem? (i := 66) rfl) rfl
theorem wd_787 : Cond.selects "LifeNoes" ⟨"LifeNoes", "judge", "()I"⟩ ⟨"LifeNoes", "judge", "()I"⟩ ∈ gT := gin_4 (List.mem_of_getElem? (i := 67) rfl) rfl
theorem wd_788 : Cond.code ⟨"LifeNoes", "judge", "()I"⟩ prog_1_method_32_code 3 (some .int) ∈ gT := gin_4 (List.mem_of_getElem? (i := 68) rfl) rfl
theorem wd_789 : Cond.methodLink "LifeNoesLaw" 147 ⟨"LifeNoes", "worths", "(II)I"⟩ ∈ gT := gin_4 (List.mem_of_getElem? (i := 69) rfl) rfl
theorem wd_790 : Cond.instanceMethod ⟨"LifeNoes", "worths", "(II)I"⟩ ∈ gT := gin_4 (List.mem_of_getElem? (i := 70) rfl) rfl
theorem wd_791 : Cond.selects "LifeNoes" ⟨"LifeNoes", "worths", "(II)I"⟩ ⟨"LifeNoes", "worths", "(II)I"⟩ ∈ gT := gin_4 (List.mem_of_getElem? (i := 71) rfl) rfl
theorem wd_792 : Cond.code ⟨"LifeNoes", "worths", "(II)I"⟩ prog_1_method_33_code 6 (some .int) ∈ gT := gin_4 (List.mem_of_getElem? (i := 72) rfl) rfl
theorem wd_793 : Cond.methodLink "LifeNoes" 250 ⟨"java/lang/Math", "min", "(II)I"⟩ ∈ gT := gin_4 (List.mem_of_getElem? (i := 73) rfl) rfl
theorem wd_794 : Cond.methodLink "LifeNoes" 258 ⟨"java/lang/Math", "max", "(II)I"⟩ ∈ gT := gin_4 (List.mem_of_getElem? (i := 74) rfl) rfl
theorem wd_795 : Cond.methodLink "LifeNoesLaw" 151 ⟨"LifeNoes", "sheet", "(III)I"⟩ ∈ gT := gin_4 (List.mem_of_getElem? (i := 75) rfl) rfl
theorem wd_796 : Cond.instanceMethod ⟨"LifeNoes", "sheet", "(III)I"⟩ ∈ gT := gin_4 (List.mem_of_getElem? (i := 76) rfl) rfl
theorem wd_797 : Cond.selects "LifeNoes" ⟨"LifeNoes", "sheet", "(III)I"⟩ ⟨"LifeNoes", "sheet", "(III)I"⟩ ∈ gT := gin_4 (List.mem_of_getElem? (i := 77) rfl) rfl
theorem wd_798 : Cond.code ⟨"LifeNoes", "sheet", "(III)I"⟩ prog_1_method_34_code 4 (some .int) ∈ gT := gin_4 (List.mem_of_getElem? (i := 78) rfl) rfl
theorem wd_799 : Cond.methodLink "LifeNoes" 261 ⟨"LifeNoes$Sheet", "become", "(II)V"⟩ ∈ gT := gin_4 (List.mem_of_getElem? (i := 79) rfl) rfl
theorem wd_800 : Cond.instanceMethod ⟨"LifeNoes$Sheet", "become", "(II)V"⟩ ∈ gT := gin_4 (List.mem_of_getElem? (i := 80) rfl) rfl
theorem wd_801 : Cond.selects "LifeNoes$Sheet" ⟨"LifeNoes$Sheet", "become", "(II)V"⟩ ⟨"LifeNoes$Sheet", "become", "(II)V"⟩ ∈ gT := gin_4 (List.mem_of_getElem? (i := 81) rfl) rfl
theorem wd_802 : Cond.code ⟨"LifeNoes$Sheet", "become", "(II)V"⟩ prog_7_method_2_code 4 none ∈ gT := gin_4 (List.mem_of_getElem? (i := 82) rfl) rfl
theorem wd_803 : Cond.methodLink "LifeNoesLaw" 155 ⟨"LifeNoes", "put", "(III)I"⟩ ∈ gT := gin_4 (List.mem_of_getElem? (i := 83) rfl) rfl
theorem wd_804 : Cond.instanceMethod ⟨"LifeNoes", "put", "(III)I"⟩ ∈ gT := gin_4 (List.mem_of_getElem? (i := 84) rfl) rfl
theorem wd_805 : Cond.selects "LifeNoes" ⟨"LifeNoes", "put", "(III)I"⟩ ⟨"LifeNoes", "put", "(III)I"⟩ ∈ gT := gin_4 (List.mem_of_getElem? (i := 85) rfl) rfl
theorem wd_806 : Cond.code ⟨"LifeNoes", "put", "(III)I"⟩ prog_1_method_35_code 5 (some .int) ∈ gT := gin_4 (List.mem_of_getElem? (i := 86) rfl) rfl
theorem wd_807 : Cond.methodLink "LifeNoes" 265 ⟨"LifeNoes", "narrowed", "(II)I"⟩ ∈ gT := gin_4 (List.mem_of_getElem? (i := 87) rfl) rfl
theorem wd_808 : Cond.static ⟨"LifeNoes", "narrowed", "(II)I"⟩ ∈ gT := gin_4 (List.mem_of_getElem? (i := 88) rfl) rfl
theorem wd_809 : Cond.code ⟨"LifeNoes", "narrowed", "(II)I"⟩ prog_1_method_53_code 2 (some .int) ∈ gT := gin_4 (List.mem_of_getElem? (i := 89) rfl) rfl
theorem wd_810 : Cond.methodLink "LifeNoesLaw" 159 ⟨"LifeNoes", "item", "(III)I"⟩ ∈ gT := gin_4 (List.mem_of_getElem? (i := 90) rfl) rfl
theorem wd_811 : Cond.instanceMethod ⟨"LifeNoes", "item", "(III)I"⟩ ∈ gT := gin_4 (List.mem_of_getElem? (i := 91) rfl) rfl
theorem wd_812 : Cond.selects "LifeNoes" ⟨"LifeNoes", "item", "(III)I"⟩ ⟨"LifeNoes", "item", "(III)I"⟩ ∈ gT := gin_4 (List.mem_of_getElem? (i := 92) rfl) rfl
theorem wd_813 : Cond.code ⟨"LifeNoes", "item", "(III)I"⟩ prog_1_method_36_code 5 (some .int) ∈ gT := gin_4 (List.mem_of_getElem? (i := 93) rfl) rfl
theorem wd_814 : Cond.methodLink "LifeNoesLaw" 163 ⟨"LifeNoes", "shelf", "(III)I"⟩ ∈ gT := gin_4 (List.mem_of_getElem? (i := 94) rfl) rfl
theorem wd_815 : Cond.instanceMethod ⟨"LifeNoes", "shelf", "(III)I"⟩ ∈ gT := gin_4 (List.mem_of_getElem? (i := 95) rfl) rfl
theorem wd_816 : Cond.selects "LifeNoes" ⟨"LifeNoes", "shelf", "(III)I"⟩ ⟨"LifeNoes", "shelf", "(III)I"⟩ ∈ gT := gin_4 (List.mem_of_getElem? (i := 96) rfl) rfl
theorem wd_817 : Cond.code ⟨"LifeNoes", "shelf", "(III)I"⟩ prog_1_method_37_code 5 (some .int) ∈ gT := gin_4 (List.mem_of_getElem? (i := 97) rfl) rfl
theorem wd_818 : Cond.methodLink "LifeNoes" 268 ⟨"LifeNoes", "fillShelf", "(IIII)V"⟩ ∈ gT := gin_4 (List.mem_of_getElem? (i := 98) rfl) rfl
theorem wd_820 : Cond.instanceMethod ⟨"LifeNoes", "fillShelf", "(IIII)V"⟩ ∈ gT := gin_4 (List.mem_of_getElem? (i := 100) rfl) rfl
theorem wd_821 : Cond.code ⟨"LifeNoes", "fillShelf", "(IIII)V"⟩ prog_1_method_54_code 5 none ∈ gT := gin_4 (List.mem_of_getElem? (i := 101) rfl) rfl
theorem wd_822 : Cond.methodLink "LifeNoesLaw" 167 ⟨"LifeNoes", "taken", "(II)I"⟩ ∈ gT := gin_4 (List.mem_of_getElem? (i := 102) rfl) rfl
theorem wd_823 : Cond.instanceMethod ⟨"LifeNoes", "taken", "(II)I"⟩ ∈ gT := gin_4 (List.mem_of_getElem? (i := 103) rfl) rfl
theorem wd_824 : Cond.selects "LifeNoes" ⟨"LifeNoes", "taken", "(II)I"⟩ ⟨"LifeNoes", "taken", "(II)I"⟩ ∈ gT := gin_4 (List.mem_of_getElem? (i := 104) rfl) rfl
theorem wd_825 : Cond.code ⟨"LifeNoes", "taken", "(II)I"⟩ prog_1_method_38_code 4 (some .int) ∈ gT := gin_4 (List.mem_of_getElem? (i := 105) rfl) rfl
theorem wd_826 : Cond.methodLink "LifeNoes" 272 ⟨"LifeNoes", "thingOn", "(I)LLifeNoes$Sayer;"⟩ ∈ gT := gin_4 (List.mem_of_getElem? (i := 106) rfl) rfl
theorem wd_828 : Cond.instanceMethod ⟨"LifeNoes", "thingOn", "(I)LLifeNoes$Sayer;"⟩ ∈ gT := gin_4 (List.mem_of_getElem? (i := 108) rfl) rfl
theorem wd_829 : Cond.code ⟨"LifeNoes", "thingOn", "(I)LLifeNoes$Sayer;"⟩ prog_1_method_55_code 4 (some (.object "LifeNoes$Sayer")) ∈ gT := gin_4 (List.mem_of_getElem? (i := 109) rfl) rfl
theorem wd_830 : Cond.methodLink "LifeNoes" 276 ⟨"LifeNoes", "isUnder", "(LLifeNoes$Sayer;I)Z"⟩ ∈ gT := gin_4 (List.mem_of_getElem? (i := 110) rfl) rfl
theorem wd_831 : Cond.static ⟨"LifeNoes", "isUnder", "(LLifeNoes$Sayer;I)Z"⟩ ∈ gT := gin_4 (List.mem_of_getElem? (i := 111) rfl) rfl
theorem wd_832 : Cond.code ⟨"LifeNoes", "isUnder", "(LLifeNoes$Sayer;I)Z"⟩ prog_1_method_56_code 2 (some .boolean) ∈ gT := gin_4 (List.mem_of_getElem? (i := 112) rfl) rfl
theorem wd_833 : Cond.methodLink "LifeNoesLaw" 171 ⟨"LifeNoes", "act", "(III)I"⟩ ∈ gT := gin_4 (List.mem_of_getElem? (i := 113) rfl) rfl
theorem wd_834 : Cond.instanceMethod ⟨"LifeNoes", "act", "(III)I"⟩ ∈ gT := gin_4 (List.mem_of_getElem? (i := 114) rfl) rfl
theorem wd_835 : Cond.selects "LifeNoes" ⟨"LifeNoes", "act", "(III)I"⟩ ⟨"LifeNoes", "act", "(III)I"⟩ ∈ gT := gin_4 (List.mem_of_getElem? (i := 115) rfl) rfl
theorem wd_836 : Cond.code ⟨"LifeNoes", "act", "(III)I"⟩ prog_1_method_39_code 6 (some .int) ∈ gT := gin_4 (List.mem_of_getElem? (i := 116) rfl) rfl
theorem wd_837 : Cond.methodLink "LifeNoes" 283 ⟨"LifeNoes$Trace", "clear", "()V"⟩ ∈ gT := gin_4 (List.mem_of_getElem? (i := 117) rfl) rfl
theorem wd_838 : Cond.instanceMethod ⟨"LifeNoes$Trace", "clear", "()V"⟩ ∈ gT := gin_4 (List.mem_of_getElem? (i := 118) rfl) rfl
theorem wd_839 : Cond.selects "LifeNoes$Trace" ⟨"LifeNoes$Trace", "clear", "()V"⟩ ⟨"LifeNoes$Trace", "clear", "()V"⟩ ∈ gT := gin_4 (List.mem_of_getElem? (i := 119) rfl) rfl
theorem wd_840 : Cond.code ⟨"LifeNoes$Trace", "clear", "()V"⟩ prog_10_method_2_code 1 none ∈ gT := gin_4 (List.mem_of_getElem? (i := 120) rfl) rfl
theorem wd_841 : Cond.methodLink "LifeNoes" 286 ⟨"LifeNoes", "answerOf", "(LLifeNoes$Sayer;II)I"⟩ ∈ gT := gin_4 (List.mem_of_getElem? (i := 121) rfl) rfl
theorem wd_842 : Cond.static ⟨"LifeNoes", "answerOf", "(LLifeNoes$Sayer;II)I"⟩ ∈ gT := gin_4 (List.mem_of_getElem? (i := 122) rfl) rfl
theorem wd_843 : Cond.code ⟨"LifeNoes", "answerOf", "(LLifeNoes$Sayer;II)I"⟩ prog_1_method_57_code 3 (some .int) ∈ gT := gin_4 (List.mem_of_getElem? (i := 123) rfl) rfl
theorem wd_844 : Cond.methodLink "LifeNoes" 325 ⟨"LifeNoes$Sayer", "bars", "(I)I"⟩ ∈ gT := gin_4 (List.mem_of_getElem? (i := 124) rfl) rfl
theorem wd_845 : Cond.instanceMethod ⟨"LifeNoes$Sayer", "bars", "(I)I"⟩ ∈ gT := gin_4 (List.mem_of_getElem? (i := 125) rfl) rfl
theorem wd_846 : Cond.selects "LifeNoes$Sayer" ⟨"LifeNoes$Sayer", "bars", "(I)I"⟩ ⟨"LifeNoes$Sayer", "bars", "(I)I"⟩ ∈ gT := gin_4 (List.mem_of_getElem? (i := 126) rfl) rfl
theorem wd_847 : Cond.sameMethod "LifeNoes$Sayer" "LifeNoes$Sayer" "bars" "(I)I" ∈ gT := gin_4 (List.mem_of_getElem? (i := 127) rfl) rfl
theorem wd_848 : Cond.selects "LifeNoes$Bar" ⟨"LifeNoes$Sayer", "bars", "(I)I"⟩ ⟨"LifeNoes$Bar", "bars", "(I)I"⟩ ∈ gT := gin_4 (List.mem_of_getElem? (i := 128) rfl) rfl
theorem wd_849 : Cond.instanceMethod ⟨"LifeNoes$Bar", "bars", "(I)I"⟩ ∈ gT := gin_4 (List.mem_of_getElem? (i := 129) rfl) rfl
theorem wd_850 : Cond.code ⟨"LifeNoes$Bar", "bars", "(I)I"⟩ prog_3_method_2_code 2 (some .int) ∈ gT := gin_4 (List.mem_of_getElem? (i := 130) rfl) rfl
theorem wd_851 : Cond.methodLink "LifeNoes$Bar" 13 ⟨"LifeNoes$Trace", "begin", "(I)V"⟩ ∈ gT := gin_4 (List.mem_of_getElem? (i := 131) rfl) rfl
theorem wd_852 : Cond.instanceMethod ⟨"LifeNoes$Trace", "begin", "(I)V"⟩ ∈ gT := gin_4 (List.mem_of_getElem? (i := 132) rfl) rfl
theorem wd_853 : Cond.selects "LifeNoes$Trace" ⟨"LifeNoes$Trace", "begin", "(I)V"⟩ ⟨"LifeNoes$Trace", "begin", "(I)V"⟩ ∈ gT := gin_4 (List.mem_of_getElem? (i := 133) rfl) rfl
theorem wd_854 : Cond.code ⟨"LifeNoes$Trace", "begin", "(I)V"⟩ prog_10_method_3_code 2 none ∈ gT := gin_4 (List.mem_of_getElem? (i := 134) rfl) rfl
theorem wd_855 : Cond.methodLink "LifeNoes$Bar" 19 ⟨"LifeNoes$Sayer", "bars", "(I)I"⟩ ∈ gT := gin_4 (List.mem_of_getElem? (i := 135) rfl) rfl
theorem wd_856 : Cond.selects "LifeNoes$League" ⟨"LifeNoes$Sayer", "bars", "(I)I"⟩ ⟨"LifeNoes$League", "bars", "(I)I"⟩ ∈ gT := gin_4 (List.mem_of_getElem? (i := 136) rfl) rfl
theorem wd_857 : Cond.instanceMethod ⟨"LifeNoes$League", "bars", "(I)I"⟩ ∈ gT := gin_4 (List.mem_of_getElem? (i := 137) rfl) rfl
theorem wd_858 : Cond.code ⟨"LifeNoes$League", "bars", "(I)I"⟩ prog_4_method_2_code 2 (some .int) ∈ gT := gin_4 (List.mem_of_getElem? (i := 138) rfl) rfl
theorem wd_859 : Cond.methodLink "LifeNoes$League" 13 ⟨"LifeNoes$Trace", "begin", "(I)V"⟩ ∈ gT := gin_4 (List.mem_of_getElem? (i := 139) rfl) rfl
theorem wd_860 : Cond.methodLink "LifeNoes$League" 19 ⟨"LifeNoes$Quick", "bars", "(I)I"⟩ ∈ gT := gin_4 (List.mem_of_getElem? (i := 140) rfl) rfl
theorem wd_861 : Cond.sameMethod "LifeNoes$Quick" "LifeNoes$Sayer" "bars" "(I)I" ∈ gT := gin_4 (List.mem_of_getElem? (i := 141) rfl) rfl
theorem wd_863 : Cond.selects "LifeNoes$Quick" ⟨"LifeNoes$Sayer", "bars", "(I)I"⟩ ⟨"LifeNoes$Sayer", "bars", "(I)I"⟩ ∈ gT := gin_4 (List.mem_of_getElem? (i := 143) rfl) rfl
theorem wd_864 : Cond.selects "LifeNoes$Told" ⟨"LifeNoes$Sayer", "bars", "(I)I"⟩ ⟨"LifeNoes$Sayer", "bars", "(I)I"⟩ ∈ gT := gin_4 (List.mem_of_getElem? (i := 144) rfl) rfl
theorem wd_865 : Cond.selects "LifeNoes$Wait" ⟨"LifeNoes$Sayer", "bars", "(I)I"⟩ ⟨"LifeNoes$Wait", "bars", "(I)I"⟩ ∈ gT := gin_4 (List.mem_of_getElem? (i := 145) rfl) rfl
theorem wd_866 : Cond.instanceMethod ⟨"LifeNoes$Wait", "bars", "(I)I"⟩ ∈ gT := gin_4 (List.mem_of_getElem? (i := 146) rfl) rfl
theorem wd_867 : Cond.code ⟨"LifeNoes$Wait", "bars", "(I)I"⟩ prog_12_method_2_code 2 (some .int) ∈ gT := gin_4 (List.mem_of_getElem? (i := 147) rfl) rfl
theorem wd_868 : Cond.methodLink "LifeNoes$Wait" 13 ⟨"LifeNoes$Trace", "begin", "(I)V"⟩ ∈ gT := gin_4 (List.mem_of_getElem? (i := 148) rfl) rfl
theorem wd_869 : Cond.methodLink "LifeNoes$Wait" 19 ⟨"LifeNoes$Bar", "bars", "(I)I"⟩ ∈ gT := gin_4 (List.mem_of_getElem? (i := 149) rfl) rfl
theorem wd_870 : Cond.code ⟨"LifeNoes$Sayer", "bars", "(I)I"⟩ prog_6_method_2_code 2 (some .int) ∈ gT := gin_4 (List.mem_of_getElem? (i := 150) rfl) rfl
theorem wd_871 : Cond.methodLink "LifeNoes$Sayer" 20 ⟨"LifeNoes$Trace", "begin", "(I)V"⟩ ∈ gT := gin_4 (List.mem_of_getElem? (i := 151) rfl) rfl
theorem wd_872 : Cond.methodLink "LifeNoes" 328 ⟨"LifeNoes$Sayer", "waits", "(I)I"⟩ ∈ gT := gin_4 (List.mem_of_getElem? (i := 152) rfl) rfl
theorem wd_873 : Cond.instanceMethod ⟨"LifeNoes$Sayer", "waits", "(I)I"⟩ ∈ gT := gin_4 (List.mem_of_getElem? (i := 153) rfl) rfl
theorem wd_874 : Cond.selects "LifeNoes$Sayer" ⟨"LifeNoes$Sayer", "waits", "(I)I"⟩ ⟨"LifeNoes$Sayer", "waits", "(I)I"⟩ ∈ gT := gin_4 (List.mem_of_getElem? (i := 154) rfl) rfl
theorem wd_875 : Cond.sameMethod "LifeNoes$Sayer" "LifeNoes$Sayer" "waits" "(I)I" ∈ gT := gin_4 (List.mem_of_getElem? (i := 155) rfl) rfl
theorem wd_876 : Cond.selects "LifeNoes$Bar" ⟨"LifeNoes$Sayer", "waits", "(I)I"⟩ ⟨"LifeNoes$Sayer", "waits", "(I)I"⟩ ∈ gT := gin_4 (List.mem_of_getElem? (i := 156) rfl) rfl
theorem wd_877 : Cond.selects "LifeNoes$League" ⟨"LifeNoes$Sayer", "waits", "(I)I"⟩ ⟨"LifeNoes$Quick", "waits", "(I)I"⟩ ∈ gT := gin_4 (List.mem_of_getElem? (i := 157) rfl) rfl
theorem wd_878 : Cond.instanceMethod ⟨"LifeNoes$Quick", "waits", "(I)I"⟩ ∈ gT := gin_4 (List.mem_of_getElem? (i := 158) rfl) rfl
theorem wd_879 : Cond.code ⟨"LifeNoes$Quick", "waits", "(I)I"⟩ prog_5_method_2_code 2 (some .int) ∈ gT := gin_4 (List.mem_of_getElem? (i := 159) rfl) rfl
theorem wd_880 : Cond.methodLink "LifeNoes$Quick" 13 ⟨"LifeNoes$Trace", "begin", "(I)V"⟩ ∈ gT := gin_4 (List.mem_of_getElem? (i := 160) rfl) rfl
theorem wd_881 : Cond.methodLink "LifeNoes$Quick" 19 ⟨"LifeNoes$Sayer", "waits", "(I)I"⟩ ∈ gT := gin_4 (List.mem_of_getElem? (i := 161) rfl) rfl
theorem wd_882 : Cond.selects "LifeNoes$Quick" ⟨"LifeNoes$Sayer", "waits", "(I)I"⟩ ⟨"LifeNoes$Quick", "waits", "(I)I"⟩ ∈ gT := gin_4 (List.mem_of_getElem? (i := 162) rfl) rfl
theorem wd_883 : Cond.selects "LifeNoes$Told" ⟨"LifeNoes$Sayer", "waits", "(I)I"⟩ ⟨"LifeNoes$Sayer", "waits", "(I)I"⟩ ∈ gT := gin_4 (List.mem_of_getElem? (i := 163) rfl) rfl
theorem wd_884 : Cond.selects "LifeNoes$Wait" ⟨"LifeNoes$Sayer", "waits", "(I)I"⟩ ⟨"LifeNoes$Wait", "waits", "(I)I"⟩ ∈ gT := gin_4 (List.mem_of_getElem? (i := 164) rfl) rfl
theorem wd_885 : Cond.instanceMethod ⟨"LifeNoes$Wait", "waits", "(I)I"⟩ ∈ gT := gin_4 (List.mem_of_getElem? (i := 165) rfl) rfl
theorem wd_886 : Cond.code ⟨"LifeNoes$Wait", "waits", "(I)I"⟩ prog_12_method_3_code 2 (some .int) ∈ gT := gin_4 (List.mem_of_getElem? (i := 166) rfl) rfl
theorem wd_887 : Cond.methodLink "LifeNoes$Wait" 23 ⟨"LifeNoes$Bar", "waits", "(I)I"⟩ ∈ gT := gin_4 (List.mem_of_getElem? (i := 167) rfl) rfl
theorem wd_888 : Cond.sameMethod "LifeNoes$Bar" "LifeNoes$Sayer" "waits" "(I)I" ∈ gT := gin_4 (List.mem_of_getElem? (i := 168) rfl) rfl
theorem wd_890 : Cond.methodLink "LifeNoes$Wait" 30 ⟨"LifeNoes$Wait", "bars", "(I)I"⟩ ∈ gT := gin_4 (List.mem_of_getElem? (i := 170) rfl) rfl
theorem wd_891 : Cond.code ⟨"LifeNoes$Sayer", "waits", "(I)I"⟩ prog_6_method_3_code 2 (some .int) ∈ gT := gin_4 (List.mem_of_getElem? (i := 171) rfl) rfl
theorem wd_892 : Cond.methodLink "LifeNoes$Sayer" 26 ⟨"LifeNoes$Sayer", "bars", "(I)I"⟩ ∈ gT := gin_4 (List.mem_of_getElem? (i := 172) rfl) rfl
theorem wd_893 : Cond.methodLink "LifeNoes" 331 ⟨"LifeNoes$Sayer", "shares", "(I)I"⟩ ∈ gT := gin_4 (List.mem_of_getElem? (i := 173) rfl) rfl
theorem wd_894 : Cond.instanceMethod ⟨"LifeNoes$Sayer", "shares", "(I)I"⟩ ∈ gT := gin_4 (List.mem_of_getElem? (i := 174) rfl) rfl
theorem wd_895 : Cond.selects "LifeNoes$Sayer" ⟨"LifeNoes$Sayer", "shares", "(I)I"⟩ ⟨"LifeNoes$Sayer", "shares", "(I)I"⟩ ∈ gT := gin_4 (List.mem_of_getElem? (i := 175) rfl) rfl
theorem wd_896 : Cond.sameMethod "LifeNoes$Sayer" "LifeNoes$Sayer" "shares" "(I)I" ∈ gT := gin_4 (List.mem_of_getElem? (i := 176) rfl) rfl
theorem wd_897 : Cond.selects "LifeNoes$Bar" ⟨"LifeNoes$Sayer", "shares", "(I)I"⟩ ⟨"LifeNoes$Sayer", "shares", "(I)I"⟩ ∈ gT := gin_4 (List.mem_of_getElem? (i := 177) rfl) rfl
theorem wd_898 : Cond.selects "LifeNoes$League" ⟨"LifeNoes$Sayer", "shares", "(I)I"⟩ ⟨"LifeNoes$League", "shares", "(I)I"⟩ ∈ gT := gin_4 (List.mem_of_getElem? (i := 178) rfl) rfl
theorem wd_899 : Cond.instanceMethod ⟨"LifeNoes$League", "shares", "(I)I"⟩ ∈ gT := gin_4 (List.mem_of_getElem? (i := 179) rfl) rfl
theorem wd_900 : Cond.code ⟨"LifeNoes$League", "shares", "(I)I"⟩ prog_4_method_3_code 2 (some .int) ∈ gT := gin_4 (List.mem_of_getElem? (i := 180) rfl) rfl
theorem wd_901 : Cond.methodLink "LifeNoes$League" 27 ⟨"LifeNoes$Quick", "shares", "(I)I"⟩ ∈ gT := gin_4 (List.mem_of_getElem? (i := 181) rfl) rfl
theorem wd_902 : Cond.sameMethod "LifeNoes$Quick" "LifeNoes$Sayer" "shares" "(I)I" ∈ gT := gin_4 (List.mem_of_getElem? (i := 182) rfl) rfl
theorem wd_904 : Cond.selects "LifeNoes$Quick" ⟨"LifeNoes$Sayer", "shares", "(I)I"⟩ ⟨"LifeNoes$Sayer", "shares", "(I)I"⟩ ∈ gT := gin_4 (List.mem_of_getElem? (i := 184) rfl) rfl
theorem wd_905 : Cond.selects "LifeNoes$Told" ⟨"LifeNoes$Sayer", "shares", "(I)I"⟩ ⟨"LifeNoes$Told", "shares", "(I)I"⟩ ∈ gT := gin_4 (List.mem_of_getElem? (i := 185) rfl) rfl
theorem wd_906 : Cond.instanceMethod ⟨"LifeNoes$Told", "shares", "(I)I"⟩ ∈ gT := gin_4 (List.mem_of_getElem? (i := 186) rfl) rfl
theorem wd_907 : Cond.code ⟨"LifeNoes$Told", "shares", "(I)I"⟩ prog_9_method_3_code 3 (some .int) ∈ gT := gin_4 (List.mem_of_getElem? (i := 187) rfl) rfl
theorem wd_908 : Cond.methodLink "LifeNoes$Told" 13 ⟨"LifeNoes$Trace", "begin", "(I)V"⟩ ∈ gT := gin_4 (List.mem_of_getElem? (i := 188) rfl) rfl
theorem wd_909 : Cond.methodLink "LifeNoes$Told" 23 ⟨"LifeNoes$Sayer", "shares", "(I)I"⟩ ∈ gT := gin_4 (List.mem_of_getElem? (i := 189) rfl) rfl
theorem wd_910 : Cond.methodLink "LifeNoes$Told" 34 ⟨"LifeNoes$Told", "bars", "(I)I"⟩ ∈ gT := gin_4 (List.mem_of_getElem? (i := 190) rfl) rfl
theorem wd_911 : Cond.sameMethod "LifeNoes$Told" "LifeNoes$Sayer" "bars" "(I)I" ∈ gT := gin_4 (List.mem_of_getElem? (i := 191) rfl) rfl
theorem wd_912 : Cond.selects "LifeNoes$Told" ⟨"LifeNoes$Told", "bars", "(I)I"⟩ ⟨"LifeNoes$Sayer", "bars", "(I)I"⟩ ∈ gT := gin_4 (List.mem_of_getElem? (i := 192) rfl) rfl
theorem wd_913 : Cond.selects "LifeNoes$Wait" ⟨"LifeNoes$Sayer", "shares", "(I)I"⟩ ⟨"LifeNoes$Sayer", "shares", "(I)I"⟩ ∈ gT := gin_4 (List.mem_of_getElem? (i := 193) rfl) rfl
theorem wd_914 : Cond.code ⟨"LifeNoes$Sayer", "shares", "(I)I"⟩ prog_6_method_4_code 2 (some .int) ∈ gT := gin_4 (List.mem_of_getElem? (i := 194) rfl) rfl
theorem wd_915 : Cond.methodLink "LifeNoes" 334 ⟨"LifeNoes$Sayer", "tells", "(I)I"⟩ ∈ gT := gin_4 (List.mem_of_getElem? (i := 195) rfl) rfl
theorem wd_916 : Cond.instanceMethod ⟨"LifeNoes$Sayer", "tells", "(I)I"⟩ ∈ gT := gin_4 (List.mem_of_getElem? (i := 196) rfl) rfl
theorem wd_917 : Cond.selects "LifeNoes$Sayer" ⟨"LifeNoes$Sayer", "tells", "(I)I"⟩ ⟨"LifeNoes$Sayer", "tells", "(I)I"⟩ ∈ gT := gin_4 (List.mem_of_getElem? (i := 197) rfl) rfl
theorem wd_918 : Cond.sameMethod "LifeNoes$Sayer" "LifeNoes$Sayer" "tells" "(I)I" ∈ gT := gin_4 (List.mem_of_getElem? (i := 198) rfl) rfl
theorem wd_919 : Cond.selects "LifeNoes$Bar" ⟨"LifeNoes$Sayer", "tells", "(I)I"⟩ ⟨"LifeNoes$Bar", "tells", "(I)I"⟩ ∈ gT := gin_4 (List.mem_of_getElem? (i := 199) rfl) rfl
theorem wd_920 : Cond.instanceMethod ⟨"LifeNoes$Bar", "tells", "(I)I"⟩ ∈ gT := gin_4 (List.mem_of_getElem? (i := 200) rfl) rfl
theorem wd_921 : Cond.code ⟨"LifeNoes$Bar", "tells", "(I)I"⟩ prog_3_method_3_code 2 (some .int) ∈ gT := gin_4 (List.mem_of_getElem? (i := 201) rfl) rfl
theorem wd_922 : Cond.methodLink "LifeNoes$Bar" 23 ⟨"LifeNoes$Sayer", "tells", "(I)I"⟩ ∈ gT := gin_4 (List.mem_of_getElem? (i := 202) rfl) rfl
theorem wd_923 : Cond.methodLink "LifeNoes$Bar" 30 ⟨"LifeNoes$Bar", "shares", "(I)I"⟩ ∈ gT := gin_4 (List.mem_of_getElem? (i := 203) rfl) rfl
theorem wd_924 : Cond.sameMethod "LifeNoes$Bar" "LifeNoes$Sayer" "shares" "(I)I" ∈ gT := gin_4 (List.mem_of_getElem? (i := 204) rfl) rfl
theorem wd_925 : Cond.selects "LifeNoes$Bar" ⟨"LifeNoes$Bar", "shares", "(I)I"⟩ ⟨"LifeNoes$Sayer", "shares", "(I)I"⟩ ∈ gT := gin_4 (List.mem_of_getElem? (i := 205) rfl) rfl
theorem wd_926 : Cond.selects "LifeNoes$Wait" ⟨"LifeNoes$Bar", "shares", "(I)I"⟩ ⟨"LifeNoes$Sayer", "shares", "(I)I"⟩ ∈ gT := gin_4 (List.mem_of_getElem? (i := 206) rfl) rfl
theorem wd_927 : Cond.selects "LifeNoes$League" ⟨"LifeNoes$Sayer", "tells", "(I)I"⟩ ⟨"LifeNoes$Sayer", "tells", "(I)I"⟩ ∈ gT := gin_4 (List.mem_of_getElem? (i := 207) rfl) rfl
theorem wd_928 : Cond.selects "LifeNoes$Quick" ⟨"LifeNoes$Sayer", "tells", "(I)I"⟩ ⟨"LifeNoes$Sayer", "tells", "(I)I"⟩ ∈ gT := gin_4 (List.mem_of_getElem? (i := 208) rfl) rfl
theorem wd_929 : Cond.selects "LifeNoes$Told" ⟨"LifeNoes$Sayer", "tells", "(I)I"⟩ ⟨"LifeNoes$Told", "tells", "(I)I"⟩ ∈ gT := gin_4 (List.mem_of_getElem? (i := 209) rfl) rfl
theorem wd_930 : Cond.instanceMethod ⟨"LifeNoes$Told", "tells", "(I)I"⟩ ∈ gT := gin_4 (List.mem_of_getElem? (i := 210) rfl) rfl
theorem wd_931 : Cond.code ⟨"LifeNoes$Told", "tells", "(I)I"⟩ prog_9_method_2_code 2 (some .int) ∈ gT := gin_4 (List.mem_of_getElem? (i := 211) rfl) rfl
theorem wd_932 : Cond.methodLink "LifeNoes$Told" 19 ⟨"LifeNoes$Sayer", "tells", "(I)I"⟩ ∈ gT := gin_4 (List.mem_of_getElem? (i := 212) rfl) rfl
theorem wd_933 : Cond.selects "LifeNoes$Wait" ⟨"LifeNoes$Sayer", "tells", "(I)I"⟩ ⟨"LifeNoes$Bar", "tells", "(I)I"⟩ ∈ gT := gin_4 (List.mem_of_getElem? (i := 213) rfl) rfl
theorem wd_934 : Cond.code ⟨"LifeNoes$Sayer", "tells", "(I)I"⟩ prog_6_method_5_code 2 (some .int) ∈ gT := gin_4 (List.mem_of_getElem? (i := 214) rfl) rfl
theorem wd_935 : Cond.methodLink "LifeNoes$Sayer" 34 ⟨"LifeNoes$Sayer", "waits", "(I)I"⟩ ∈ gT := gin_4 (List.mem_of_getElem? (i := 215) rfl) rfl
theorem wd_936 : Cond.methodLink "LifeNoesLaw" 175 ⟨"LifeNoes", "trace", "(I)I"⟩ ∈ gT := gin_4 (List.mem_of_getElem? (i := 216) rfl) rfl
theorem wd_937 : Cond.instanceMethod ⟨"LifeNoes", "trace", "(I)I"⟩ ∈ gT := gin_4 (List.mem_of_getElem? (i := 217) rfl) rfl
theorem wd_938 : Cond.selects "LifeNoes" ⟨"LifeNoes", "trace", "(I)I"⟩ ⟨"LifeNoes", "trace", "(I)I"⟩ ∈ gT := gin_4 (List.mem_of_getElem? (i := 218) rfl) rfl
theorem wd_939 : Cond.code ⟨"LifeNoes", "trace", "(I)I"⟩ prog_1_method_40_code 2 (some .int) ∈ gT := gin_4 (List.mem_of_getElem? (i := 219) rfl) rfl
theorem wd_940 : Cond.methodLink "LifeNoesLaw" 179 ⟨"LifeNoes", "many", "(I)I"⟩ ∈ gT := gin_4 (List.mem_of_getElem? (i := 220) rfl) rfl
theorem wd_941 : Cond.instanceMethod ⟨"LifeNoes", "many", "(I)I"⟩ ∈ gT := gin_4 (List.mem_of_getElem? (i := 221) rfl) rfl
theorem wd_942 : Cond.selects "LifeNoes" ⟨"LifeNoes", "many", "(I)I"⟩ ⟨"LifeNoes", "many", "(I)I"⟩ ∈ gT := gin_4 (List.mem_of_getElem? (i := 222) rfl) rfl
theorem wd_943 : Cond.code ⟨"LifeNoes", "many", "(I)I"⟩ prog_1_method_41_code 2 (some .int) ∈ gT := gin_4 (List.mem_of_getElem? (i := 223) rfl) rfl
theorem wd_944 : Cond.methodLink "LifeNoes" 299 ⟨"LifeNoes$Village", "allNoes", "()I"⟩ ∈ gT := gin_4 (List.mem_of_getElem? (i := 224) rfl) rfl
theorem wd_945 : Cond.instanceMethod ⟨"LifeNoes$Village", "allNoes", "()I"⟩ ∈ gT := gin_4 (List.mem_of_getElem? (i := 225) rfl) rfl
theorem wd_946 : Cond.selects "LifeNoes$Village" ⟨"LifeNoes$Village", "allNoes", "()I"⟩ ⟨"LifeNoes$Village", "allNoes", "()I"⟩ ∈ gT := gin_4 (List.mem_of_getElem? (i := 226) rfl) rfl
theorem wd_947 : Cond.code ⟨"LifeNoes$Village", "allNoes", "()I"⟩ prog_11_method_8_code 3 (some .int) ∈ gT := gin_4 (List.mem_of_getElem? (i := 227) rfl) rfl
theorem wd_948 : Cond.methodLink "LifeNoesLaw" 183 ⟨"LifeNoes", "keep", "()I"⟩ ∈ gT := gin_4 (List.mem_of_getElem? (i := 228) rfl) rfl
theorem wd_949 : Cond.instanceMethod ⟨"LifeNoes", "keep", "()I"⟩ ∈ gT := gin_4 (List.mem_of_getElem? (i := 229) rfl) rfl
theorem wd_950 : Cond.selects "LifeNoes" ⟨"LifeNoes", "keep", "()I"⟩ ⟨"LifeNoes", "keep", "()I"⟩ ∈ gT := gin_4 (List.mem_of_getElem? (i := 230) rfl) rfl
theorem wd_951 : Cond.code ⟨"LifeNoes", "keep", "()I"⟩ prog_1_method_42_code 1 (some .int) ∈ gT := gin_4 (List.mem_of_getElem? (i := 231) rfl) rfl
theorem wd_952 : Cond.methodLink "LifeNoesLaw" 187 ⟨"LifeNoes", "again", "()I"⟩ ∈ gT := gin_4 (List.mem_of_getElem? (i := 232) rfl) rfl
theorem wd_953 : Cond.instanceMethod ⟨"LifeNoes", "again", "()I"⟩ ∈ gT := gin_4 (List.mem_of_getElem? (i := 233) rfl) rfl
theorem wd_954 : Cond.selects "LifeNoes" ⟨"LifeNoes", "again", "()I"⟩ ⟨"LifeNoes", "again", "()I"⟩ ∈ gT := gin_4 (List.mem_of_getElem? (i := 234) rfl) rfl
theorem wd_955 : Cond.code ⟨"LifeNoes", "again", "()I"⟩ prog_1_method_43_code 1 (some .int) ∈ gT := gin_4 (List.mem_of_getElem? (i := 235) rfl) rfl
theorem wd_956 : Cond.classLink "LifeNoesLaw" 10 "LifeNoesModel" ∈ gT := gin_4 (List.mem_of_getElem? (i := 236) rfl) rfl
theorem wd_957 : Cond.instantiable "LifeNoesModel" 53 ∈ gT := gin_4 (List.mem_of_getElem? (i := 237) rfl) rfl
theorem wd_958 : Cond.methodLink "LifeNoesLaw" 12 ⟨"LifeNoesModel", "<init>", "()V"⟩ ∈ gT := gin_4 (List.mem_of_getElem? (i := 238) rfl) rfl
theorem wd_959 : Cond.instanceMethod ⟨"LifeNoesModel", "<init>", "()V"⟩ ∈ gT := gin_4 (List.mem_of_getElem? (i := 239) rfl) rfl
theorem wd_960 : Cond.code ⟨"LifeNoesModel", "<init>", "()V"⟩ prog_14_method_1_code 1 none ∈ gT := gin_5 (List.mem_of_getElem? (i := 0) rfl) rfl
theorem wd_961 : Cond.methodLink "LifeNoesModel" 1 ⟨"java/lang/Object", "<init>", "()V"⟩ ∈ gT := gin_5 (List.mem_of_getElem? (i := 1) rfl) rfl
theorem wd_962 : Cond.fieldLink "LifeNoesModel" 96 "LifeNoesModel" "people" "I" ∈ gT := gin_5 (List.mem_of_getElem? (i := 2) rfl) rfl
theorem wd_963 : Cond.fieldLink "LifeNoesModel" 7 "LifeNoesModel" "kindOf" "[I" ∈ gT := gin_5 (List.mem_of_getElem? (i := 3) rfl) rfl
theorem wd_964 : Cond.fieldLink "LifeNoesModel" 13 "LifeNoesModel" "aOf" "[I" ∈ gT := gin_5 (List.mem_of_getElem? (i := 4) rfl) rfl
theorem wd_965 : Cond.fieldLink "LifeNoesModel" 16 "LifeNoesModel" "age" "[I" ∈ gT := gin_5 (List.mem_of_getElem? (i := 5) rfl) rfl
theorem wd_966 : Cond.fieldLink "LifeNoesModel" 19 "LifeNoesModel" "had" "[I" ∈ gT := gin_5 (List.mem_of_getElem? (i := 6) rfl) rfl
theorem wd_967 : Cond.fieldLink "LifeNoesModel" 103 "LifeNoesModel" "proposals" "I" ∈ gT := gin_5 (List.mem_of_getElem? (i := 7) rfl) rfl
theorem wd_968 : Cond.fieldLink "LifeNoesModel" 22 "LifeNoesModel" "weight" "[I" ∈ gT := gin_5 (List.mem_of_getElem? (i := 8) rfl) rfl
theorem wd_969 : Cond.fieldLink "LifeNoesModel" 25 "LifeNoesModel" "worth" "[I" ∈ gT := gin_5 (List.mem_of_getElem? (i := 9) rfl) rfl
theorem wd_970 : Cond.fieldLink "LifeNoesModel" 28 "LifeNoesModel" "laws" "[I" ∈ gT := gin_5 (List.mem_of_getElem? (i := 10) rfl) rfl
theorem wd_971 : Cond.fieldLink "LifeNoesModel" 31 "LifeNoesModel" "leastOf" "[I" ∈ gT := gin_5 (List.mem_of_getElem? (i := 11) rfl) rfl
theorem wd_972 : Cond.fieldLink "LifeNoesModel" 34 "LifeNoesModel" "mostOf" "[I" ∈ gT := gin_5 (List.mem_of_getElem? (i := 12) rfl) rfl
theorem wd_973 : Cond.fieldLink "LifeNoesModel" 37 "LifeNoesModel" "row" "[I" ∈ gT := gin_5 (List.mem_of_getElem? (i := 13) rfl) rfl
theorem wd_974 : Cond.fieldLink "LifeNoesModel" 225 "LifeNoesModel" "fell" "I" ∈ gT := gin_5 (List.mem_of_getElem? (i := 14) rfl) rfl
theorem wd_975 : Cond.fieldLink "LifeNoesModel" 228 "LifeNoesModel" "passed" "I" ∈ gT := gin_5 (List.mem_of_getElem? (i := 15) rfl) rfl
theorem wd_976 : Cond.fieldLink "LifeNoesModel" 40 "LifeNoesModel" "z" "I" ∈ gT := gin_5 (List.mem_of_getElem? (i := 16) rfl) rfl
theorem wd_977 : Cond.fieldLink "LifeNoesModel" 44 "LifeNoesModel" "tape" "[I" ∈ gT := gin_5 (List.mem_of_getElem? (i := 17) rfl) rfl
theorem wd_978 : Cond.fieldLink "LifeNoesModel" 106 "LifeNoesModel" "tapeMany" "I" ∈ gT := gin_5 (List.mem_of_getElem? (i := 18) rfl) rfl
theorem wd_979 : Cond.fieldLink "LifeNoesModel" 128 "LifeNoesModel" "sort" "I" ∈ gT := gin_5 (List.mem_of_getElem? (i := 19) rfl) rfl
theorem wd_980 : Cond.fieldLink "LifeNoesModel" 114 "LifeNoesModel" "begins" "I" ∈ gT := gin_5 (List.mem_of_getElem? (i := 20) rfl) rfl
theorem wd_981 : Cond.fieldLink "LifeNoesModel" 111 "LifeNoesModel" "tokenEnds" "I" ∈ gT := gin_5 (List.mem_of_getElem? (i := 21) rfl) rfl
theorem wd_982 : Cond.fieldLink "LifeNoesModel" 131 "LifeNoesModel" "word" "J" ∈ gT := gin_5 (List.mem_of_getElem? (i := 22) rfl) rfl
theorem wd_983 : Cond.fieldLink "LifeNoesModel" 135 "LifeNoesModel" "value" "I" ∈ gT := gin_5 (List.mem_of_getElem? (i := 23) rfl) rfl
theorem wd_984 : Cond.fieldLink "LifeNoesModel" 160 "LifeNoesModel" "good" "Z" ∈ gT := gin_5 (List.mem_of_getElem? (i := 24) rfl) rfl
theorem wd_985 : Cond.fieldLink "LifeNoesModel" 174 "LifeNoesModel" "freshPeople" "I" ∈ gT := gin_5 (List.mem_of_getElem? (i := 25) rfl) rfl
theorem wd_986 : Cond.fieldLink "LifeNoesModel" 192 "LifeNoesModel" "freshProposals" "I" ∈ gT := gin_5 (List.mem_of_getElem? (i := 26) rfl) rfl
theorem wd_987 : Cond.fieldLink "LifeNoesModel" 47 "LifeNoesModel" "freshPerson" "[I" ∈ gT := gin_5 (List.mem_of_getElem? (i := 27) rfl) rfl
theorem wd_988 : Cond.fieldLink "LifeNoesModel" 50 "LifeNoesModel" "freshWeight" "[I" ∈ gT := gin_5 (List.mem_of_getElem? (i := 28) rfl) rfl
theorem wd_989 : Cond.fieldLink "LifeNoesModel" 53 "LifeNoesModel" "freshWorth" "[I" ∈ gT := gin_5 (List.mem_of_getElem? (i := 29) rfl) rfl
theorem wd_990 : Cond.fieldLink "LifeNoesModel" 56 "LifeNoesModel" "freshLaws" "[I" ∈ gT := gin_5 (List.mem_of_getElem? (i := 30) rfl) rfl
theorem wd_991 : Cond.fieldLink "LifeNoesModel" 59 "LifeNoesModel" "self" "I" ∈ gT := gin_5 (List.mem_of_getElem? (i := 31) rfl) rfl
theorem wd_992 : Cond.fieldLink "LifeNoesModel" 256 "LifeNoesModel" "selfSays" "I" ∈ gT := gin_5 (List.mem_of_getElem? (i := 32) rfl) rfl
theorem wd_993 : Cond.fieldLink "LifeNoesModel" 268 "LifeNoesModel" "said" "I" ∈ gT := gin_5 (List.mem_of_getElem? (i := 33) rfl) rfl
theorem wd_994 : Cond.fieldLink "LifeNoesModel" 291 "LifeNoesModel" "above" "J" ∈ gT := gin_5 (List.mem_of_getElem? (i := 34) rfl) rfl
theorem wd_995 : Cond.fieldLink "LifeNoesModel" 294 "LifeNoesModel" "below" "J" ∈ gT := gin_5 (List.mem_of_getElem? (i := 35) rfl) rfl
theorem wd_996 : Cond.fieldLink "LifeNoesModel" 62 "LifeNoesModel" "rows" "[I" ∈ gT := gin_5 (List.mem_of_getElem? (i := 36) rfl) rfl
theorem wd_997 : Cond.fieldLink "LifeNoesModel" 65 "LifeNoesModel" "must" "[I" ∈ gT := gin_5 (List.mem_of_getElem? (i := 37) rfl) rfl
theorem wd_998 : Cond.fieldLink "LifeNoesModel" 231 "LifeNoesModel" "rowMany" "I" ∈ gT := gin_5 (List.mem_of_getElem? (i := 38) rfl) rfl
theorem wd_999 : Cond.fieldLink "LifeNoesModel" 68 "LifeNoesModel" "sorts" "[I" ∈ gT := gin_5 (List.mem_of_getElem? (i := 39) rfl) rfl
theorem wd_1000 : Cond.fieldLink "LifeNoesModel" 71 "LifeNoesModel" "sizes" "[I" ∈ gT := gin_5 (List.mem_of_getElem? (i := 40) rfl) rfl
theorem wd_1001 : Cond.fieldLink "LifeNoesModel" 74 "LifeNoesModel" "sheets" "[J" ∈ gT := gin_5 (List.mem_of_getElem? (i := 41) rfl) rfl
theorem wd_1002 : Cond.fieldLink "LifeNoesModel" 78 "LifeNoesModel" "held" "[I" ∈ gT := gin_5 (List.mem_of_getElem? (i := 42) rfl) rfl
theorem wd_1003 : Cond.fieldLink "LifeNoesModel" 81 "LifeNoesModel" "heldNumber" "[I" ∈ gT := gin_5 (List.mem_of_getElem? (i := 43) rfl) rfl
theorem wd_1004 : Cond.fieldLink "LifeNoesModel" 84 "LifeNoesModel" "heldSize" "[I" ∈ gT := gin_5 (List.mem_of_getElem? (i := 44) rfl) rfl
theorem wd_1005 : Cond.fieldLink "LifeNoesModel" 385 "LifeNoesModel" "actKind" "I" ∈ gT := gin_5 (List.mem_of_getElem? (i := 45) rfl) rfl
theorem wd_1006 : Cond.fieldLink "LifeNoesModel" 379 "LifeNoesModel" "number" "I" ∈ gT := gin_5 (List.mem_of_getElem? (i := 46) rfl) rfl
theorem wd_1007 : Cond.fieldLink "LifeNoesModel" 397 "LifeNoesModel" "own" "I" ∈ gT := gin_5 (List.mem_of_getElem? (i := 47) rfl) rfl
theorem wd_1008 : Cond.fieldLink "LifeNoesModel" 87 "LifeNoesModel" "traced" "[I" ∈ gT := gin_5 (List.mem_of_getElem? (i := 48) rfl) rfl
theorem wd_1009 : Cond.fieldLink "LifeNoesModel" 373 "LifeNoesModel" "bodies" "I" ∈ gT := gin_5 (List.mem_of_getElem? (i := 49) rfl) rfl
theorem wd_1010 : Cond.fieldLink "LifeNoesModel" 400 "LifeNoesModel" "isParted" "Z" ∈ gT := gin_5 (List.mem_of_getElem? (i := 50) rfl) rfl
theorem wd_1011 : Cond.fieldLink "LifeNoesModel" 429 "LifeNoesModel" "isKept" "Z" ∈ gT := gin_5 (List.mem_of_getElem? (i := 51) rfl) rfl
theorem wd_1012 : Cond.fieldLink "LifeNoesModel" 90 "LifeNoesModel" "keptRow" "[I" ∈ gT := gin_5 (List.mem_of_getElem? (i := 52) rfl) rfl
theorem wd_1013 : Cond.fieldLink "LifeNoesModel" 418 "LifeNoesModel" "movedTo" "I" ∈ gT := gin_5 (List.mem_of_getElem? (i := 53) rfl) rfl
theorem wd_1014 : Cond.fieldLink "LifeNoesModel" 93 "LifeNoesModel" "single" "[I" ∈ gT := gin_5 (List.mem_of_getElem? (i := 54) rfl) rfl
theorem wd_1015 : Cond.lays "LifeNoesModel" "LifeNoesModel" "people" "I" ∈ gT := gin_5 (List.mem_of_getElem? (i := 55) rfl) rfl
theorem wd_1016 : Cond.soleField "LifeNoesModel" "people" ∈ gT := gin_5 (List.mem_of_getElem? (i := 56) rfl) rfl
theorem wd_1017 : Cond.laysFinal "LifeNoesModel" "LifeNoesModel" "kindOf" "[I" ∈ gT := gin_5 (List.mem_of_getElem? (i := 57) rfl) rfl
theorem wd_1018 : Cond.soleField "LifeNoesModel" "kindOf" ∈ gT := gin_5 (List.mem_of_getElem? (i := 58) rfl) rfl
theorem wd_1019 : Cond.laysFinal "LifeNoesModel" "LifeNoesModel" "aOf" "[I" ∈ gT := gin_5 (List.mem_of_getElem? (i := 59) rfl) rfl
theorem wd_1020 : Cond.soleField "LifeNoesModel" "aOf" ∈ gT := gin_5 (List.mem_of_getElem? (i := 60) rfl) rfl
theorem wd_1021 : Cond.laysFinal "LifeNoesModel" "LifeNoesModel" "age" "[I" ∈ gT := gin_5 (List.mem_of_getElem? (i := 61) rfl) rfl
theorem wd_1022 : Cond.soleField "LifeNoesModel" "age" ∈ gT := gin_5 (List.mem_of_getElem? (i := 62) rfl) rfl
theorem wd_1023 : Cond.laysFinal "LifeNoesModel" "LifeNoesModel" "had" "[I" ∈ gT := gin_5 (List.mem_of_getElem? (i := 63) rfl) rfl
theorem wd_1024 : Cond.soleField "LifeNoesModel" "had" ∈ gT := gin_5 (List.mem_of_getElem? (i := 64) rfl) rfl
theorem wd_1025 : Cond.lays "LifeNoesModel" "LifeNoesModel" "proposals" "I" ∈ gT := gin_5 (List.mem_of_getElem? (i := 65) rfl) rfl
theorem wd_1026 : Cond.soleField "LifeNoesModel" "proposals" ∈ gT := gin_5 (List.mem_of_getElem? (i := 66) rfl) rfl
theorem wd_1027 : Cond.laysFinal "LifeNoesModel" "LifeNoesModel" "weight" "[I" ∈ gT := gin_5 (List.mem_of_getElem? (i := 67) rfl) rfl
theorem wd_1028 : Cond.soleField "LifeNoesModel" "weight" ∈ gT := gin_5 (List.mem_of_getElem? (i := 68) rfl) rfl
theorem wd_1029 : Cond.laysFinal "LifeNoesModel" "LifeNoesModel" "worth" "[I" ∈ gT := gin_5 (List.mem_of_getElem? (i := 69) rfl) rfl
theorem wd_1030 : Cond.soleField "LifeNoesModel" "worth" ∈ gT := gin_5 (List.mem_of_getElem? (i := 70) rfl) rfl
theorem wd_1031 : Cond.laysFinal "LifeNoesModel" "LifeNoesModel" "laws" "[I" ∈ gT := gin_5 (List.mem_of_getElem? (i := 71) rfl) rfl
theorem wd_1032 : Cond.soleField "LifeNoesModel" "laws" ∈ gT := gin_5 (List.mem_of_getElem? (i := 72) rfl) rfl
theorem wd_1033 : Cond.laysFinal "LifeNoesModel" "LifeNoesModel" "leastOf" "[I" ∈ gT := gin_5 (List.mem_of_getElem? (i := 73) rfl) rfl
theorem wd_1034 : Cond.soleField "LifeNoesModel" "leastOf" ∈ gT := gin_5 (List.mem_of_getElem? (i := 74) rfl) rfl
theorem wd_1035 : Cond.laysFinal "LifeNoesModel" "LifeNoesModel" "mostOf" "[I" ∈ gT := gin_5 (List.mem_of_getElem? (i := 75) rfl) rfl
theorem wd_1036 : Cond.soleField "LifeNoesModel" "mostOf" ∈ gT := gin_5 (List.mem_of_getElem? (i := 76) rfl) rfl
theorem wd_1037 : Cond.laysFinal "LifeNoesModel" "LifeNoesModel" "row" "[I" ∈ gT := gin_5 (List.mem_of_getElem? (i := 77) rfl) rfl
theorem wd_1038 : Cond.soleField "LifeNoesModel" "row" ∈ gT := gin_5 (List.mem_of_getElem? (i := 78) rfl) rfl
theorem wd_1039 : Cond.lays "LifeNoesModel" "LifeNoesModel" "fell" "I" ∈ gT := gin_5 (List.mem_of_getElem? (i := 79) rfl) rfl
theorem wd_1040 : Cond.soleField "LifeNoesModel" "fell" ∈ gT := gin_5 (List.mem_of_getElem? (i := 80) rfl) rfl
theorem wd_1041 : Cond.lays "LifeNoesModel" "LifeNoesModel" "passed" "I" ∈ gT := gin_5 (List.mem_of_getElem? (i := 81) rfl) rfl
theorem wd_1042 : Cond.soleField "LifeNoesModel" "passed" ∈ gT := gin_5 (List.mem_of_getElem? (i := 82) rfl) rfl
theorem wd_1043 : Cond.lays "LifeNoesModel" "LifeNoesModel" "z" "I" ∈ gT := gin_5 (List.mem_of_getElem? (i := 83) rfl) rfl
theorem wd_1044 : Cond.soleField "LifeNoesModel" "z" ∈ gT := gin_5 (List.mem_of_getElem? (i := 84) rfl) rfl
theorem wd_1045 : Cond.laysFinal "LifeNoesModel" "LifeNoesModel" "tape" "[I" ∈ gT := gin_5 (List.mem_of_getElem? (i := 85) rfl) rfl
theorem wd_1046 : Cond.soleField "LifeNoesModel" "tape" ∈ gT := gin_5 (List.mem_of_getElem? (i := 86) rfl) rfl
theorem wd_1047 : Cond.lays "LifeNoesModel" "LifeNoesModel" "tapeMany" "I" ∈ gT := gin_5 (List.mem_of_getElem? (i := 87) rfl) rfl
theorem wd_1048 : Cond.soleField "LifeNoesModel" "tapeMany" ∈ gT := gin_5 (List.mem_of_getElem? (i := 88) rfl) rfl
theorem wd_1049 : Cond.lays "LifeNoesModel" "LifeNoesModel" "sort" "I" ∈ gT := gin_5 (List.mem_of_getElem? (i := 89) rfl) rfl
theorem wd_1050 : Cond.soleField "LifeNoesModel" "sort" ∈ gT := gin_5 (List.mem_of_getElem? (i := 90) rfl) rfl
theorem wd_1051 : Cond.lays "LifeNoesModel" "LifeNoesModel" "begins" "I" ∈ gT := gin_5 (List.mem_of_getElem? (i := 91) rfl) rfl
theorem wd_1052 : Cond.soleField "LifeNoesModel" "begins" ∈ gT := gin_5 (List.mem_of_getElem? (i := 92) rfl) rfl
theorem wd_1053 : Cond.lays "LifeNoesModel" "LifeNoesModel" "tokenEnds" "I" ∈ gT := gin_5 (List.mem_of_getElem? (i := 93) rfl) rfl
theorem wd_1054 : Cond.soleField "LifeNoesModel" "tokenEnds" ∈ gT := gin_5 (List.mem_of_getElem? (i := 94) rfl) rfl
theorem wd_1055 : Cond.lays "LifeNoesModel" "LifeNoesModel" "word" "J" ∈ gT := gin_5 (List.mem_of_getElem? (i := 95) rfl) rfl
theorem wd_1056 : Cond.soleField "LifeNoesModel" "word" ∈ gT := gin_5 (List.mem_of_getElem? (i := 96) rfl) rfl
theorem wd_1057 : Cond.lays "LifeNoesModel" "LifeNoesModel" "value" "I" ∈ gT := gin_5 (List.mem_of_getElem? (i := 97) rfl) rfl
theorem wd_1058 : Cond.soleField "LifeNoesModel" "value" ∈ gT := gin_5 (List.mem_of_getElem? (i := 98) rfl) rfl
theorem wd_1059 : Cond.lays "LifeNoesModel" "LifeNoesModel" "good" "Z" ∈ gT := gin_5 (List.mem_of_getElem? (i := 99) rfl) rfl
theorem wd_1060 : Cond.soleField "LifeNoesModel" "good" ∈ gT := gin_5 (List.mem_of_getElem? (i := 100) rfl) rfl
theorem wd_1061 : Cond.lays "LifeNoesModel" "LifeNoesModel" "freshPeople" "I" ∈ gT := gin_5 (List.mem_of_getElem? (i := 101) rfl) rfl
theorem wd_1062 : Cond.soleField "LifeNoesModel" "freshPeople" ∈ gT := gin_5 (List.mem_of_getElem? (i := 102) rfl) rfl
theorem wd_1063 : Cond.lays "LifeNoesModel" "LifeNoesModel" "freshProposals" "I" ∈ gT := gin_5 (List.mem_of_getElem? (i := 103) rfl) rfl
theorem wd_1064 : Cond.soleField "LifeNoesModel" "freshProposals" ∈ gT := gin_5 (List.mem_of_getElem? (i := 104) rfl) rfl
theorem wd_1065 : Cond.laysFinal "LifeNoesModel" "LifeNoesModel" "freshPerson" "[I" ∈ gT := gin_5 (List.mem_of_getElem? (i := 105) rfl) rfl
theorem wd_1066 : Cond.soleField "LifeNoesModel" "freshPerson" ∈ gT := gin_5 (List.mem_of_getElem? (i := 106) rfl) rfl
theorem wd_1067 : Cond.laysFinal "LifeNoesModel" "LifeNoesModel" "freshWeight" "[I" ∈ gT := gin_5 (List.mem_of_getElem? (i := 107) rfl) rfl
theorem wd_1068 : Cond.soleField "LifeNoesModel" "freshWeight" ∈ gT := gin_5 (List.mem_of_getElem? (i := 108) rfl) rfl
theorem wd_1069 : Cond.laysFinal "LifeNoesModel" "LifeNoesModel" "freshWorth" "[I" ∈ gT := gin_5 (List.mem_of_getElem? (i := 109) rfl) rfl
theorem wd_1070 : Cond.soleField "LifeNoesModel" "freshWorth" ∈ gT := gin_5 (List.mem_of_getElem? (i := 110) rfl) rfl
theorem wd_1071 : Cond.laysFinal "LifeNoesModel" "LifeNoesModel" "freshLaws" "[I" ∈ gT := gin_5 (List.mem_of_getElem? (i := 111) rfl) rfl
theorem wd_1072 : Cond.soleField "LifeNoesModel" "freshLaws" ∈ gT := gin_5 (List.mem_of_getElem? (i := 112) rfl) rfl
theorem wd_1073 : Cond.lays "LifeNoesModel" "LifeNoesModel" "self" "I" ∈ gT := gin_5 (List.mem_of_getElem? (i := 113) rfl) rfl
theorem wd_1074 : Cond.soleField "LifeNoesModel" "self" ∈ gT := gin_5 (List.mem_of_getElem? (i := 114) rfl) rfl
theorem wd_1075 : Cond.lays "LifeNoesModel" "LifeNoesModel" "selfSays" "I" ∈ gT := gin_5 (List.mem_of_getElem? (i := 115) rfl) rfl
theorem wd_1076 : Cond.soleField "LifeNoesModel" "selfSays" ∈ gT := gin_5 (List.mem_of_getElem? (i := 116) rfl) rfl
theorem wd_1077 : Cond.lays "LifeNoesModel" "LifeNoesModel" "said" "I" ∈ gT := gin_5 (List.mem_of_getElem? (i := 117) rfl) rfl
theorem wd_1078 : Cond.soleField "LifeNoesModel" "said" ∈ gT := gin_5 (List.mem_of_getElem? (i := 118) rfl) rfl
theorem wd_1079 : Cond.lays "LifeNoesModel" "LifeNoesModel" "above" "J" ∈ gT := gin_5 (List.mem_of_getElem? (i := 119) rfl) rfl
theorem wd_1080 : Cond.soleField "LifeNoesModel" "above" ∈ gT := gin_5 (List.mem_of_getElem? (i := 120) rfl) rfl
theorem wd_1081 : Cond.lays "LifeNoesModel" "LifeNoesModel" "below" "J" ∈ gT := gin_5 (List.mem_of_getElem? (i := 121) rfl) rfl
theorem wd_1082 : Cond.soleField "LifeNoesModel" "below" ∈ gT := gin_5 (List.mem_of_getElem? (i := 122) rfl) rfl
theorem wd_1083 : Cond.laysFinal "LifeNoesModel" "LifeNoesModel" "rows" "[I" ∈ gT := gin_5 (List.mem_of_getElem? (i := 123) rfl) rfl
theorem wd_1084 : Cond.soleField "LifeNoesModel" "rows" ∈ gT := gin_5 (List.mem_of_getElem? (i := 124) rfl) rfl
theorem wd_1085 : Cond.laysFinal "LifeNoesModel" "LifeNoesModel" "must" "[I" ∈ gT := gin_5 (List.mem_of_getElem? (i := 125) rfl) rfl
theorem wd_1086 : Cond.soleField "LifeNoesModel" "must" ∈ gT := gin_5 (List.mem_of_getElem? (i := 126) rfl) rfl
theorem wd_1087 : Cond.lays "LifeNoesModel" "LifeNoesModel" "rowMany" "I" ∈ gT := gin_5 (List.mem_of_getElem? (i := 127) rfl) rfl
theorem wd_1088 : Cond.soleField "LifeNoesModel" "rowMany" ∈ gT := gin_5 (List.mem_of_getElem? (i := 128) rfl) rfl
theorem wd_1089 : Cond.laysFinal "LifeNoesModel" "LifeNoesModel" "sorts" "[I" ∈ gT := gin_5 (List.mem_of_getElem? (i := 129) rfl) rfl
theorem wd_1090 : Cond.soleField "LifeNoesModel" "sorts" ∈ gT := gin_5 (List.mem_of_getElem? (i := 130) rfl) rfl
theorem wd_1091 : Cond.laysFinal "LifeNoesModel" "LifeNoesModel" "sizes" "[I" ∈ gT := gin_5 (List.mem_of_getElem? (i := 131) rfl) rfl
theorem wd_1092 : Cond.soleField "LifeNoesModel" "sizes" ∈ gT := gin_5 (List.mem_of_getElem? (i := 132) rfl) rfl
theorem wd_1093 : Cond.laysFinal "LifeNoesModel" "LifeNoesModel" "sheets" "[J" ∈ gT := gin_5 (List.mem_of_getElem? (i := 133) rfl) rfl
theorem wd_1094 : Cond.soleField "LifeNoesModel" "sheets" ∈ gT := gin_5 (List.mem_of_getElem? (i := 134) rfl) rfl
theorem wd_1095 : Cond.laysFinal "LifeNoesModel" "LifeNoesModel" "held" "[I" ∈ gT := gin_5 (List.mem_of_getElem? (i := 135) rfl) rfl
theorem wd_1096 : Cond.soleField "LifeNoesModel" "held" ∈ gT := gin_5 (List.mem_of_getElem? (i := 136) rfl) rfl
theorem wd_1097 : Cond.laysFinal "LifeNoesModel" "LifeNoesModel" "heldNumber" "[I" ∈ gT := gin_5 (List.mem_of_getElem? (i := 137) rfl) rfl
theorem wd_1098 : Cond.soleField "LifeNoesModel" "heldNumber" ∈ gT := gin_5 (List.mem_of_getElem? (i := 138) rfl) rfl
theorem wd_1099 : Cond.laysFinal "LifeNoesModel" "LifeNoesModel" "heldSize" "[I" ∈ gT := gin_5 (List.mem_of_getElem? (i := 139) rfl) rfl
theorem wd_1100 : Cond.soleField "LifeNoesModel" "heldSize" ∈ gT := gin_5 (List.mem_of_getElem? (i := 140) rfl) rfl
theorem wd_1101 : Cond.lays "LifeNoesModel" "LifeNoesModel" "actKind" "I" ∈ gT := gin_5 (List.mem_of_getElem? (i := 141) rfl) rfl
theorem wd_1102 : Cond.soleField "LifeNoesModel" "actKind" ∈ gT := gin_5 (List.mem_of_getElem? (i := 142) rfl) rfl
theorem wd_1103 : Cond.lays "LifeNoesModel" "LifeNoesModel" "number" "I" ∈ gT := gin_5 (List.mem_of_getElem? (i := 143) rfl) rfl
theorem wd_1104 : Cond.soleField "LifeNoesModel" "number" ∈ gT := gin_5 (List.mem_of_getElem? (i := 144) rfl) rfl
theorem wd_1105 : Cond.lays "LifeNoesModel" "LifeNoesModel" "own" "I" ∈ gT := gin_5 (List.mem_of_getElem? (i := 145) rfl) rfl
theorem wd_1106 : Cond.soleField "LifeNoesModel" "own" ∈ gT := gin_5 (List.mem_of_getElem? (i := 146) rfl) rfl
theorem wd_1107 : Cond.laysFinal "LifeNoesModel" "LifeNoesModel" "traced" "[I" ∈ gT := gin_5 (List.mem_of_getElem? (i := 147) rfl) rfl
theorem wd_1108 : Cond.soleField "LifeNoesModel" "traced" ∈ gT := gin_5 (List.mem_of_getElem? (i := 148) rfl) rfl
theorem wd_1109 : Cond.lays "LifeNoesModel" "LifeNoesModel" "bodies" "I" ∈ gT := gin_5 (List.mem_of_getElem? (i := 149) rfl) rfl
theorem wd_1110 : Cond.soleField "LifeNoesModel" "bodies" ∈ gT := gin_5 (List.mem_of_getElem? (i := 150) rfl) rfl
theorem wd_1111 : Cond.lays "LifeNoesModel" "LifeNoesModel" "isParted" "Z" ∈ gT := gin_5 (List.mem_of_getElem? (i := 151) rfl) rfl
theorem wd_1112 : Cond.soleField "LifeNoesModel" "isParted" ∈ gT := gin_5 (List.mem_of_getElem? (i := 152) rfl) rfl
theorem wd_1113 : Cond.lays "LifeNoesModel" "LifeNoesModel" "isKept" "Z" ∈ gT := gin_5 (List.mem_of_getElem? (i := 153) rfl) rfl
theorem wd_1114 : Cond.soleField "LifeNoesModel" "isKept" ∈ gT := gin_5 (List.mem_of_getElem? (i := 154) rfl) rfl
theorem wd_1115 : Cond.laysFinal "LifeNoesModel" "LifeNoesModel" "keptRow" "[I" ∈ gT := gin_5 (List.mem_of_getElem? (i := 155) rfl) rfl
theorem wd_1116 : Cond.soleField "LifeNoesModel" "keptRow" ∈ gT := gin_5 (List.mem_of_getElem? (i := 156) rfl) rfl
theorem wd_1117 : Cond.lays "LifeNoesModel" "LifeNoesModel" "movedTo" "I" ∈ gT := gin_5 (List.mem_of_getElem? (i := 157) rfl) rfl
theorem wd_1118 : Cond.soleField "LifeNoesModel" "movedTo" ∈ gT := gin_5 (List.mem_of_getElem? (i := 158) rfl) rfl
theorem wd_1119 : Cond.laysFinal "LifeNoesModel" "LifeNoesModel" "single" "[I" ∈ gT := gin_5 (List.mem_of_getElem? (i := 159) rfl) rfl
theorem wd_1120 : Cond.soleField "LifeNoesModel" "single" ∈ gT := gin_5 (List.mem_of_getElem? (i := 160) rfl) rfl
theorem wd_1121 : Cond.superclass "LifeNoesModel" "java/lang/Object" ∈ gT := gin_5 (List.mem_of_getElem? (i := 161) rfl) rfl
theorem wd_1122 : Cond.methodLink "LifeNoesLaw" 19 ⟨"LifeNoesModel", "feed", "(JI)I"⟩ ∈ gT := gin_5 (List.mem_of_getElem? (i := 162) rfl) rfl
theorem wd_1123 : Cond.instanceMethod ⟨"LifeNoesModel", "feed", "(JI)I"⟩ ∈ gT := gin_5 (List.mem_of_getElem? (i := 163) rfl) rfl
theorem wd_1124 : Cond.selects "LifeNoesModel" ⟨"LifeNoesModel", "feed", "(JI)I"⟩ ⟨"LifeNoesModel", "feed", "(JI)I"⟩ ∈ gT := gin_5 (List.mem_of_getElem? (i := 164) rfl) rfl
theorem wd_1125 : Cond.code ⟨"LifeNoesModel", "feed", "(JI)I"⟩ prog_14_method_7_code 5 (some .int) ∈ gT := gin_5 (List.mem_of_getElem? (i := 165) rfl) rfl
theorem wd_1126 : Cond.methodLink "LifeNoesModel" 99 ⟨"LifeNoesModel", "in", "(III)Z"⟩ ∈ gT := gin_5 (List.mem_of_getElem? (i := 166) rfl) rfl
theorem wd_1127 : Cond.static ⟨"LifeNoesModel", "in", "(III)Z"⟩ ∈ gT := gin_5 (List.mem_of_getElem? (i := 167) rfl) rfl
theorem wd_1128 : Cond.code ⟨"LifeNoesModel", "in", "(III)Z"⟩ prog_14_method_2_code 3 (some .boolean) ∈ gT := gin_5 (List.mem_of_getElem? (i := 168) rfl) rfl
theorem wd_1129 : Cond.constantLong "LifeNoesModel" 109 255 ∈ gT := gin_5 (List.mem_of_getElem? (i := 169) rfl) rfl
theorem wd_1130 : Cond.methodLink "LifeNoesLaw" 24 ⟨"LifeNoesModel", "village", "()I"⟩ ∈ gT := gin_5 (List.mem_of_getElem? (i := 170) rfl) rfl
theorem wd_1131 : Cond.instanceMethod ⟨"LifeNoesModel", "village", "()I"⟩ ∈ gT := gin_5 (List.mem_of_getElem? (i := 171) rfl) rfl
theorem wd_1132 : Cond.selects "LifeNoesModel" ⟨"LifeNoesModel", "village", "()I"⟩ ⟨"LifeNoesModel", "village", "()I"⟩ ∈ gT := gin_5 (List.mem_of_getElem? (i := 172) rfl) rfl
theorem wd_1133 : Cond.code ⟨"LifeNoesModel", "village", "()I"⟩ prog_14_method_24_code 3 (some .int) ∈ gT := gin_5 (List.mem_of_getElem? (i := 173) rfl) rfl
theorem wd_1134 : Cond.methodLink "LifeNoesModel" 164 ⟨"LifeNoesModel", "advance", "()V"⟩ ∈ gT := gin_5 (List.mem_of_getElem? (i := 174) rfl) rfl
theorem wd_1136 : Cond.instanceMethod ⟨"LifeNoesModel", "advance", "()V"⟩ ∈ gT := gin_5 (List.mem_of_getElem? (i := 176) rfl) rfl
theorem wd_1137 : Cond.code ⟨"LifeNoesModel", "advance", "()V"⟩ prog_14_method_11_code 2 none ∈ gT := gin_5 (List.mem_of_getElem? (i := 177) rfl) rfl
theorem wd_1138 : Cond.methodLink "LifeNoesModel" 117 ⟨"LifeNoesModel", "byteAt", "(I)I"⟩ ∈ gT := gin_5 (List.mem_of_getElem? (i := 178) rfl) rfl
theorem wd_1140 : Cond.instanceMethod ⟨"LifeNoesModel", "byteAt", "(I)I"⟩ ∈ gT := gin_5 (List.mem_of_getElem? (i := 180) rfl) rfl
theorem wd_1141 : Cond.code ⟨"LifeNoesModel", "byteAt", "(I)I"⟩ prog_14_method_8_code 2 (some .int) ∈ gT := gin_5 (List.mem_of_getElem? (i := 181) rfl) rfl
theorem wd_1142 : Cond.methodLink "LifeNoesModel" 121 ⟨"LifeNoesModel", "isLetter", "(I)Z"⟩ ∈ gT := gin_5 (List.mem_of_getElem? (i := 182) rfl) rfl
theorem wd_1143 : Cond.static ⟨"LifeNoesModel", "isLetter", "(I)Z"⟩ ∈ gT := gin_5 (List.mem_of_getElem? (i := 183) rfl) rfl
theorem wd_1144 : Cond.code ⟨"LifeNoesModel", "isLetter", "(I)Z"⟩ prog_14_method_9_code 1 (some .boolean) ∈ gT := gin_5 (List.mem_of_getElem? (i := 184) rfl) rfl
theorem wd_1145 : Cond.methodLink "LifeNoesModel" 125 ⟨"LifeNoesModel", "isDigit", "(I)Z"⟩ ∈ gT := gin_5 (List.mem_of_getElem? (i := 185) rfl) rfl
theorem wd_1146 : Cond.static ⟨"LifeNoesModel", "isDigit", "(I)Z"⟩ ∈ gT := gin_5 (List.mem_of_getElem? (i := 186) rfl) rfl
theorem wd_1147 : Cond.code ⟨"LifeNoesModel", "isDigit", "(I)Z"⟩ prog_14_method_10_code 1 (some .boolean) ∈ gT := gin_5 (List.mem_of_getElem? (i := 187) rfl) rfl
theorem wd_1148 : Cond.constantLong "LifeNoesModel" 138 27 ∈ gT := gin_5 (List.mem_of_getElem? (i := 188) rfl) rfl
theorem wd_1149 : Cond.constantLong "LifeNoesModel" 140 96 ∈ gT := gin_5 (List.mem_of_getElem? (i := 189) rfl) rfl
theorem wd_1150 : Cond.constantLong "LifeNoesModel" 142 (-1) ∈ gT := gin_5 (List.mem_of_getElem? (i := 190) rfl) rfl
theorem wd_1151 : Cond.methodLink "LifeNoesModel" 222 ⟨"LifeNoesModel", "wantClause", "()V"⟩ ∈ gT := gin_5 (List.mem_of_getElem? (i := 191) rfl) rfl
theorem wd_1153 : Cond.instanceMethod ⟨"LifeNoesModel", "wantClause", "()V"⟩ ∈ gT := gin_5 (List.mem_of_getElem? (i := 193) rfl) rfl
theorem wd_1154 : Cond.code ⟨"LifeNoesModel", "wantClause", "()V"⟩ prog_14_method_23_code 1 none ∈ gT := gin_5 (List.mem_of_getElem? (i := 194) rfl) rfl
theorem wd_1155 : Cond.methodLink "LifeNoesModel" 200 ⟨"LifeNoesModel", "kindHere", "()I"⟩ ∈ gT := gin_5 (List.mem_of_getElem? (i := 195) rfl) rfl
theorem wd_1157 : Cond.instanceMethod ⟨"LifeNoesModel", "kindHere", "()I"⟩ ∈ gT := gin_5 (List.mem_of_getElem? (i := 197) rfl) rfl
theorem wd_1158 : Cond.code ⟨"LifeNoesModel", "kindHere", "()I"⟩ prog_14_method_14_code 1 (some .int) ∈ gT := gin_5 (List.mem_of_getElem? (i := 198) rfl) rfl
theorem wd_1159 : Cond.constantLong "LifeNoesModel" 144 10135440 ∈ gT := gin_5 (List.mem_of_getElem? (i := 199) rfl) rfl
theorem wd_1160 : Cond.methodLink "LifeNoesModel" 146 ⟨"LifeNoesModel", "isWord", "(J)Z"⟩ ∈ gT := gin_5 (List.mem_of_getElem? (i := 200) rfl) rfl
theorem wd_1162 : Cond.instanceMethod ⟨"LifeNoesModel", "isWord", "(J)Z"⟩ ∈ gT := gin_5 (List.mem_of_getElem? (i := 202) rfl) rfl
theorem wd_1163 : Cond.code ⟨"LifeNoesModel", "isWord", "(J)Z"⟩ prog_14_method_12_code 3 (some .boolean) ∈ gT := gin_5 (List.mem_of_getElem? (i := 203) rfl) rfl
theorem wd_1164 : Cond.constantLong "LifeNoesModel" 150 9454493 ∈ gT := gin_5 (List.mem_of_getElem? (i := 204) rfl) rfl
theorem wd_1165 : Cond.constantLong "LifeNoesModel" 152 1503 ∈ gT := gin_5 (List.mem_of_getElem? (i := 205) rfl) rfl
theorem wd_1166 : Cond.constantLong "LifeNoesModel" 154 453701 ∈ gT := gin_5 (List.mem_of_getElem? (i := 206) rfl) rfl
theorem wd_1167 : Cond.constantLong "LifeNoesModel" 156 174869447 ∈ gT := gin_5 (List.mem_of_getElem? (i := 207) rfl) rfl
theorem wd_1168 : Cond.constantLong "LifeNoesModel" 158 404923 ∈ gT := gin_5 (List.mem_of_getElem? (i := 208) rfl) rfl
theorem wd_1169 : Cond.methodLink "LifeNoesModel" 204 ⟨"LifeNoesModel", "wantPerson", "(I)V"⟩ ∈ gT := gin_5 (List.mem_of_getElem? (i := 209) rfl) rfl
theorem wd_1171 : Cond.instanceMethod ⟨"LifeNoesModel", "wantPerson", "(I)V"⟩ ∈ gT := gin_5 (List.mem_of_getElem? (i := 211) rfl) rfl
theorem wd_1172 : Cond.code ⟨"LifeNoesModel", "wantPerson", "(I)V"⟩ prog_14_method_19_code 5 none ∈ gT := gin_5 (List.mem_of_getElem? (i := 212) rfl) rfl
theorem wd_1173 : Cond.constantLong "LifeNoesModel" 177 923 ∈ gT := gin_5 (List.mem_of_getElem? (i := 213) rfl) rfl
theorem wd_1174 : Cond.methodLink "LifeNoesModel" 179 ⟨"LifeNoesModel", "wantWord", "(J)V"⟩ ∈ gT := gin_5 (List.mem_of_getElem? (i := 214) rfl) rfl
theorem wd_1176 : Cond.instanceMethod ⟨"LifeNoesModel", "wantWord", "(J)V"⟩ ∈ gT := gin_5 (List.mem_of_getElem? (i := 216) rfl) rfl
theorem wd_1177 : Cond.code ⟨"LifeNoesModel", "wantWord", "(J)V"⟩ prog_14_method_16_code 3 none ∈ gT := gin_5 (List.mem_of_getElem? (i := 217) rfl) rfl
theorem wd_1178 : Cond.methodLink "LifeNoesModel" 167 ⟨"LifeNoesModel", "wantNumber", "(II)I"⟩ ∈ gT := gin_5 (List.mem_of_getElem? (i := 218) rfl) rfl
theorem wd_1180 : Cond.instanceMethod ⟨"LifeNoesModel", "wantNumber", "(II)I"⟩ ∈ gT := gin_5 (List.mem_of_getElem? (i := 220) rfl) rfl
theorem wd_1181 : Cond.code ⟨"LifeNoesModel", "wantNumber", "(II)I"⟩ prog_14_method_15_code 4 (some .int) ∈ gT := gin_5 (List.mem_of_getElem? (i := 221) rfl) rfl
theorem wd_1182 : Cond.methodLink "LifeNoesModel" 183 ⟨"LifeNoesModel", "mayNumber", "(JII)I"⟩ ∈ gT := gin_5 (List.mem_of_getElem? (i := 222) rfl) rfl
theorem wd_1184 : Cond.instanceMethod ⟨"LifeNoesModel", "mayNumber", "(JII)I"⟩ ∈ gT := gin_5 (List.mem_of_getElem? (i := 224) rfl) rfl
theorem wd_1185 : Cond.code ⟨"LifeNoesModel", "mayNumber", "(JII)I"⟩ prog_14_method_17_code 5 (some .int) ∈ gT := gin_5 (List.mem_of_getElem? (i := 225) rfl) rfl
theorem wd_1186 : Cond.constantLong "LifeNoesModel" 187 286651 ∈ gT := gin_5 (List.mem_of_getElem? (i := 226) rfl) rfl
theorem wd_1187 : Cond.methodLink "LifeNoesModel" 189 ⟨"LifeNoesModel", "wantEnd", "()V"⟩ ∈ gT := gin_5 (List.mem_of_getElem? (i := 227) rfl) rfl
theorem wd_1189 : Cond.instanceMethod ⟨"LifeNoesModel", "wantEnd", "()V"⟩ ∈ gT := gin_5 (List.mem_of_getElem? (i := 229) rfl) rfl
theorem wd_1190 : Cond.code ⟨"LifeNoesModel", "wantEnd", "()V"⟩ prog_14_method_18_code 1 none ∈ gT := gin_5 (List.mem_of_getElem? (i := 230) rfl) rfl
theorem wd_1191 : Cond.methodLink "LifeNoesModel" 171 ⟨"LifeNoesModel", "isMark", "(I)Z"⟩ ∈ gT := gin_5 (List.mem_of_getElem? (i := 231) rfl) rfl
theorem wd_1193 : Cond.instanceMethod ⟨"LifeNoesModel", "isMark", "(I)Z"⟩ ∈ gT := gin_5 (List.mem_of_getElem? (i := 233) rfl) rfl
theorem wd_1194 : Cond.code ⟨"LifeNoesModel", "isMark", "(I)Z"⟩ prog_14_method_13_code 2 (some .boolean) ∈ gT := gin_5 (List.mem_of_getElem? (i := 234) rfl) rfl
theorem wd_1195 : Cond.constantLong "LifeNoesModel" 208 174563265846 ∈ gT := gin_5 (List.mem_of_getElem? (i := 235) rfl) rfl
theorem wd_1196 : Cond.methodLink "LifeNoesModel" 210 ⟨"LifeNoesModel", "wantProposal", "()V"⟩ ∈ gT := gin_5 (List.mem_of_getElem? (i := 236) rfl) rfl
theorem wd_1198 : Cond.instanceMethod ⟨"LifeNoesModel", "wantProposal", "()V"⟩ ∈ gT := gin_5 (List.mem_of_getElem? (i := 238) rfl) rfl
theorem wd_1199 : Cond.code ⟨"LifeNoesModel", "wantProposal", "()V"⟩ prog_14_method_21_code 3 none ∈ gT := gin_5 (List.mem_of_getElem? (i := 239) rfl) rfl
theorem wd_1200 : Cond.constantLong "LifeNoesModel" 195 12532058 ∈ gT := gin_6 (List.mem_of_getElem? (i := 0) rfl) rfl
theorem wd_1201 : Cond.methodLink "LifeNoesModel" 197 ⟨"LifeNoesModel", "wantWorths", "()V"⟩ ∈ gT := gin_6 (List.mem_of_getElem? (i := 1) rfl) rfl
theorem wd_1203 : Cond.instanceMethod ⟨"LifeNoesModel", "wantWorths", "()V"⟩ ∈ gT := gin_6 (List.mem_of_getElem? (i := 3) rfl) rfl
theorem wd_1204 : Cond.code ⟨"LifeNoesModel", "wantWorths", "()V"⟩ prog_14_method_20_code 5 none ∈ gT := gin_6 (List.mem_of_getElem? (i := 4) rfl) rfl
theorem wd_1205 : Cond.constantLong "LifeNoesModel" 213 279346 ∈ gT := gin_6 (List.mem_of_getElem? (i := 5) rfl) rfl
theorem wd_1206 : Cond.methodLink "LifeNoesModel" 215 ⟨"LifeNoesModel", "wantLaw", "(I)V"⟩ ∈ gT := gin_6 (List.mem_of_getElem? (i := 6) rfl) rfl
theorem wd_1208 : Cond.instanceMethod ⟨"LifeNoesModel", "wantLaw", "(I)V"⟩ ∈ gT := gin_6 (List.mem_of_getElem? (i := 8) rfl) rfl
theorem wd_1209 : Cond.code ⟨"LifeNoesModel", "wantLaw", "(I)V"⟩ prog_14_method_22_code 3 none ∈ gT := gin_6 (List.mem_of_getElem? (i := 9) rfl) rfl
theorem wd_1210 : Cond.constantLong "LifeNoesModel" 218 409469 ∈ gT := gin_6 (List.mem_of_getElem? (i := 10) rfl) rfl
theorem wd_1211 : Cond.constantLong "LifeNoesModel" 220 151331 ∈ gT := gin_6 (List.mem_of_getElem? (i := 11) rfl) rfl
theorem wd_1212 : Cond.methodLink "LifeNoesLaw" 29 ⟨"LifeNoesModel", "person", "(IIII)I"⟩ ∈ gT := gin_6 (List.mem_of_getElem? (i := 12) rfl) rfl
theorem wd_1213 : Cond.instanceMethod ⟨"LifeNoesModel", "person", "(IIII)I"⟩ ∈ gT := gin_6 (List.mem_of_getElem? (i := 13) rfl) rfl
theorem wd_1214 : Cond.selects "LifeNoesModel" ⟨"LifeNoesModel", "person", "(IIII)I"⟩ ⟨"LifeNoesModel", "person", "(IIII)I"⟩ ∈ gT := gin_6 (List.mem_of_getElem? (i := 14) rfl) rfl
theorem wd_1215 : Cond.code ⟨"LifeNoesModel", "person", "(IIII)I"⟩ prog_14_method_26_code 6 (some .int) ∈ gT := gin_6 (List.mem_of_getElem? (i := 15) rfl) rfl
theorem wd_1216 : Cond.methodLink "LifeNoesModel" 234 ⟨"LifeNoesModel", "isMind", "(II)Z"⟩ ∈ gT := gin_6 (List.mem_of_getElem? (i := 16) rfl) rfl
theorem wd_1217 : Cond.static ⟨"LifeNoesModel", "isMind", "(II)Z"⟩ ∈ gT := gin_6 (List.mem_of_getElem? (i := 17) rfl) rfl
theorem wd_1218 : Cond.code ⟨"LifeNoesModel", "isMind", "(II)Z"⟩ prog_14_method_25_code 2 (some .boolean) ∈ gT := gin_6 (List.mem_of_getElem? (i := 18) rfl) rfl
theorem wd_1219 : Cond.methodLink "LifeNoesLaw" 34 ⟨"LifeNoesModel", "personOf", "(II)I"⟩ ∈ gT := gin_6 (List.mem_of_getElem? (i := 19) rfl) rfl
theorem wd_1220 : Cond.instanceMethod ⟨"LifeNoesModel", "personOf", "(II)I"⟩ ∈ gT := gin_6 (List.mem_of_getElem? (i := 20) rfl) rfl
theorem wd_1221 : Cond.selects "LifeNoesModel" ⟨"LifeNoesModel", "personOf", "(II)I"⟩ ⟨"LifeNoesModel", "personOf", "(II)I"⟩ ∈ gT := gin_6 (List.mem_of_getElem? (i := 21) rfl) rfl
theorem wd_1222 : Cond.code ⟨"LifeNoesModel", "personOf", "(II)I"⟩ prog_14_method_27_code 3 (some .int) ∈ gT := gin_6 (List.mem_of_getElem? (i := 22) rfl) rfl
theorem wd_1223 : Cond.methodLink "LifeNoesModel" 238 ⟨"LifeNoesModel", "isPerson", "(I)Z"⟩ ∈ gT := gin_6 (List.mem_of_getElem? (i := 23) rfl) rfl
theorem wd_1225 : Cond.instanceMethod ⟨"LifeNoesModel", "isPerson", "(I)Z"⟩ ∈ gT := gin_6 (List.mem_of_getElem? (i := 25) rfl) rfl
theorem wd_1226 : Cond.code ⟨"LifeNoesModel", "isPerson", "(I)Z"⟩ prog_14_method_3_code 2 (some .boolean) ∈ gT := gin_6 (List.mem_of_getElem? (i := 26) rfl) rfl
theorem wd_1227 : Cond.methodLink "LifeNoesLaw" 39 ⟨"LifeNoesModel", "leave", "(I)I"⟩ ∈ gT := gin_6 (List.mem_of_getElem? (i := 27) rfl) rfl
theorem wd_1228 : Cond.instanceMethod ⟨"LifeNoesModel", "leave", "(I)I"⟩ ∈ gT := gin_6 (List.mem_of_getElem? (i := 28) rfl) rfl
theorem wd_1229 : Cond.selects "LifeNoesModel" ⟨"LifeNoesModel", "leave", "(I)I"⟩ ⟨"LifeNoesModel", "leave", "(I)I"⟩ ∈ gT := gin_6 (List.mem_of_getElem? (i := 29) rfl) rfl
theorem wd_1230 : Cond.code ⟨"LifeNoesModel", "leave", "(I)I"⟩ prog_14_method_28_code 4 (some .int) ∈ gT := gin_6 (List.mem_of_getElem? (i := 30) rfl) rfl
theorem wd_1231 : Cond.methodLink "LifeNoesLaw" 44 ⟨"LifeNoesModel", "mind", "(III)I"⟩ ∈ gT := gin_6 (List.mem_of_getElem? (i := 31) rfl) rfl
theorem wd_1232 : Cond.instanceMethod ⟨"LifeNoesModel", "mind", "(III)I"⟩ ∈ gT := gin_6 (List.mem_of_getElem? (i := 32) rfl) rfl
theorem wd_1233 : Cond.selects "LifeNoesModel" ⟨"LifeNoesModel", "mind", "(III)I"⟩ ⟨"LifeNoesModel", "mind", "(III)I"⟩ ∈ gT := gin_6 (List.mem_of_getElem? (i := 33) rfl) rfl
theorem wd_1234 : Cond.code ⟨"LifeNoesModel", "mind", "(III)I"⟩ prog_14_method_29_code 5 (some .int) ∈ gT := gin_6 (List.mem_of_getElem? (i := 34) rfl) rfl
theorem wd_1235 : Cond.methodLink "LifeNoesLaw" 48 ⟨"LifeNoesModel", "give", "(II)I"⟩ ∈ gT := gin_6 (List.mem_of_getElem? (i := 35) rfl) rfl
theorem wd_1236 : Cond.instanceMethod ⟨"LifeNoesModel", "give", "(II)I"⟩ ∈ gT := gin_6 (List.mem_of_getElem? (i := 36) rfl) rfl
theorem wd_1237 : Cond.selects "LifeNoesModel" ⟨"LifeNoesModel", "give", "(II)I"⟩ ⟨"LifeNoesModel", "give", "(II)I"⟩ ∈ gT := gin_6 (List.mem_of_getElem? (i := 37) rfl) rfl
theorem wd_1238 : Cond.code ⟨"LifeNoesModel", "give", "(II)I"⟩ prog_14_method_30_code 3 (some .int) ∈ gT := gin_6 (List.mem_of_getElem? (i := 38) rfl) rfl
theorem wd_1239 : Cond.methodLink "LifeNoesLaw" 52 ⟨"LifeNoesModel", "noes", "(II)I"⟩ ∈ gT := gin_6 (List.mem_of_getElem? (i := 39) rfl) rfl
theorem wd_1240 : Cond.instanceMethod ⟨"LifeNoesModel", "noes", "(II)I"⟩ ∈ gT := gin_6 (List.mem_of_getElem? (i := 40) rfl) rfl
theorem wd_1241 : Cond.selects "LifeNoesModel" ⟨"LifeNoesModel", "noes", "(II)I"⟩ ⟨"LifeNoesModel", "noes", "(II)I"⟩ ∈ gT := gin_6 (List.mem_of_getElem? (i := 41) rfl) rfl
theorem wd_1242 : Cond.code ⟨"LifeNoesModel", "noes", "(II)I"⟩ prog_14_method_31_code 4 (some .int) ∈ gT := gin_6 (List.mem_of_getElem? (i := 42) rfl) rfl
theorem wd_1243 : Cond.methodLink "LifeNoesLaw" 56 ⟨"LifeNoesModel", "proposal", "(I)I"⟩ ∈ gT := gin_6 (List.mem_of_getElem? (i := 43) rfl) rfl
theorem wd_1244 : Cond.instanceMethod ⟨"LifeNoesModel", "proposal", "(I)I"⟩ ∈ gT := gin_6 (List.mem_of_getElem? (i := 44) rfl) rfl
theorem wd_1245 : Cond.selects "LifeNoesModel" ⟨"LifeNoesModel", "proposal", "(I)I"⟩ ⟨"LifeNoesModel", "proposal", "(I)I"⟩ ∈ gT := gin_6 (List.mem_of_getElem? (i := 45) rfl) rfl
theorem wd_1246 : Cond.code ⟨"LifeNoesModel", "proposal", "(I)I"⟩ prog_14_method_32_code 3 (some .int) ∈ gT := gin_6 (List.mem_of_getElem? (i := 46) rfl) rfl
theorem wd_1247 : Cond.methodLink "LifeNoesLaw" 60 ⟨"LifeNoesModel", "weigh", "(II)I"⟩ ∈ gT := gin_6 (List.mem_of_getElem? (i := 47) rfl) rfl
theorem wd_1248 : Cond.instanceMethod ⟨"LifeNoesModel", "weigh", "(II)I"⟩ ∈ gT := gin_6 (List.mem_of_getElem? (i := 48) rfl) rfl
theorem wd_1249 : Cond.selects "LifeNoesModel" ⟨"LifeNoesModel", "weigh", "(II)I"⟩ ⟨"LifeNoesModel", "weigh", "(II)I"⟩ ∈ gT := gin_6 (List.mem_of_getElem? (i := 49) rfl) rfl
theorem wd_1250 : Cond.code ⟨"LifeNoesModel", "weigh", "(II)I"⟩ prog_14_method_33_code 4 (some .int) ∈ gT := gin_6 (List.mem_of_getElem? (i := 50) rfl) rfl
theorem wd_1251 : Cond.methodLink "LifeNoesModel" 241 ⟨"LifeNoesModel", "isProposal", "(I)Z"⟩ ∈ gT := gin_6 (List.mem_of_getElem? (i := 51) rfl) rfl
theorem wd_1253 : Cond.instanceMethod ⟨"LifeNoesModel", "isProposal", "(I)Z"⟩ ∈ gT := gin_6 (List.mem_of_getElem? (i := 53) rfl) rfl
theorem wd_1254 : Cond.code ⟨"LifeNoesModel", "isProposal", "(I)Z"⟩ prog_14_method_4_code 2 (some .boolean) ∈ gT := gin_6 (List.mem_of_getElem? (i := 54) rfl) rfl
theorem wd_1255 : Cond.methodLink "LifeNoesLaw" 64 ⟨"LifeNoesModel", "worth", "(III)I"⟩ ∈ gT := gin_6 (List.mem_of_getElem? (i := 55) rfl) rfl
theorem wd_1256 : Cond.instanceMethod ⟨"LifeNoesModel", "worth", "(III)I"⟩ ∈ gT := gin_6 (List.mem_of_getElem? (i := 56) rfl) rfl
theorem wd_1257 : Cond.selects "LifeNoesModel" ⟨"LifeNoesModel", "worth", "(III)I"⟩ ⟨"LifeNoesModel", "worth", "(III)I"⟩ ∈ gT := gin_6 (List.mem_of_getElem? (i := 57) rfl) rfl
theorem wd_1258 : Cond.code ⟨"LifeNoesModel", "worth", "(III)I"⟩ prog_14_method_34_code 5 (some .int) ∈ gT := gin_6 (List.mem_of_getElem? (i := 58) rfl) rfl
theorem wd_1259 : Cond.methodLink "LifeNoesModel" 244 ⟨"LifeNoesModel", "worthTo", "(II)I"⟩ ∈ gT := gin_6 (List.mem_of_getElem? (i := 59) rfl) rfl
theorem wd_1261 : Cond.instanceMethod ⟨"LifeNoesModel", "worthTo", "(II)I"⟩ ∈ gT := gin_6 (List.mem_of_getElem? (i := 61) rfl) rfl
theorem wd_1262 : Cond.code ⟨"LifeNoesModel", "worthTo", "(II)I"⟩ prog_14_method_6_code 3 (some .int) ∈ gT := gin_6 (List.mem_of_getElem? (i := 62) rfl) rfl
theorem wd_1263 : Cond.methodLink "LifeNoesLaw" 68 ⟨"LifeNoesModel", "proposalOf", "(II)I"⟩ ∈ gT := gin_6 (List.mem_of_getElem? (i := 63) rfl) rfl
theorem wd_1264 : Cond.instanceMethod ⟨"LifeNoesModel", "proposalOf", "(II)I"⟩ ∈ gT := gin_6 (List.mem_of_getElem? (i := 64) rfl) rfl
theorem wd_1265 : Cond.selects "LifeNoesModel" ⟨"LifeNoesModel", "proposalOf", "(II)I"⟩ ⟨"LifeNoesModel", "proposalOf", "(II)I"⟩ ∈ gT := gin_6 (List.mem_of_getElem? (i := 65) rfl) rfl
theorem wd_1266 : Cond.code ⟨"LifeNoesModel", "proposalOf", "(II)I"⟩ prog_14_method_35_code 3 (some .int) ∈ gT := gin_6 (List.mem_of_getElem? (i := 66) rfl) rfl
theorem wd_1267 : Cond.methodLink "LifeNoesLaw" 72 ⟨"LifeNoesModel", "set", "(II)I"⟩ ∈ gT := gin_6 (List.mem_of_getElem? (i := 67) rfl) rfl
theorem wd_1268 : Cond.instanceMethod ⟨"LifeNoesModel", "set", "(II)I"⟩ ∈ gT := gin_6 (List.mem_of_getElem? (i := 68) rfl) rfl
theorem wd_1269 : Cond.selects "LifeNoesModel" ⟨"LifeNoesModel", "set", "(II)I"⟩ ⟨"LifeNoesModel", "set", "(II)I"⟩ ∈ gT := gin_6 (List.mem_of_getElem? (i := 69) rfl) rfl
theorem wd_1270 : Cond.code ⟨"LifeNoesModel", "set", "(II)I"⟩ prog_14_method_37_code 5 (some .int) ∈ gT := gin_6 (List.mem_of_getElem? (i := 70) rfl) rfl
theorem wd_1271 : Cond.methodLink "LifeNoesModel" 247 ⟨"LifeNoesModel", "isLaw", "(I)Z"⟩ ∈ gT := gin_6 (List.mem_of_getElem? (i := 71) rfl) rfl
theorem wd_1272 : Cond.static ⟨"LifeNoesModel", "isLaw", "(I)Z"⟩ ∈ gT := gin_6 (List.mem_of_getElem? (i := 72) rfl) rfl
theorem wd_1273 : Cond.code ⟨"LifeNoesModel", "isLaw", "(I)Z"⟩ prog_14_method_36_code 1 (some .boolean) ∈ gT := gin_6 (List.mem_of_getElem? (i := 73) rfl) rfl
theorem wd_1274 : Cond.methodLink "LifeNoesLaw" 76 ⟨"LifeNoesModel", "law", "(I)I"⟩ ∈ gT := gin_6 (List.mem_of_getElem? (i := 74) rfl) rfl
theorem wd_1275 : Cond.instanceMethod ⟨"LifeNoesModel", "law", "(I)I"⟩ ∈ gT := gin_6 (List.mem_of_getElem? (i := 75) rfl) rfl
theorem wd_1276 : Cond.selects "LifeNoesModel" ⟨"LifeNoesModel", "law", "(I)I"⟩ ⟨"LifeNoesModel", "law", "(I)I"⟩ ∈ gT := gin_6 (List.mem_of_getElem? (i := 76) rfl) rfl
theorem wd_1277 : Cond.code ⟨"LifeNoesModel", "law", "(I)I"⟩ prog_14_method_38_code 2 (some .int) ∈ gT := gin_6 (List.mem_of_getElem? (i := 77) rfl) rfl
theorem wd_1278 : Cond.methodLink "LifeNoesLaw" 80 ⟨"LifeNoesModel", "would", "(I)I"⟩ ∈ gT := gin_6 (List.mem_of_getElem? (i := 78) rfl) rfl
theorem wd_1279 : Cond.instanceMethod ⟨"LifeNoesModel", "would", "(I)I"⟩ ∈ gT := gin_6 (List.mem_of_getElem? (i := 79) rfl) rfl
theorem wd_1280 : Cond.selects "LifeNoesModel" ⟨"LifeNoesModel", "would", "(I)I"⟩ ⟨"LifeNoesModel", "would", "(I)I"⟩ ∈ gT := gin_6 (List.mem_of_getElem? (i := 80) rfl) rfl
theorem wd_1281 : Cond.code ⟨"LifeNoesModel", "would", "(I)I"⟩ prog_14_method_46_code 2 (some .int) ∈ gT := gin_6 (List.mem_of_getElem? (i := 81) rfl) rfl
theorem wd_1282 : Cond.methodLink "LifeNoesModel" 262 ⟨"LifeNoesModel", "wouldSet", "(II)I"⟩ ∈ gT := gin_6 (List.mem_of_getElem? (i := 82) rfl) rfl
theorem wd_1284 : Cond.instanceMethod ⟨"LifeNoesModel", "wouldSet", "(II)I"⟩ ∈ gT := gin_6 (List.mem_of_getElem? (i := 84) rfl) rfl
theorem wd_1285 : Cond.code ⟨"LifeNoesModel", "wouldSet", "(II)I"⟩ prog_14_method_42_code 6 (some .int) ∈ gT := gin_6 (List.mem_of_getElem? (i := 85) rfl) rfl
theorem wd_1286 : Cond.methodLink "LifeNoesModel" 259 ⟨"LifeNoesModel", "wouldBy", "(III)Z"⟩ ∈ gT := gin_6 (List.mem_of_getElem? (i := 86) rfl) rfl
theorem wd_1288 : Cond.instanceMethod ⟨"LifeNoesModel", "wouldBy", "(III)Z"⟩ ∈ gT := gin_6 (List.mem_of_getElem? (i := 88) rfl) rfl
theorem wd_1289 : Cond.code ⟨"LifeNoesModel", "wouldBy", "(III)Z"⟩ prog_14_method_41_code 5 (some .boolean) ∈ gT := gin_6 (List.mem_of_getElem? (i := 89) rfl) rfl
theorem wd_1290 : Cond.methodLink "LifeNoesModel" 250 ⟨"LifeNoesModel", "isLow", "(III)Z"⟩ ∈ gT := gin_6 (List.mem_of_getElem? (i := 90) rfl) rfl
theorem wd_1292 : Cond.instanceMethod ⟨"LifeNoesModel", "isLow", "(III)Z"⟩ ∈ gT := gin_6 (List.mem_of_getElem? (i := 92) rfl) rfl
theorem wd_1293 : Cond.code ⟨"LifeNoesModel", "isLow", "(III)Z"⟩ prog_14_method_39_code 6 (some .boolean) ∈ gT := gin_6 (List.mem_of_getElem? (i := 93) rfl) rfl
theorem wd_1294 : Cond.methodLink "LifeNoesModel" 253 ⟨"LifeNoesModel", "isCalled", "(II)Z"⟩ ∈ gT := gin_6 (List.mem_of_getElem? (i := 94) rfl) rfl
theorem wd_1296 : Cond.instanceMethod ⟨"LifeNoesModel", "isCalled", "(II)Z"⟩ ∈ gT := gin_6 (List.mem_of_getElem? (i := 96) rfl) rfl
theorem wd_1297 : Cond.code ⟨"LifeNoesModel", "isCalled", "(II)Z"⟩ prog_14_method_40_code 7 (some .boolean) ∈ gT := gin_6 (List.mem_of_getElem? (i := 97) rfl) rfl
theorem wd_1298 : Cond.methodLink "LifeNoesLaw" 84 ⟨"LifeNoesModel", "says", "(I)I"⟩ ∈ gT := gin_6 (List.mem_of_getElem? (i := 98) rfl) rfl
theorem wd_1299 : Cond.instanceMethod ⟨"LifeNoesModel", "says", "(I)I"⟩ ∈ gT := gin_6 (List.mem_of_getElem? (i := 99) rfl) rfl
theorem wd_1300 : Cond.selects "LifeNoesModel" ⟨"LifeNoesModel", "says", "(I)I"⟩ ⟨"LifeNoesModel", "says", "(I)I"⟩ ∈ gT := gin_6 (List.mem_of_getElem? (i := 100) rfl) rfl
theorem wd_1301 : Cond.code ⟨"LifeNoesModel", "says", "(I)I"⟩ prog_14_method_47_code 2 (some .int) ∈ gT := gin_6 (List.mem_of_getElem? (i := 101) rfl) rfl
theorem wd_1302 : Cond.methodLink "LifeNoesModel" 265 ⟨"LifeNoesModel", "saySet", "(II)I"⟩ ∈ gT := gin_6 (List.mem_of_getElem? (i := 102) rfl) rfl
theorem wd_1304 : Cond.instanceMethod ⟨"LifeNoesModel", "saySet", "(II)I"⟩ ∈ gT := gin_6 (List.mem_of_getElem? (i := 104) rfl) rfl
theorem wd_1305 : Cond.code ⟨"LifeNoesModel", "saySet", "(II)I"⟩ prog_14_method_43_code 9 (some .int) ∈ gT := gin_6 (List.mem_of_getElem? (i := 105) rfl) rfl
theorem wd_1306 : Cond.methodLink "LifeNoesLaw" 88 ⟨"LifeNoesModel", "comes", "(I)I"⟩ ∈ gT := gin_6 (List.mem_of_getElem? (i := 106) rfl) rfl
theorem wd_1307 : Cond.instanceMethod ⟨"LifeNoesModel", "comes", "(I)I"⟩ ∈ gT := gin_6 (List.mem_of_getElem? (i := 107) rfl) rfl
theorem wd_1308 : Cond.selects "LifeNoesModel" ⟨"LifeNoesModel", "comes", "(I)I"⟩ ⟨"LifeNoesModel", "comes", "(I)I"⟩ ∈ gT := gin_6 (List.mem_of_getElem? (i := 108) rfl) rfl
theorem wd_1309 : Cond.code ⟨"LifeNoesModel", "comes", "(I)I"⟩ prog_14_method_49_code 2 (some .int) ∈ gT := gin_6 (List.mem_of_getElem? (i := 109) rfl) rfl
theorem wd_1310 : Cond.methodLink "LifeNoesModel" 277 ⟨"LifeNoesModel", "comesNow", "(I)I"⟩ ∈ gT := gin_6 (List.mem_of_getElem? (i := 110) rfl) rfl
theorem wd_1312 : Cond.instanceMethod ⟨"LifeNoesModel", "comesNow", "(I)I"⟩ ∈ gT := gin_6 (List.mem_of_getElem? (i := 112) rfl) rfl
theorem wd_1313 : Cond.code ⟨"LifeNoesModel", "comesNow", "(I)I"⟩ prog_14_method_48_code 4 (some .int) ∈ gT := gin_6 (List.mem_of_getElem? (i := 113) rfl) rfl
theorem wd_1314 : Cond.methodLink "LifeNoesModel" 274 ⟨"LifeNoesModel", "goes", "(III)Z"⟩ ∈ gT := gin_6 (List.mem_of_getElem? (i := 114) rfl) rfl
theorem wd_1316 : Cond.instanceMethod ⟨"LifeNoesModel", "goes", "(III)Z"⟩ ∈ gT := gin_6 (List.mem_of_getElem? (i := 116) rfl) rfl
theorem wd_1317 : Cond.code ⟨"LifeNoesModel", "goes", "(III)Z"⟩ prog_14_method_45_code 8 (some .boolean) ∈ gT := gin_6 (List.mem_of_getElem? (i := 117) rfl) rfl
theorem wd_1318 : Cond.methodLink "LifeNoesModel" 271 ⟨"LifeNoesModel", "ones", "(I)I"⟩ ∈ gT := gin_6 (List.mem_of_getElem? (i := 118) rfl) rfl
theorem wd_1319 : Cond.static ⟨"LifeNoesModel", "ones", "(I)I"⟩ ∈ gT := gin_6 (List.mem_of_getElem? (i := 119) rfl) rfl
theorem wd_1320 : Cond.code ⟨"LifeNoesModel", "ones", "(I)I"⟩ prog_14_method_44_code 3 (some .int) ∈ gT := gin_6 (List.mem_of_getElem? (i := 120) rfl) rfl
theorem wd_1321 : Cond.methodLink "LifeNoesLaw" 92 ⟨"LifeNoesModel", "lot", "()I"⟩ ∈ gT := gin_6 (List.mem_of_getElem? (i := 121) rfl) rfl
theorem wd_1322 : Cond.instanceMethod ⟨"LifeNoesModel", "lot", "()I"⟩ ∈ gT := gin_6 (List.mem_of_getElem? (i := 122) rfl) rfl
theorem wd_1323 : Cond.selects "LifeNoesModel" ⟨"LifeNoesModel", "lot", "()I"⟩ ⟨"LifeNoesModel", "lot", "()I"⟩ ∈ gT := gin_6 (List.mem_of_getElem? (i := 123) rfl) rfl
theorem wd_1324 : Cond.code ⟨"LifeNoesModel", "lot", "()I"⟩ prog_14_method_53_code 3 (some .int) ∈ gT := gin_6 (List.mem_of_getElem? (i := 124) rfl) rfl
theorem wd_1325 : Cond.methodLink "LifeNoesModel" 281 ⟨"LifeNoesModel", "weightsInAll", "()I"⟩ ∈ gT := gin_6 (List.mem_of_getElem? (i := 125) rfl) rfl
theorem wd_1327 : Cond.instanceMethod ⟨"LifeNoesModel", "weightsInAll", "()I"⟩ ∈ gT := gin_6 (List.mem_of_getElem? (i := 127) rfl) rfl
theorem wd_1328 : Cond.code ⟨"LifeNoesModel", "weightsInAll", "()I"⟩ prog_14_method_50_code 3 (some .int) ∈ gT := gin_6 (List.mem_of_getElem? (i := 128) rfl) rfl
theorem wd_1329 : Cond.methodLink "LifeNoesModel" 284 ⟨"LifeNoesModel", "next", "(I)I"⟩ ∈ gT := gin_6 (List.mem_of_getElem? (i := 129) rfl) rfl
theorem wd_1330 : Cond.static ⟨"LifeNoesModel", "next", "(I)I"⟩ ∈ gT := gin_6 (List.mem_of_getElem? (i := 130) rfl) rfl
theorem wd_1331 : Cond.code ⟨"LifeNoesModel", "next", "(I)I"⟩ prog_14_method_52_code 1 (some .int) ∈ gT := gin_6 (List.mem_of_getElem? (i := 131) rfl) rfl
theorem wd_1332 : Cond.constant "LifeNoesModel" 280 1103515245 ∈ gT := gin_6 (List.mem_of_getElem? (i := 132) rfl) rfl
theorem wd_1333 : Cond.methodLink "LifeNoesModel" 287 ⟨"LifeNoesModel", "lotOf", "(II)I"⟩ ∈ gT := gin_6 (List.mem_of_getElem? (i := 133) rfl) rfl
theorem wd_1335 : Cond.instanceMethod ⟨"LifeNoesModel", "lotOf", "(II)I"⟩ ∈ gT := gin_6 (List.mem_of_getElem? (i := 135) rfl) rfl
theorem wd_1336 : Cond.code ⟨"LifeNoesModel", "lotOf", "(II)I"⟩ prog_14_method_51_code 5 (some .int) ∈ gT := gin_6 (List.mem_of_getElem? (i := 136) rfl) rfl
theorem wd_1337 : Cond.methodLink "LifeNoesLaw" 96 ⟨"LifeNoesModel", "had", "(I)I"⟩ ∈ gT := gin_6 (List.mem_of_getElem? (i := 137) rfl) rfl
theorem wd_1338 : Cond.instanceMethod ⟨"LifeNoesModel", "had", "(I)I"⟩ ∈ gT := gin_6 (List.mem_of_getElem? (i := 138) rfl) rfl
theorem wd_1339 : Cond.selects "LifeNoesModel" ⟨"LifeNoesModel", "had", "(I)I"⟩ ⟨"LifeNoesModel", "had", "(I)I"⟩ ∈ gT := gin_6 (List.mem_of_getElem? (i := 139) rfl) rfl
theorem wd_1340 : Cond.code ⟨"LifeNoesModel", "had", "(I)I"⟩ prog_14_method_54_code 2 (some .int) ∈ gT := gin_6 (List.mem_of_getElem? (i := 140) rfl) rfl
theorem wd_1341 : Cond.constant "LifeNoesModel" 290 100000 ∈ gT := gin_6 (List.mem_of_getElem? (i := 141) rfl) rfl
theorem wd_1342 : Cond.methodLink "LifeNoesLaw" 100 ⟨"LifeNoesModel", "seed", "(I)I"⟩ ∈ gT := gin_6 (List.mem_of_getElem? (i := 142) rfl) rfl
theorem wd_1343 : Cond.instanceMethod ⟨"LifeNoesModel", "seed", "(I)I"⟩ ∈ gT := gin_6 (List.mem_of_getElem? (i := 143) rfl) rfl
theorem wd_1344 : Cond.selects "LifeNoesModel" ⟨"LifeNoesModel", "seed", "(I)I"⟩ ⟨"LifeNoesModel", "seed", "(I)I"⟩ ∈ gT := gin_6 (List.mem_of_getElem? (i := 144) rfl) rfl
theorem wd_1345 : Cond.code ⟨"LifeNoesModel", "seed", "(I)I"⟩ prog_14_method_55_code 3 (some .int) ∈ gT := gin_6 (List.mem_of_getElem? (i := 145) rfl) rfl
theorem wd_1346 : Cond.methodLink "LifeNoesLaw" 105 ⟨"LifeNoesModel", "value", "(III)J"⟩ ∈ gT := gin_6 (List.mem_of_getElem? (i := 146) rfl) rfl
theorem wd_1347 : Cond.instanceMethod ⟨"LifeNoesModel", "value", "(III)J"⟩ ∈ gT := gin_6 (List.mem_of_getElem? (i := 147) rfl) rfl
theorem wd_1348 : Cond.selects "LifeNoesModel" ⟨"LifeNoesModel", "value", "(III)J"⟩ ⟨"LifeNoesModel", "value", "(III)J"⟩ ∈ gT := gin_6 (List.mem_of_getElem? (i := 148) rfl) rfl
theorem wd_1349 : Cond.code ⟨"LifeNoesModel", "value", "(III)J"⟩ prog_14_method_62_code 4 (some .long) ∈ gT := gin_6 (List.mem_of_getElem? (i := 149) rfl) rfl
theorem wd_1350 : Cond.methodLink "LifeNoesModel" 316 ⟨"LifeNoesModel", "isSide", "(I)Z"⟩ ∈ gT := gin_6 (List.mem_of_getElem? (i := 150) rfl) rfl
theorem wd_1351 : Cond.static ⟨"LifeNoesModel", "isSide", "(I)Z"⟩ ∈ gT := gin_6 (List.mem_of_getElem? (i := 151) rfl) rfl
theorem wd_1352 : Cond.code ⟨"LifeNoesModel", "isSide", "(I)Z"⟩ prog_14_method_5_code 1 (some .boolean) ∈ gT := gin_6 (List.mem_of_getElem? (i := 152) rfl) rfl
theorem wd_1353 : Cond.methodLink "LifeNoesModel" 319 ⟨"LifeNoesModel", "valueSide", "(III)J"⟩ ∈ gT := gin_6 (List.mem_of_getElem? (i := 153) rfl) rfl
theorem wd_1355 : Cond.instanceMethod ⟨"LifeNoesModel", "valueSide", "(III)J"⟩ ∈ gT := gin_6 (List.mem_of_getElem? (i := 155) rfl) rfl
theorem wd_1356 : Cond.code ⟨"LifeNoesModel", "valueSide", "(III)J"⟩ prog_14_method_61_code 5 (some .long) ∈ gT := gin_6 (List.mem_of_getElem? (i := 156) rfl) rfl
theorem wd_1357 : Cond.methodLink "LifeNoesModel" 304 ⟨"LifeNoesModel", "valueOf", "(II)J"⟩ ∈ gT := gin_6 (List.mem_of_getElem? (i := 157) rfl) rfl
theorem wd_1359 : Cond.instanceMethod ⟨"LifeNoesModel", "valueOf", "(II)J"⟩ ∈ gT := gin_6 (List.mem_of_getElem? (i := 159) rfl) rfl
theorem wd_1360 : Cond.code ⟨"LifeNoesModel", "valueOf", "(II)J"⟩ prog_14_method_60_code 14 (some .long) ∈ gT := gin_6 (List.mem_of_getElem? (i := 160) rfl) rfl
theorem wd_1361 : Cond.methodLink "LifeNoesModel" 300 ⟨"LifeNoesModel", "brings", "(IZI)I"⟩ ∈ gT := gin_6 (List.mem_of_getElem? (i := 161) rfl) rfl
theorem wd_1363 : Cond.instanceMethod ⟨"LifeNoesModel", "brings", "(IZI)I"⟩ ∈ gT := gin_6 (List.mem_of_getElem? (i := 163) rfl) rfl
theorem wd_1364 : Cond.code ⟨"LifeNoesModel", "brings", "(IZI)I"⟩ prog_14_method_59_code 6 (some .int) ∈ gT := gin_6 (List.mem_of_getElem? (i := 164) rfl) rfl
theorem wd_1365 : Cond.methodLink "LifeNoesModel" 297 ⟨"LifeNoesModel", "spoiledIn", "(I)I"⟩ ∈ gT := gin_6 (List.mem_of_getElem? (i := 165) rfl) rfl
theorem wd_1367 : Cond.instanceMethod ⟨"LifeNoesModel", "spoiledIn", "(I)I"⟩ ∈ gT := gin_6 (List.mem_of_getElem? (i := 167) rfl) rfl
theorem wd_1368 : Cond.code ⟨"LifeNoesModel", "spoiledIn", "(I)I"⟩ prog_14_method_58_code 4 (some .int) ∈ gT := gin_6 (List.mem_of_getElem? (i := 168) rfl) rfl
theorem wd_1369 : Cond.methodLink "LifeNoesModel" 308 ⟨"LifeNoesModel", "power", "(JI)J"⟩ ∈ gT := gin_6 (List.mem_of_getElem? (i := 169) rfl) rfl
theorem wd_1370 : Cond.static ⟨"LifeNoesModel", "power", "(JI)J"⟩ ∈ gT := gin_6 (List.mem_of_getElem? (i := 170) rfl) rfl
theorem wd_1371 : Cond.code ⟨"LifeNoesModel", "power", "(JI)J"⟩ prog_14_method_57_code 6 (some .long) ∈ gT := gin_6 (List.mem_of_getElem? (i := 171) rfl) rfl
theorem wd_1372 : Cond.methodLink "LifeNoesModel" 312 ⟨"LifeNoesModel", "lowest", "(JJ)V"⟩ ∈ gT := gin_6 (List.mem_of_getElem? (i := 172) rfl) rfl
theorem wd_1374 : Cond.instanceMethod ⟨"LifeNoesModel", "lowest", "(JJ)V"⟩ ∈ gT := gin_6 (List.mem_of_getElem? (i := 174) rfl) rfl
theorem wd_1375 : Cond.code ⟨"LifeNoesModel", "lowest", "(JJ)V"⟩ prog_14_method_56_code 11 none ∈ gT := gin_6 (List.mem_of_getElem? (i := 175) rfl) rfl
theorem wd_1376 : Cond.constantLong "LifeNoesModel" 323 (-1000000000000) ∈ gT := gin_6 (List.mem_of_getElem? (i := 176) rfl) rfl
theorem wd_1377 : Cond.methodLink "LifeNoesLaw" 130 ⟨"LifeNoesModel", "spoilt", "(II)J"⟩ ∈ gT := gin_6 (List.mem_of_getElem? (i := 177) rfl) rfl
theorem wd_1378 : Cond.instanceMethod ⟨"LifeNoesModel", "spoilt", "(II)J"⟩ ∈ gT := gin_6 (List.mem_of_getElem? (i := 178) rfl) rfl
theorem wd_1379 : Cond.selects "LifeNoesModel" ⟨"LifeNoesModel", "spoilt", "(II)J"⟩ ⟨"LifeNoesModel", "spoilt", "(II)J"⟩ ∈ gT := gin_6 (List.mem_of_getElem? (i := 179) rfl) rfl
theorem wd_1380 : Cond.code ⟨"LifeNoesModel", "spoilt", "(II)J"⟩ prog_14_method_63_code 3 (some .long) ∈ gT := gin_6 (List.mem_of_getElem? (i := 180) rfl) rfl
theorem wd_1381 : Cond.methodLink "LifeNoesLaw" 109 ⟨"LifeNoesModel", "best", "(III)J"⟩ ∈ gT := gin_6 (List.mem_of_getElem? (i := 181) rfl) rfl
theorem wd_1382 : Cond.instanceMethod ⟨"LifeNoesModel", "best", "(III)J"⟩ ∈ gT := gin_6 (List.mem_of_getElem? (i := 182) rfl) rfl
theorem wd_1383 : Cond.selects "LifeNoesModel" ⟨"LifeNoesModel", "best", "(III)J"⟩ ⟨"LifeNoesModel", "best", "(III)J"⟩ ∈ gT := gin_6 (List.mem_of_getElem? (i := 183) rfl) rfl
theorem wd_1384 : Cond.code ⟨"LifeNoesModel", "best", "(III)J"⟩ prog_14_method_69_code 5 (some .long) ∈ gT := gin_6 (List.mem_of_getElem? (i := 184) rfl) rfl
theorem wd_1385 : Cond.methodLink "LifeNoesModel" 338 ⟨"LifeNoesModel", "bestBy", "(IIII)J"⟩ ∈ gT := gin_6 (List.mem_of_getElem? (i := 185) rfl) rfl
theorem wd_1387 : Cond.instanceMethod ⟨"LifeNoesModel", "bestBy", "(IIII)J"⟩ ∈ gT := gin_6 (List.mem_of_getElem? (i := 187) rfl) rfl
theorem wd_1388 : Cond.code ⟨"LifeNoesModel", "bestBy", "(IIII)J"⟩ prog_14_method_68_code 5 (some .long) ∈ gT := gin_6 (List.mem_of_getElem? (i := 188) rfl) rfl
theorem wd_1389 : Cond.methodLink "LifeNoesModel" 329 ⟨"LifeNoesModel", "bestOne", "(II)J"⟩ ∈ gT := gin_6 (List.mem_of_getElem? (i := 189) rfl) rfl
theorem wd_1391 : Cond.instanceMethod ⟨"LifeNoesModel", "bestOne", "(II)J"⟩ ∈ gT := gin_6 (List.mem_of_getElem? (i := 191) rfl) rfl
theorem wd_1392 : Cond.code ⟨"LifeNoesModel", "bestOne", "(II)J"⟩ prog_14_method_65_code 10 (some .long) ∈ gT := gin_6 (List.mem_of_getElem? (i := 192) rfl) rfl
theorem wd_1393 : Cond.methodLink "LifeNoesModel" 325 ⟨"LifeNoesModel", "hasNow", "(IIII)J"⟩ ∈ gT := gin_6 (List.mem_of_getElem? (i := 193) rfl) rfl
theorem wd_1395 : Cond.instanceMethod ⟨"LifeNoesModel", "hasNow", "(IIII)J"⟩ ∈ gT := gin_6 (List.mem_of_getElem? (i := 195) rfl) rfl
theorem wd_1396 : Cond.code ⟨"LifeNoesModel", "hasNow", "(IIII)J"⟩ prog_14_method_64_code 6 (some .long) ∈ gT := gin_6 (List.mem_of_getElem? (i := 196) rfl) rfl
theorem wd_1397 : Cond.methodLink "LifeNoesModel" 332 ⟨"LifeNoesModel", "bestTwo", "(III)J"⟩ ∈ gT := gin_6 (List.mem_of_getElem? (i := 197) rfl) rfl
theorem wd_1399 : Cond.instanceMethod ⟨"LifeNoesModel", "bestTwo", "(III)J"⟩ ∈ gT := gin_6 (List.mem_of_getElem? (i := 199) rfl) rfl
theorem wd_1400 : Cond.code ⟨"LifeNoesModel", "bestTwo", "(III)J"⟩ prog_14_method_66_code 11 (some .long) ∈ gT := gin_6 (List.mem_of_getElem? (i := 200) rfl) rfl
theorem wd_1401 : Cond.methodLink "LifeNoesModel" 335 ⟨"LifeNoesModel", "bestThree", "(III)J"⟩ ∈ gT := gin_6 (List.mem_of_getElem? (i := 201) rfl) rfl
theorem wd_1403 : Cond.instanceMethod ⟨"LifeNoesModel", "bestThree", "(III)J"⟩ ∈ gT := gin_6 (List.mem_of_getElem? (i := 203) rfl) rfl
theorem wd_1404 : Cond.code ⟨"LifeNoesModel", "bestThree", "(III)J"⟩ prog_14_method_67_code 11 (some .long) ∈ gT := gin_6 (List.mem_of_getElem? (i := 204) rfl) rfl
theorem wd_1405 : Cond.methodLink "LifeNoesLaw" 113 ⟨"LifeNoesModel", "should", "(III)I"⟩ ∈ gT := gin_6 (List.mem_of_getElem? (i := 205) rfl) rfl
theorem wd_1406 : Cond.instanceMethod ⟨"LifeNoesModel", "should", "(III)I"⟩ ∈ gT := gin_6 (List.mem_of_getElem? (i := 206) rfl) rfl
theorem wd_1407 : Cond.selects "LifeNoesModel" ⟨"LifeNoesModel", "should", "(III)I"⟩ ⟨"LifeNoesModel", "should", "(III)I"⟩ ∈ gT := gin_6 (List.mem_of_getElem? (i := 207) rfl) rfl
theorem wd_1408 : Cond.code ⟨"LifeNoesModel", "should", "(III)I"⟩ prog_14_method_70_code 11 (some .int) ∈ gT := gin_6 (List.mem_of_getElem? (i := 208) rfl) rfl
theorem wd_1409 : Cond.methodLink "LifeNoesLaw" 117 ⟨"LifeNoesModel", "barOf", "(II)I"⟩ ∈ gT := gin_6 (List.mem_of_getElem? (i := 209) rfl) rfl
theorem wd_1410 : Cond.instanceMethod ⟨"LifeNoesModel", "barOf", "(II)I"⟩ ∈ gT := gin_6 (List.mem_of_getElem? (i := 210) rfl) rfl
theorem wd_1411 : Cond.selects "LifeNoesModel" ⟨"LifeNoesModel", "barOf", "(II)I"⟩ ⟨"LifeNoesModel", "barOf", "(II)I"⟩ ∈ gT := gin_6 (List.mem_of_getElem? (i := 211) rfl) rfl
theorem wd_1412 : Cond.code ⟨"LifeNoesModel", "barOf", "(II)I"⟩ prog_14_method_71_code 11 (some .int) ∈ gT := gin_6 (List.mem_of_getElem? (i := 212) rfl) rfl
theorem wd_1413 : Cond.methodLink "LifeNoesLaw" 121 ⟨"LifeNoesModel", "lets", "(II)I"⟩ ∈ gT := gin_6 (List.mem_of_getElem? (i := 213) rfl) rfl
theorem wd_1414 : Cond.instanceMethod ⟨"LifeNoesModel", "lets", "(II)I"⟩ ∈ gT := gin_6 (List.mem_of_getElem? (i := 214) rfl) rfl
theorem wd_1415 : Cond.selects "LifeNoesModel" ⟨"LifeNoesModel", "lets", "(II)I"⟩ ⟨"LifeNoesModel", "lets", "(II)I"⟩ ∈ gT := gin_6 (List.mem_of_getElem? (i := 215) rfl) rfl
theorem wd_1416 : Cond.code ⟨"LifeNoesModel", "lets", "(II)I"⟩ prog_14_method_73_code 6 (some .int) ∈ gT := gin_6 (List.mem_of_getElem? (i := 216) rfl) rfl
theorem wd_1417 : Cond.methodLink "LifeNoesModel" 341 ⟨"LifeNoesModel", "passes", "(III)Z"⟩ ∈ gT := gin_6 (List.mem_of_getElem? (i := 217) rfl) rfl
theorem wd_1419 : Cond.instanceMethod ⟨"LifeNoesModel", "passes", "(III)Z"⟩ ∈ gT := gin_6 (List.mem_of_getElem? (i := 219) rfl) rfl
theorem wd_1420 : Cond.code ⟨"LifeNoesModel", "passes", "(III)Z"⟩ prog_14_method_72_code 8 (some .boolean) ∈ gT := gin_6 (List.mem_of_getElem? (i := 220) rfl) rfl
theorem wd_1421 : Cond.methodLink "LifeNoesModel" 344 ⟨"LifeNoesModel", "digitsOf", "(II)I"⟩ ∈ gT := gin_6 (List.mem_of_getElem? (i := 221) rfl) rfl
theorem wd_1423 : Cond.instanceMethod ⟨"LifeNoesModel", "digitsOf", "(II)I"⟩ ∈ gT := gin_6 (List.mem_of_getElem? (i := 223) rfl) rfl
theorem wd_1424 : Cond.code ⟨"LifeNoesModel", "digitsOf", "(II)I"⟩ prog_14_method_74_code 6 (some .int) ∈ gT := gin_6 (List.mem_of_getElem? (i := 224) rfl) rfl
theorem wd_1425 : Cond.methodLink "LifeNoesLaw" 125 ⟨"LifeNoesModel", "harm", "(I)I"⟩ ∈ gT := gin_6 (List.mem_of_getElem? (i := 225) rfl) rfl
theorem wd_1426 : Cond.instanceMethod ⟨"LifeNoesModel", "harm", "(I)I"⟩ ∈ gT := gin_6 (List.mem_of_getElem? (i := 226) rfl) rfl
theorem wd_1427 : Cond.selects "LifeNoesModel" ⟨"LifeNoesModel", "harm", "(I)I"⟩ ⟨"LifeNoesModel", "harm", "(I)I"⟩ ∈ gT := gin_6 (List.mem_of_getElem? (i := 227) rfl) rfl
theorem wd_1428 : Cond.code ⟨"LifeNoesModel", "harm", "(I)I"⟩ prog_14_method_75_code 11 (some .int) ∈ gT := gin_6 (List.mem_of_getElem? (i := 228) rfl) rfl
theorem wd_1429 : Cond.methodLink "LifeNoesLaw" 134 ⟨"LifeNoesModel", "prove", "(I)I"⟩ ∈ gT := gin_6 (List.mem_of_getElem? (i := 229) rfl) rfl
theorem wd_1430 : Cond.instanceMethod ⟨"LifeNoesModel", "prove", "(I)I"⟩ ∈ gT := gin_6 (List.mem_of_getElem? (i := 230) rfl) rfl
theorem wd_1431 : Cond.selects "LifeNoesModel" ⟨"LifeNoesModel", "prove", "(I)I"⟩ ⟨"LifeNoesModel", "prove", "(I)I"⟩ ∈ gT := gin_6 (List.mem_of_getElem? (i := 231) rfl) rfl
theorem wd_1432 : Cond.code ⟨"LifeNoesModel", "prove", "(I)I"⟩ prog_14_method_77_code 4 (some .int) ∈ gT := gin_6 (List.mem_of_getElem? (i := 232) rfl) rfl
theorem wd_1433 : Cond.methodLink "LifeNoesModel" 347 ⟨"LifeNoesModel", "findRows", "(II)V"⟩ ∈ gT := gin_6 (List.mem_of_getElem? (i := 233) rfl) rfl
theorem wd_1435 : Cond.instanceMethod ⟨"LifeNoesModel", "findRows", "(II)V"⟩ ∈ gT := gin_6 (List.mem_of_getElem? (i := 235) rfl) rfl
theorem wd_1436 : Cond.code ⟨"LifeNoesModel", "findRows", "(II)V"⟩ prog_14_method_76_code 7 none ∈ gT := gin_6 (List.mem_of_getElem? (i := 236) rfl) rfl
theorem wd_1437 : Cond.methodLink "LifeNoesLaw" 138 ⟨"LifeNoesModel", "row", "(II)I"⟩ ∈ gT := gin_6 (List.mem_of_getElem? (i := 237) rfl) rfl
theorem wd_1438 : Cond.instanceMethod ⟨"LifeNoesModel", "row", "(II)I"⟩ ∈ gT := gin_6 (List.mem_of_getElem? (i := 238) rfl) rfl
theorem wd_1439 : Cond.selects "LifeNoesModel" ⟨"LifeNoesModel", "row", "(II)I"⟩ ⟨"LifeNoesModel", "row", "(II)I"⟩ ∈ gT := gin_6 (List.mem_of_getElem? (i := 239) rfl) rfl
theorem wd_1440 : Cond.code ⟨"LifeNoesModel", "row", "(II)I"⟩ prog_14_method_79_code 3 (some .int) ∈ gT := gin_7 (List.mem_of_getElem? (i := 0) rfl) rfl
theorem wd_1441 : Cond.methodLink "LifeNoesModel" 351 ⟨"LifeNoesModel", "isRow", "(II)Z"⟩ ∈ gT := gin_7 (List.mem_of_getElem? (i := 1) rfl) rfl
theorem wd_1443 : Cond.instanceMethod ⟨"LifeNoesModel", "isRow", "(II)Z"⟩ ∈ gT := gin_7 (List.mem_of_getElem? (i := 3) rfl) rfl
theorem wd_1444 : Cond.code ⟨"LifeNoesModel", "isRow", "(II)Z"⟩ prog_14_method_78_code 3 (some .boolean) ∈ gT := gin_7 (List.mem_of_getElem? (i := 4) rfl) rfl
theorem wd_1445 : Cond.methodLink "LifeNoesLaw" 142 ⟨"LifeNoesModel", "alterRow", "(III)I"⟩ ∈ gT := gin_7 (List.mem_of_getElem? (i := 5) rfl) rfl
theorem wd_1446 : Cond.instanceMethod ⟨"LifeNoesModel", "alterRow", "(III)I"⟩ ∈ gT := gin_7 (List.mem_of_getElem? (i := 6) rfl) rfl
theorem wd_1447 : Cond.selects "LifeNoesModel" ⟨"LifeNoesModel", "alterRow", "(III)I"⟩ ⟨"LifeNoesModel", "alterRow", "(III)I"⟩ ∈ gT := gin_7 (List.mem_of_getElem? (i := 7) rfl) rfl
theorem wd_1448 : Cond.code ⟨"LifeNoesModel", "alterRow", "(III)I"⟩ prog_14_method_80_code 5 (some .int) ∈ gT := gin_7 (List.mem_of_getElem? (i := 8) rfl) rfl
theorem wd_1449 : Cond.methodLink "LifeNoesLaw" 146 ⟨"LifeNoesModel", "judge", "()I"⟩ ∈ gT := gin_7 (List.mem_of_getElem? (i := 9) rfl) rfl
theorem wd_1450 : Cond.instanceMethod ⟨"LifeNoesModel", "judge", "()I"⟩ ∈ gT := gin_7 (List.mem_of_getElem? (i := 10) rfl) rfl
theorem wd_1451 : Cond.selects "LifeNoesModel" ⟨"LifeNoesModel", "judge", "()I"⟩ ⟨"LifeNoesModel", "judge", "()I"⟩ ∈ gT := gin_7 (List.mem_of_getElem? (i := 11) rfl) rfl
theorem wd_1452 : Cond.code ⟨"LifeNoesModel", "judge", "()I"⟩ prog_14_method_81_code 3 (some .int) ∈ gT := gin_7 (List.mem_of_getElem? (i := 12) rfl) rfl
theorem wd_1453 : Cond.methodLink "LifeNoesLaw" 150 ⟨"LifeNoesModel", "worths", "(II)I"⟩ ∈ gT := gin_7 (List.mem_of_getElem? (i := 13) rfl) rfl
theorem wd_1454 : Cond.instanceMethod ⟨"LifeNoesModel", "worths", "(II)I"⟩ ∈ gT := gin_7 (List.mem_of_getElem? (i := 14) rfl) rfl
theorem wd_1455 : Cond.selects "LifeNoesModel" ⟨"LifeNoesModel", "worths", "(II)I"⟩ ⟨"LifeNoesModel", "worths", "(II)I"⟩ ∈ gT := gin_7 (List.mem_of_getElem? (i := 15) rfl) rfl
theorem wd_1456 : Cond.code ⟨"LifeNoesModel", "worths", "(II)I"⟩ prog_14_method_82_code 8 (some .int) ∈ gT := gin_7 (List.mem_of_getElem? (i := 16) rfl) rfl
theorem wd_1457 : Cond.methodLink "LifeNoesModel" 354 ⟨"LifeNoesModel", "isShelf", "(I)Z"⟩ ∈ gT := gin_7 (List.mem_of_getElem? (i := 17) rfl) rfl
theorem wd_1458 : Cond.static ⟨"LifeNoesModel", "isShelf", "(I)Z"⟩ ∈ gT := gin_7 (List.mem_of_getElem? (i := 18) rfl) rfl
theorem wd_1459 : Cond.code ⟨"LifeNoesModel", "isShelf", "(I)Z"⟩ prog_14_method_83_code 1 (some .boolean) ∈ gT := gin_7 (List.mem_of_getElem? (i := 19) rfl) rfl
theorem wd_1460 : Cond.methodLink "LifeNoesModel" 357 ⟨"LifeNoesModel", "lacksSort", "(II)I"⟩ ∈ gT := gin_7 (List.mem_of_getElem? (i := 20) rfl) rfl
theorem wd_1462 : Cond.instanceMethod ⟨"LifeNoesModel", "lacksSort", "(II)I"⟩ ∈ gT := gin_7 (List.mem_of_getElem? (i := 22) rfl) rfl
theorem wd_1463 : Cond.code ⟨"LifeNoesModel", "lacksSort", "(II)I"⟩ prog_14_method_86_code 3 (some .int) ∈ gT := gin_7 (List.mem_of_getElem? (i := 23) rfl) rfl
theorem wd_1464 : Cond.constantLong "LifeNoesModel" 360 (-9) ∈ gT := gin_7 (List.mem_of_getElem? (i := 24) rfl) rfl
theorem wd_1465 : Cond.constantLong "LifeNoesModel" 362 9 ∈ gT := gin_7 (List.mem_of_getElem? (i := 25) rfl) rfl
theorem wd_1466 : Cond.methodLink "LifeNoesLaw" 154 ⟨"LifeNoesModel", "sheet", "(III)I"⟩ ∈ gT := gin_7 (List.mem_of_getElem? (i := 26) rfl) rfl
theorem wd_1467 : Cond.instanceMethod ⟨"LifeNoesModel", "sheet", "(III)I"⟩ ∈ gT := gin_7 (List.mem_of_getElem? (i := 27) rfl) rfl
theorem wd_1468 : Cond.selects "LifeNoesModel" ⟨"LifeNoesModel", "sheet", "(III)I"⟩ ⟨"LifeNoesModel", "sheet", "(III)I"⟩ ∈ gT := gin_7 (List.mem_of_getElem? (i := 28) rfl) rfl
theorem wd_1469 : Cond.code ⟨"LifeNoesModel", "sheet", "(III)I"⟩ prog_14_method_84_code 5 (some .int) ∈ gT := gin_7 (List.mem_of_getElem? (i := 29) rfl) rfl
theorem wd_1470 : Cond.methodLink "LifeNoesLaw" 158 ⟨"LifeNoesModel", "put", "(III)I"⟩ ∈ gT := gin_7 (List.mem_of_getElem? (i := 30) rfl) rfl
theorem wd_1471 : Cond.instanceMethod ⟨"LifeNoesModel", "put", "(III)I"⟩ ∈ gT := gin_7 (List.mem_of_getElem? (i := 31) rfl) rfl
theorem wd_1472 : Cond.selects "LifeNoesModel" ⟨"LifeNoesModel", "put", "(III)I"⟩ ⟨"LifeNoesModel", "put", "(III)I"⟩ ∈ gT := gin_7 (List.mem_of_getElem? (i := 32) rfl) rfl
theorem wd_1473 : Cond.code ⟨"LifeNoesModel", "put", "(III)I"⟩ prog_14_method_85_code 4 (some .int) ∈ gT := gin_7 (List.mem_of_getElem? (i := 33) rfl) rfl
theorem wd_1474 : Cond.methodLink "LifeNoesLaw" 162 ⟨"LifeNoesModel", "item", "(III)I"⟩ ∈ gT := gin_7 (List.mem_of_getElem? (i := 34) rfl) rfl
theorem wd_1475 : Cond.instanceMethod ⟨"LifeNoesModel", "item", "(III)I"⟩ ∈ gT := gin_7 (List.mem_of_getElem? (i := 35) rfl) rfl
theorem wd_1476 : Cond.selects "LifeNoesModel" ⟨"LifeNoesModel", "item", "(III)I"⟩ ⟨"LifeNoesModel", "item", "(III)I"⟩ ∈ gT := gin_7 (List.mem_of_getElem? (i := 36) rfl) rfl
theorem wd_1477 : Cond.code ⟨"LifeNoesModel", "item", "(III)I"⟩ prog_14_method_87_code 5 (some .int) ∈ gT := gin_7 (List.mem_of_getElem? (i := 37) rfl) rfl
theorem wd_1478 : Cond.methodLink "LifeNoesLaw" 166 ⟨"LifeNoesModel", "shelf", "(III)I"⟩ ∈ gT := gin_7 (List.mem_of_getElem? (i := 38) rfl) rfl
theorem wd_1479 : Cond.instanceMethod ⟨"LifeNoesModel", "shelf", "(III)I"⟩ ∈ gT := gin_7 (List.mem_of_getElem? (i := 39) rfl) rfl
theorem wd_1480 : Cond.selects "LifeNoesModel" ⟨"LifeNoesModel", "shelf", "(III)I"⟩ ⟨"LifeNoesModel", "shelf", "(III)I"⟩ ∈ gT := gin_7 (List.mem_of_getElem? (i := 40) rfl) rfl
theorem wd_1481 : Cond.code ⟨"LifeNoesModel", "shelf", "(III)I"⟩ prog_14_method_89_code 4 (some .int) ∈ gT := gin_7 (List.mem_of_getElem? (i := 41) rfl) rfl
theorem wd_1482 : Cond.methodLink "LifeNoesModel" 364 ⟨"LifeNoesModel", "isHeld", "(II)Z"⟩ ∈ gT := gin_7 (List.mem_of_getElem? (i := 42) rfl) rfl
theorem wd_1484 : Cond.instanceMethod ⟨"LifeNoesModel", "isHeld", "(II)Z"⟩ ∈ gT := gin_7 (List.mem_of_getElem? (i := 44) rfl) rfl
theorem wd_1485 : Cond.code ⟨"LifeNoesModel", "isHeld", "(II)Z"⟩ prog_14_method_88_code 3 (some .boolean) ∈ gT := gin_7 (List.mem_of_getElem? (i := 45) rfl) rfl
theorem wd_1486 : Cond.methodLink "LifeNoesLaw" 170 ⟨"LifeNoesModel", "taken", "(II)I"⟩ ∈ gT := gin_7 (List.mem_of_getElem? (i := 46) rfl) rfl
theorem wd_1487 : Cond.instanceMethod ⟨"LifeNoesModel", "taken", "(II)I"⟩ ∈ gT := gin_7 (List.mem_of_getElem? (i := 47) rfl) rfl
theorem wd_1488 : Cond.selects "LifeNoesModel" ⟨"LifeNoesModel", "taken", "(II)I"⟩ ⟨"LifeNoesModel", "taken", "(II)I"⟩ ∈ gT := gin_7 (List.mem_of_getElem? (i := 48) rfl) rfl
theorem wd_1489 : Cond.code ⟨"LifeNoesModel", "taken", "(II)I"⟩ prog_14_method_92_code 4 (some .int) ∈ gT := gin_7 (List.mem_of_getElem? (i := 49) rfl) rfl
theorem wd_1490 : Cond.methodLink "LifeNoesModel" 367 ⟨"LifeNoesModel", "kindOn", "(I)I"⟩ ∈ gT := gin_7 (List.mem_of_getElem? (i := 50) rfl) rfl
theorem wd_1492 : Cond.instanceMethod ⟨"LifeNoesModel", "kindOn", "(I)I"⟩ ∈ gT := gin_7 (List.mem_of_getElem? (i := 52) rfl) rfl
theorem wd_1493 : Cond.code ⟨"LifeNoesModel", "kindOn", "(I)I"⟩ prog_14_method_90_code 2 (some .int) ∈ gT := gin_7 (List.mem_of_getElem? (i := 53) rfl) rfl
theorem wd_1494 : Cond.methodLink "LifeNoesModel" 370 ⟨"LifeNoesModel", "isUnder", "(II)Z"⟩ ∈ gT := gin_7 (List.mem_of_getElem? (i := 54) rfl) rfl
theorem wd_1495 : Cond.static ⟨"LifeNoesModel", "isUnder", "(II)Z"⟩ ∈ gT := gin_7 (List.mem_of_getElem? (i := 55) rfl) rfl
theorem wd_1496 : Cond.code ⟨"LifeNoesModel", "isUnder", "(II)Z"⟩ prog_14_method_91_code 2 (some .boolean) ∈ gT := gin_7 (List.mem_of_getElem? (i := 56) rfl) rfl
theorem wd_1497 : Cond.methodLink "LifeNoesLaw" 174 ⟨"LifeNoesModel", "act", "(III)I"⟩ ∈ gT := gin_7 (List.mem_of_getElem? (i := 57) rfl) rfl
theorem wd_1498 : Cond.instanceMethod ⟨"LifeNoesModel", "act", "(III)I"⟩ ∈ gT := gin_7 (List.mem_of_getElem? (i := 58) rfl) rfl
theorem wd_1499 : Cond.selects "LifeNoesModel" ⟨"LifeNoesModel", "act", "(III)I"⟩ ⟨"LifeNoesModel", "act", "(III)I"⟩ ∈ gT := gin_7 (List.mem_of_getElem? (i := 59) rfl) rfl
theorem wd_1500 : Cond.code ⟨"LifeNoesModel", "act", "(III)I"⟩ prog_14_method_103_code 6 (some .int) ∈ gT := gin_7 (List.mem_of_getElem? (i := 60) rfl) rfl
theorem wd_1501 : Cond.methodLink "LifeNoesModel" 391 ⟨"LifeNoesModel", "barsIt", "(I)I"⟩ ∈ gT := gin_7 (List.mem_of_getElem? (i := 61) rfl) rfl
theorem wd_1503 : Cond.instanceMethod ⟨"LifeNoesModel", "barsIt", "(I)I"⟩ ∈ gT := gin_7 (List.mem_of_getElem? (i := 63) rfl) rfl
theorem wd_1504 : Cond.code ⟨"LifeNoesModel", "barsIt", "(I)I"⟩ prog_14_method_96_code 2 (some .int) ∈ gT := gin_7 (List.mem_of_getElem? (i := 64) rfl) rfl
theorem wd_1505 : Cond.methodLink "LifeNoesModel" 388 ⟨"LifeNoesModel", "barBars", "(I)I"⟩ ∈ gT := gin_7 (List.mem_of_getElem? (i := 65) rfl) rfl
theorem wd_1507 : Cond.instanceMethod ⟨"LifeNoesModel", "barBars", "(I)I"⟩ ∈ gT := gin_7 (List.mem_of_getElem? (i := 67) rfl) rfl
theorem wd_1508 : Cond.code ⟨"LifeNoesModel", "barBars", "(I)I"⟩ prog_14_method_95_code 2 (some .int) ∈ gT := gin_7 (List.mem_of_getElem? (i := 68) rfl) rfl
theorem wd_1509 : Cond.methodLink "LifeNoesModel" 376 ⟨"LifeNoesModel", "ran", "(I)V"⟩ ∈ gT := gin_7 (List.mem_of_getElem? (i := 69) rfl) rfl
theorem wd_1511 : Cond.instanceMethod ⟨"LifeNoesModel", "ran", "(I)V"⟩ ∈ gT := gin_7 (List.mem_of_getElem? (i := 71) rfl) rfl
theorem wd_1512 : Cond.code ⟨"LifeNoesModel", "ran", "(I)V"⟩ prog_14_method_93_code 2 none ∈ gT := gin_7 (List.mem_of_getElem? (i := 72) rfl) rfl
theorem wd_1513 : Cond.methodLink "LifeNoesModel" 382 ⟨"LifeNoesModel", "plainBars", "(I)I"⟩ ∈ gT := gin_7 (List.mem_of_getElem? (i := 73) rfl) rfl
theorem wd_1515 : Cond.instanceMethod ⟨"LifeNoesModel", "plainBars", "(I)I"⟩ ∈ gT := gin_7 (List.mem_of_getElem? (i := 75) rfl) rfl
theorem wd_1516 : Cond.code ⟨"LifeNoesModel", "plainBars", "(I)I"⟩ prog_14_method_94_code 2 (some .int) ∈ gT := gin_7 (List.mem_of_getElem? (i := 76) rfl) rfl
theorem wd_1517 : Cond.methodLink "LifeNoesModel" 406 ⟨"LifeNoesModel", "waitsIt", "(I)I"⟩ ∈ gT := gin_7 (List.mem_of_getElem? (i := 77) rfl) rfl
theorem wd_1519 : Cond.instanceMethod ⟨"LifeNoesModel", "waitsIt", "(I)I"⟩ ∈ gT := gin_7 (List.mem_of_getElem? (i := 79) rfl) rfl
theorem wd_1520 : Cond.code ⟨"LifeNoesModel", "waitsIt", "(I)I"⟩ prog_14_method_98_code 3 (some .int) ∈ gT := gin_7 (List.mem_of_getElem? (i := 80) rfl) rfl
theorem wd_1521 : Cond.methodLink "LifeNoesModel" 394 ⟨"LifeNoesModel", "plainWaits", "(I)I"⟩ ∈ gT := gin_7 (List.mem_of_getElem? (i := 81) rfl) rfl
theorem wd_1523 : Cond.instanceMethod ⟨"LifeNoesModel", "plainWaits", "(I)I"⟩ ∈ gT := gin_7 (List.mem_of_getElem? (i := 83) rfl) rfl
theorem wd_1524 : Cond.code ⟨"LifeNoesModel", "plainWaits", "(I)I"⟩ prog_14_method_97_code 2 (some .int) ∈ gT := gin_7 (List.mem_of_getElem? (i := 84) rfl) rfl
theorem wd_1525 : Cond.methodLink "LifeNoesModel" 412 ⟨"LifeNoesModel", "sharesIt", "(I)I"⟩ ∈ gT := gin_7 (List.mem_of_getElem? (i := 85) rfl) rfl
theorem wd_1527 : Cond.instanceMethod ⟨"LifeNoesModel", "sharesIt", "(I)I"⟩ ∈ gT := gin_7 (List.mem_of_getElem? (i := 87) rfl) rfl
theorem wd_1528 : Cond.code ⟨"LifeNoesModel", "sharesIt", "(I)I"⟩ prog_14_method_100_code 3 (some .int) ∈ gT := gin_7 (List.mem_of_getElem? (i := 88) rfl) rfl
theorem wd_1529 : Cond.methodLink "LifeNoesModel" 403 ⟨"LifeNoesModel", "plainShares", "(I)I"⟩ ∈ gT := gin_7 (List.mem_of_getElem? (i := 89) rfl) rfl
theorem wd_1531 : Cond.instanceMethod ⟨"LifeNoesModel", "plainShares", "(I)I"⟩ ∈ gT := gin_7 (List.mem_of_getElem? (i := 91) rfl) rfl
theorem wd_1532 : Cond.code ⟨"LifeNoesModel", "plainShares", "(I)I"⟩ prog_14_method_99_code 2 (some .int) ∈ gT := gin_7 (List.mem_of_getElem? (i := 92) rfl) rfl
theorem wd_1533 : Cond.methodLink "LifeNoesModel" 415 ⟨"LifeNoesModel", "tellsIt", "(I)I"⟩ ∈ gT := gin_7 (List.mem_of_getElem? (i := 93) rfl) rfl
theorem wd_1535 : Cond.instanceMethod ⟨"LifeNoesModel", "tellsIt", "(I)I"⟩ ∈ gT := gin_7 (List.mem_of_getElem? (i := 95) rfl) rfl
theorem wd_1536 : Cond.code ⟨"LifeNoesModel", "tellsIt", "(I)I"⟩ prog_14_method_102_code 3 (some .int) ∈ gT := gin_7 (List.mem_of_getElem? (i := 96) rfl) rfl
theorem wd_1537 : Cond.methodLink "LifeNoesModel" 409 ⟨"LifeNoesModel", "plainTells", "(I)I"⟩ ∈ gT := gin_7 (List.mem_of_getElem? (i := 97) rfl) rfl
theorem wd_1539 : Cond.instanceMethod ⟨"LifeNoesModel", "plainTells", "(I)I"⟩ ∈ gT := gin_7 (List.mem_of_getElem? (i := 99) rfl) rfl
theorem wd_1540 : Cond.code ⟨"LifeNoesModel", "plainTells", "(I)I"⟩ prog_14_method_101_code 2 (some .int) ∈ gT := gin_7 (List.mem_of_getElem? (i := 100) rfl) rfl
theorem wd_1541 : Cond.methodLink "LifeNoesLaw" 178 ⟨"LifeNoesModel", "trace", "(I)I"⟩ ∈ gT := gin_7 (List.mem_of_getElem? (i := 101) rfl) rfl
theorem wd_1542 : Cond.instanceMethod ⟨"LifeNoesModel", "trace", "(I)I"⟩ ∈ gT := gin_7 (List.mem_of_getElem? (i := 102) rfl) rfl
theorem wd_1543 : Cond.selects "LifeNoesModel" ⟨"LifeNoesModel", "trace", "(I)I"⟩ ⟨"LifeNoesModel", "trace", "(I)I"⟩ ∈ gT := gin_7 (List.mem_of_getElem? (i := 103) rfl) rfl
theorem wd_1544 : Cond.code ⟨"LifeNoesModel", "trace", "(I)I"⟩ prog_14_method_104_code 2 (some .int) ∈ gT := gin_7 (List.mem_of_getElem? (i := 104) rfl) rfl
theorem wd_1545 : Cond.methodLink "LifeNoesLaw" 182 ⟨"LifeNoesModel", "many", "(I)I"⟩ ∈ gT := gin_7 (List.mem_of_getElem? (i := 105) rfl) rfl
theorem wd_1546 : Cond.instanceMethod ⟨"LifeNoesModel", "many", "(I)I"⟩ ∈ gT := gin_7 (List.mem_of_getElem? (i := 106) rfl) rfl
theorem wd_1547 : Cond.selects "LifeNoesModel" ⟨"LifeNoesModel", "many", "(I)I"⟩ ⟨"LifeNoesModel", "many", "(I)I"⟩ ∈ gT := gin_7 (List.mem_of_getElem? (i := 107) rfl) rfl
theorem wd_1548 : Cond.code ⟨"LifeNoesModel", "many", "(I)I"⟩ prog_14_method_105_code 4 (some .int) ∈ gT := gin_7 (List.mem_of_getElem? (i := 108) rfl) rfl
theorem wd_1549 : Cond.methodLink "LifeNoesLaw" 186 ⟨"LifeNoesModel", "keep", "()I"⟩ ∈ gT := gin_7 (List.mem_of_getElem? (i := 109) rfl) rfl
theorem wd_1550 : Cond.instanceMethod ⟨"LifeNoesModel", "keep", "()I"⟩ ∈ gT := gin_7 (List.mem_of_getElem? (i := 110) rfl) rfl
theorem wd_1551 : Cond.selects "LifeNoesModel" ⟨"LifeNoesModel", "keep", "()I"⟩ ⟨"LifeNoesModel", "keep", "()I"⟩ ∈ gT := gin_7 (List.mem_of_getElem? (i := 111) rfl) rfl
theorem wd_1552 : Cond.code ⟨"LifeNoesModel", "keep", "()I"⟩ prog_14_method_108_code 1 (some .int) ∈ gT := gin_7 (List.mem_of_getElem? (i := 112) rfl) rfl
theorem wd_1553 : Cond.methodLink "LifeNoesModel" 425 ⟨"LifeNoesModel", "moveAll", "(Z)V"⟩ ∈ gT := gin_7 (List.mem_of_getElem? (i := 113) rfl) rfl
theorem wd_1555 : Cond.instanceMethod ⟨"LifeNoesModel", "moveAll", "(Z)V"⟩ ∈ gT := gin_7 (List.mem_of_getElem? (i := 115) rfl) rfl
theorem wd_1556 : Cond.code ⟨"LifeNoesModel", "moveAll", "(Z)V"⟩ prog_14_method_107_code 2 none ∈ gT := gin_7 (List.mem_of_getElem? (i := 116) rfl) rfl
theorem wd_1557 : Cond.methodLink "LifeNoesModel" 421 ⟨"LifeNoesModel", "moveRow", "([IIZ)V"⟩ ∈ gT := gin_7 (List.mem_of_getElem? (i := 117) rfl) rfl
theorem wd_1559 : Cond.instanceMethod ⟨"LifeNoesModel", "moveRow", "([IIZ)V"⟩ ∈ gT := gin_7 (List.mem_of_getElem? (i := 119) rfl) rfl
theorem wd_1560 : Cond.code ⟨"LifeNoesModel", "moveRow", "([IIZ)V"⟩ prog_14_method_106_code 5 none ∈ gT := gin_7 (List.mem_of_getElem? (i := 120) rfl) rfl
theorem wd_1561 : Cond.methodLink "LifeNoesLaw" 190 ⟨"LifeNoesModel", "again", "()I"⟩ ∈ gT := gin_7 (List.mem_of_getElem? (i := 121) rfl) rfl
theorem wd_1562 : Cond.instanceMethod ⟨"LifeNoesModel", "again", "()I"⟩ ∈ gT := gin_7 (List.mem_of_getElem? (i := 122) rfl) rfl
theorem wd_1563 : Cond.selects "LifeNoesModel" ⟨"LifeNoesModel", "again", "()I"⟩ ⟨"LifeNoesModel", "again", "()I"⟩ ∈ gT := gin_7 (List.mem_of_getElem? (i := 123) rfl) rfl
theorem wd_1564 : Cond.code ⟨"LifeNoesModel", "again", "()I"⟩ prog_14_method_109_code 1 (some .int) ∈ gT := gin_7 (List.mem_of_getElem? (i := 124) rfl) rfl
theorem wd_1565 : Cond.constantLong "LifeNoesLaw" 13 4294967295 ∈ gT := gin_7 (List.mem_of_getElem? (i := 125) rfl) rfl
theorem wd_1566 : Cond.sameMethod "LifeNoes$Bar" "LifeNoes$Bar" "bars" "(I)I" ∈ gT := gin_7 (List.mem_of_getElem? (i := 126) rfl) rfl
theorem wd_1567 : Cond.selects "LifeNoes$Wait" ⟨"LifeNoes$Wait", "bars", "(I)I"⟩ ⟨"LifeNoes$Wait", "bars", "(I)I"⟩ ∈ gT := gin_7 (List.mem_of_getElem? (i := 127) rfl) rfl
theorem wd_1575 : Cond.fieldLink "java/lang/String" 9 "java/lang/String" "value" "[B" ∈ gT := gin_7 (List.mem_of_getElem? (i := 135) rfl) rfl
theorem wd_1576 : Cond.fieldLink "java/lang/String" 15 "java/lang/String" "coder" "B" ∈ gT := gin_7 (List.mem_of_getElem? (i := 136) rfl) rfl
theorem wd_1577 : Cond.selects "LifeNoes$TextReader" ⟨"LifeNoes$TextReader", "advance", "()V"⟩ ⟨"LifeNoes$TextReader", "advance", "()V"⟩ ∈ gT := gip_1 (List.mem_of_getElem? (i := 0) rfl) rfl
theorem wd_1578 : Cond.selects "LifeNoes$TextReader" ⟨"LifeNoes$TextReader", "takeNumber", "()V"⟩ ⟨"LifeNoes$TextReader", "takeNumber", "()V"⟩ ∈ gT := gip_1 (List.mem_of_getElem? (i := 1) rfl) rfl
theorem wd_1579 : Cond.selects "LifeNoes$TextReader" ⟨"LifeNoes$TextReader", "readStatement", "()Z"⟩ ⟨"LifeNoes$TextReader", "readStatement", "()Z"⟩ ∈ gT := gip_1 (List.mem_of_getElem? (i := 2) rfl) rfl
theorem wd_1580 : Cond.selects "LifeNoes$TextReader" ⟨"LifeNoes$TextReader", "kindNamed", "()I"⟩ ⟨"LifeNoes$TextReader", "kindNamed", "()I"⟩ ∈ gT := gip_1 (List.mem_of_getElem? (i := 3) rfl) rfl
theorem wd_1581 : Cond.selects "LifeNoes$TextReader" ⟨"LifeNoes$TextReader", "isName", "(Ljava/lang/String;)Z"⟩ ⟨"LifeNoes$TextReader", "isName", "(Ljava/lang/String;)Z"⟩ ∈ gT := gip_1 (List.mem_of_getElem? (i := 4) rfl) rfl
theorem wd_1582 : Cond.selects "LifeNoes$TextReader" ⟨"LifeNoes$TextReader", "readPerson", "(I)Z"⟩ ⟨"LifeNoes$TextReader", "readPerson", "(I)Z"⟩ ∈ gT := gip_1 (List.mem_of_getElem? (i := 5) rfl) rfl
theorem wd_1583 : Cond.selects "LifeNoes$TextReader" ⟨"LifeNoes$TextReader", "isNumber", "(II)Z"⟩ ⟨"LifeNoes$TextReader", "isNumber", "(II)Z"⟩ ∈ gT := gip_1 (List.mem_of_getElem? (i := 6) rfl) rfl
theorem wd_1584 : Cond.selects "LifeNoes$TextReader" ⟨"LifeNoes$TextReader", "readEnd", "()Z"⟩ ⟨"LifeNoes$TextReader", "readEnd", "()Z"⟩ ∈ gT := gip_1 (List.mem_of_getElem? (i := 7) rfl) rfl
theorem wd_1585 : Cond.selects "LifeNoes$TextReader" ⟨"LifeNoes$TextReader", "isByte", "(I)Z"⟩ ⟨"LifeNoes$TextReader", "isByte", "(I)Z"⟩ ∈ gT := gip_1 (List.mem_of_getElem? (i := 8) rfl) rfl
theorem wd_1586 : Cond.selects "LifeNoes$TextReader" ⟨"LifeNoes$TextReader", "readProposal", "()Z"⟩ ⟨"LifeNoes$TextReader", "readProposal", "()Z"⟩ ∈ gT := gip_1 (List.mem_of_getElem? (i := 9) rfl) rfl
theorem wd_1587 : Cond.selects "LifeNoes$TextReader" ⟨"LifeNoes$TextReader", "readWorths", "(I)Z"⟩ ⟨"LifeNoes$TextReader", "readWorths", "(I)Z"⟩ ∈ gT := gip_1 (List.mem_of_getElem? (i := 10) rfl) rfl
theorem wd_1588 : Cond.selects "LifeNoes$TextReader" ⟨"LifeNoes$TextReader", "readLaw", "(III)Z"⟩ ⟨"LifeNoes$TextReader", "readLaw", "(III)Z"⟩ ∈ gT := gip_1 (List.mem_of_getElem? (i := 11) rfl) rfl
theorem wd_1589 : Cond.selects "LifeNoes" ⟨"LifeNoes", "isPerson", "(I)Z"⟩ ⟨"LifeNoes", "isPerson", "(I)Z"⟩ ∈ gT := gip_1 (List.mem_of_getElem? (i := 12) rfl) rfl
theorem wd_1590 : Cond.selects "LifeNoes" ⟨"LifeNoes", "isProposal", "(I)Z"⟩ ⟨"LifeNoes", "isProposal", "(I)Z"⟩ ∈ gT := gip_1 (List.mem_of_getElem? (i := 13) rfl) rfl
theorem wd_1591 : Cond.selects "LifeNoes$Village" ⟨"LifeNoes$Village", "calledOfLeague", "(II)I"⟩ ⟨"LifeNoes$Village", "calledOfLeague", "(II)I"⟩ ∈ gT := gip_1 (List.mem_of_getElem? (i := 14) rfl) rfl
theorem wd_1592 : Cond.selects "LifeNoes$Village" ⟨"LifeNoes$Village", "isInLeague", "(II)Z"⟩ ⟨"LifeNoes$Village", "isInLeague", "(II)Z"⟩ ∈ gT := gip_1 (List.mem_of_getElem? (i := 15) rfl) rfl
theorem wd_1593 : Cond.selects "LifeNoes$Village" ⟨"LifeNoes$Village", "dislikes", "(IIII)Z"⟩ ⟨"LifeNoes$Village", "dislikes", "(IIII)Z"⟩ ∈ gT := gip_2 (List.mem_of_getElem? (i := 0) rfl) rfl
theorem wd_1594 : Cond.selects "LifeNoes$Village" ⟨"LifeNoes$Village", "hasWorseOff", "(III)Z"⟩ ⟨"LifeNoes$Village", "hasWorseOff", "(III)Z"⟩ ∈ gT := gip_2 (List.mem_of_getElem? (i := 1) rfl) rfl
theorem wd_1595 : Cond.selects "LifeNoes$Village" ⟨"LifeNoes$Village", "oldestOf", "(I)I"⟩ ⟨"LifeNoes$Village", "oldestOf", "(I)I"⟩ ∈ gT := gip_2 (List.mem_of_getElem? (i := 2) rfl) rfl
theorem wd_1596 : Cond.selects "LifeNoes$Ahead" ⟨"LifeNoes$Ahead", "sumFrom", "(III)J"⟩ ⟨"LifeNoes$Ahead", "sumFrom", "(III)J"⟩ ∈ gT := gip_2 (List.mem_of_getElem? (i := 3) rfl) rfl
theorem wd_1597 : Cond.selects "LifeNoes$Ahead" ⟨"LifeNoes$Ahead", "gain", "(IZ)J"⟩ ⟨"LifeNoes$Ahead", "gain", "(IZ)J"⟩ ∈ gT := gip_2 (List.mem_of_getElem? (i := 4) rfl) rfl
theorem wd_1598 : Cond.selects "LifeNoes$Ahead" ⟨"LifeNoes$Ahead", "isLikedByAllButOne", "(I)Z"⟩ ⟨"LifeNoes$Ahead", "isLikedByAllButOne", "(I)Z"⟩ ∈ gT := gip_2 (List.mem_of_getElem? (i := 5) rfl) rfl
theorem wd_1599 : Cond.selects "LifeNoes$Ahead" ⟨"LifeNoes$Ahead", "bestSumFrom", "(III)J"⟩ ⟨"LifeNoes$Ahead", "bestSumFrom", "(III)J"⟩ ∈ gT := gip_2 (List.mem_of_getElem? (i := 6) rfl) rfl
theorem wd_1600 : Cond.selects "LifeNoes$Ahead" ⟨"LifeNoes$Ahead", "bestOf", "(IIII)J"⟩ ⟨"LifeNoes$Ahead", "bestOf", "(IIII)J"⟩ ∈ gT := gip_2 (List.mem_of_getElem? (i := 7) rfl) rfl
theorem wd_1601 : Cond.selects "LifeNoes$Ahead" ⟨"LifeNoes$Ahead", "ownBit", "()I"⟩ ⟨"LifeNoes$Ahead", "ownBit", "()I"⟩ ∈ gT := gip_2 (List.mem_of_getElem? (i := 8) rfl) rfl
theorem wd_1602 : Cond.selects "LifeNoes$Ahead" ⟨"LifeNoes$Ahead", "withSayers", "(IIIII)J"⟩ ⟨"LifeNoes$Ahead", "withSayers", "(IIIII)J"⟩ ∈ gT := gip_2 (List.mem_of_getElem? (i := 9) rfl) rfl
theorem wd_1603 : Cond.selects "LifeNoes$Ahead" ⟨"LifeNoes$Ahead", "rowFrom", "(IIII)I"⟩ ⟨"LifeNoes$Ahead", "rowFrom", "(IIII)I"⟩ ∈ gT := gip_2 (List.mem_of_getElem? (i := 10) rfl) rfl
theorem wd_1604 : Cond.selects "LifeNoes" ⟨"LifeNoes", "fillRows", "([[II)V"⟩ ⟨"LifeNoes", "fillRows", "([[II)V"⟩ ∈ gT := gip_2 (List.mem_of_getElem? (i := 11) rfl) rfl
theorem wd_1605 : Cond.selects "LifeNoes" ⟨"LifeNoes", "isInRows", "(II)Z"⟩ ⟨"LifeNoes", "isInRows", "(II)Z"⟩ ∈ gT := gip_2 (List.mem_of_getElem? (i := 12) rfl) rfl
theorem wd_1606 : Cond.selects "LifeNoes" ⟨"LifeNoes", "fillShelf", "(IIII)V"⟩ ⟨"LifeNoes", "fillShelf", "(IIII)V"⟩ ∈ gT := gip_2 (List.mem_of_getElem? (i := 13) rfl) rfl
theorem wd_1607 : Cond.selects "LifeNoes" ⟨"LifeNoes", "thingOn", "(I)LLifeNoes$Sayer;"⟩ ⟨"LifeNoes", "thingOn", "(I)LLifeNoes$Sayer;"⟩ ∈ gT := gip_2 (List.mem_of_getElem? (i := 14) rfl) rfl
theorem wd_1608 : Cond.selects "LifeNoesModel" ⟨"LifeNoesModel", "advance", "()V"⟩ ⟨"LifeNoesModel", "advance", "()V"⟩ ∈ gT := gip_2 (List.mem_of_getElem? (i := 15) rfl) rfl
theorem wd_1609 : Cond.selects "LifeNoesModel" ⟨"LifeNoesModel", "byteAt", "(I)I"⟩ ⟨"LifeNoesModel", "byteAt", "(I)I"⟩ ∈ gT := gip_3 (List.mem_of_getElem? (i := 0) rfl) rfl
theorem wd_1610 : Cond.selects "LifeNoesModel" ⟨"LifeNoesModel", "wantClause", "()V"⟩ ⟨"LifeNoesModel", "wantClause", "()V"⟩ ∈ gT := gip_3 (List.mem_of_getElem? (i := 1) rfl) rfl
theorem wd_1611 : Cond.selects "LifeNoesModel" ⟨"LifeNoesModel", "kindHere", "()I"⟩ ⟨"LifeNoesModel", "kindHere", "()I"⟩ ∈ gT := gip_3 (List.mem_of_getElem? (i := 2) rfl) rfl
theorem wd_1612 : Cond.selects "LifeNoesModel" ⟨"LifeNoesModel", "isWord", "(J)Z"⟩ ⟨"LifeNoesModel", "isWord", "(J)Z"⟩ ∈ gT := gip_3 (List.mem_of_getElem? (i := 3) rfl) rfl
theorem wd_1613 : Cond.selects "LifeNoesModel" ⟨"LifeNoesModel", "wantPerson", "(I)V"⟩ ⟨"LifeNoesModel", "wantPerson", "(I)V"⟩ ∈ gT := gip_3 (List.mem_of_getElem? (i := 4) rfl) rfl
theorem wd_1614 : Cond.selects "LifeNoesModel" ⟨"LifeNoesModel", "wantWord", "(J)V"⟩ ⟨"LifeNoesModel", "wantWord", "(J)V"⟩ ∈ gT := gip_3 (List.mem_of_getElem? (i := 5) rfl) rfl
theorem wd_1615 : Cond.selects "LifeNoesModel" ⟨"LifeNoesModel", "wantNumber", "(II)I"⟩ ⟨"LifeNoesModel", "wantNumber", "(II)I"⟩ ∈ gT := gip_3 (List.mem_of_getElem? (i := 6) rfl) rfl
theorem wd_1616 : Cond.selects "LifeNoesModel" ⟨"LifeNoesModel", "mayNumber", "(JII)I"⟩ ⟨"LifeNoesModel", "mayNumber", "(JII)I"⟩ ∈ gT := gip_3 (List.mem_of_getElem? (i := 7) rfl) rfl
theorem wd_1617 : Cond.selects "LifeNoesModel" ⟨"LifeNoesModel", "wantEnd", "()V"⟩ ⟨"LifeNoesModel", "wantEnd", "()V"⟩ ∈ gT := gip_3 (List.mem_of_getElem? (i := 8) rfl) rfl
theorem wd_1618 : Cond.selects "LifeNoesModel" ⟨"LifeNoesModel", "isMark", "(I)Z"⟩ ⟨"LifeNoesModel", "isMark", "(I)Z"⟩ ∈ gT := gip_3 (List.mem_of_getElem? (i := 9) rfl) rfl
theorem wd_1619 : Cond.selects "LifeNoesModel" ⟨"LifeNoesModel", "wantProposal", "()V"⟩ ⟨"LifeNoesModel", "wantProposal", "()V"⟩ ∈ gT := gip_3 (List.mem_of_getElem? (i := 10) rfl) rfl
theorem wd_1620 : Cond.selects "LifeNoesModel" ⟨"LifeNoesModel", "wantWorths", "()V"⟩ ⟨"LifeNoesModel", "wantWorths", "()V"⟩ ∈ gT := gip_3 (List.mem_of_getElem? (i := 11) rfl) rfl
theorem wd_1621 : Cond.selects "LifeNoesModel" ⟨"LifeNoesModel", "wantLaw", "(I)V"⟩ ⟨"LifeNoesModel", "wantLaw", "(I)V"⟩ ∈ gT := gip_3 (List.mem_of_getElem? (i := 12) rfl) rfl
theorem wd_1622 : Cond.selects "LifeNoesModel" ⟨"LifeNoesModel", "isPerson", "(I)Z"⟩ ⟨"LifeNoesModel", "isPerson", "(I)Z"⟩ ∈ gT := gip_3 (List.mem_of_getElem? (i := 13) rfl) rfl
theorem wd_1623 : Cond.selects "LifeNoesModel" ⟨"LifeNoesModel", "isProposal", "(I)Z"⟩ ⟨"LifeNoesModel", "isProposal", "(I)Z"⟩ ∈ gT := gip_3 (List.mem_of_getElem? (i := 14) rfl) rfl
theorem wd_1624 : Cond.selects "LifeNoesModel" ⟨"LifeNoesModel", "worthTo", "(II)I"⟩ ⟨"LifeNoesModel", "worthTo", "(II)I"⟩ ∈ gT := gip_3 (List.mem_of_getElem? (i := 15) rfl) rfl
theorem wd_1625 : Cond.selects "LifeNoesModel" ⟨"LifeNoesModel", "wouldSet", "(II)I"⟩ ⟨"LifeNoesModel", "wouldSet", "(II)I"⟩ ∈ gT := gip_4 (List.mem_of_getElem? (i := 0) rfl) rfl
theorem wd_1626 : Cond.selects "LifeNoesModel" ⟨"LifeNoesModel", "wouldBy", "(III)Z"⟩ ⟨"LifeNoesModel", "wouldBy", "(III)Z"⟩ ∈ gT := gip_4 (List.mem_of_getElem? (i := 1) rfl) rfl
theorem wd_1627 : Cond.selects "LifeNoesModel" ⟨"LifeNoesModel", "isLow", "(III)Z"⟩ ⟨"LifeNoesModel", "isLow", "(III)Z"⟩ ∈ gT := gip_4 (List.mem_of_getElem? (i := 2) rfl) rfl
theorem wd_1628 : Cond.selects "LifeNoesModel" ⟨"LifeNoesModel", "isCalled", "(II)Z"⟩ ⟨"LifeNoesModel", "isCalled", "(II)Z"⟩ ∈ gT := gip_4 (List.mem_of_getElem? (i := 3) rfl) rfl
theorem wd_1629 : Cond.selects "LifeNoesModel" ⟨"LifeNoesModel", "saySet", "(II)I"⟩ ⟨"LifeNoesModel", "saySet", "(II)I"⟩ ∈ gT := gip_4 (List.mem_of_getElem? (i := 4) rfl) rfl
theorem wd_1630 : Cond.selects "LifeNoesModel" ⟨"LifeNoesModel", "comesNow", "(I)I"⟩ ⟨"LifeNoesModel", "comesNow", "(I)I"⟩ ∈ gT := gip_4 (List.mem_of_getElem? (i := 5) rfl) rfl
theorem wd_1631 : Cond.selects "LifeNoesModel" ⟨"LifeNoesModel", "goes", "(III)Z"⟩ ⟨"LifeNoesModel", "goes", "(III)Z"⟩ ∈ gT := gip_4 (List.mem_of_getElem? (i := 6) rfl) rfl
theorem wd_1632 : Cond.selects "LifeNoesModel" ⟨"LifeNoesModel", "weightsInAll", "()I"⟩ ⟨"LifeNoesModel", "weightsInAll", "()I"⟩ ∈ gT := gip_4 (List.mem_of_getElem? (i := 7) rfl) rfl
theorem wd_1633 : Cond.selects "LifeNoesModel" ⟨"LifeNoesModel", "lotOf", "(II)I"⟩ ⟨"LifeNoesModel", "lotOf", "(II)I"⟩ ∈ gT := gip_4 (List.mem_of_getElem? (i := 8) rfl) rfl
theorem wd_1634 : Cond.selects "LifeNoesModel" ⟨"LifeNoesModel", "valueSide", "(III)J"⟩ ⟨"LifeNoesModel", "valueSide", "(III)J"⟩ ∈ gT := gip_4 (List.mem_of_getElem? (i := 9) rfl) rfl
theorem wd_1635 : Cond.selects "LifeNoesModel" ⟨"LifeNoesModel", "valueOf", "(II)J"⟩ ⟨"LifeNoesModel", "valueOf", "(II)J"⟩ ∈ gT := gip_4 (List.mem_of_getElem? (i := 10) rfl) rfl
theorem wd_1636 : Cond.selects "LifeNoesModel" ⟨"LifeNoesModel", "brings", "(IZI)I"⟩ ⟨"LifeNoesModel", "brings", "(IZI)I"⟩ ∈ gT := gip_4 (List.mem_of_getElem? (i := 11) rfl) rfl
theorem wd_1637 : Cond.selects "LifeNoesModel" ⟨"LifeNoesModel", "spoiledIn", "(I)I"⟩ ⟨"LifeNoesModel", "spoiledIn", "(I)I"⟩ ∈ gT := gip_4 (List.mem_of_getElem? (i := 12) rfl) rfl
theorem wd_1638 : Cond.selects "LifeNoesModel" ⟨"LifeNoesModel", "lowest", "(JJ)V"⟩ ⟨"LifeNoesModel", "lowest", "(JJ)V"⟩ ∈ gT := gip_4 (List.mem_of_getElem? (i := 13) rfl) rfl
theorem wd_1639 : Cond.selects "LifeNoesModel" ⟨"LifeNoesModel", "bestBy", "(IIII)J"⟩ ⟨"LifeNoesModel", "bestBy", "(IIII)J"⟩ ∈ gT := gip_4 (List.mem_of_getElem? (i := 14) rfl) rfl
theorem wd_1640 : Cond.selects "LifeNoesModel" ⟨"LifeNoesModel", "bestOne", "(II)J"⟩ ⟨"LifeNoesModel", "bestOne", "(II)J"⟩ ∈ gT := gip_4 (List.mem_of_getElem? (i := 15) rfl) rfl
theorem wd_1641 : Cond.selects "LifeNoesModel" ⟨"LifeNoesModel", "hasNow", "(IIII)J"⟩ ⟨"LifeNoesModel", "hasNow", "(IIII)J"⟩ ∈ gT := gip_5 (List.mem_of_getElem? (i := 0) rfl) rfl
theorem wd_1642 : Cond.selects "LifeNoesModel" ⟨"LifeNoesModel", "bestTwo", "(III)J"⟩ ⟨"LifeNoesModel", "bestTwo", "(III)J"⟩ ∈ gT := gip_5 (List.mem_of_getElem? (i := 1) rfl) rfl
theorem wd_1643 : Cond.selects "LifeNoesModel" ⟨"LifeNoesModel", "bestThree", "(III)J"⟩ ⟨"LifeNoesModel", "bestThree", "(III)J"⟩ ∈ gT := gip_5 (List.mem_of_getElem? (i := 2) rfl) rfl
theorem wd_1644 : Cond.selects "LifeNoesModel" ⟨"LifeNoesModel", "passes", "(III)Z"⟩ ⟨"LifeNoesModel", "passes", "(III)Z"⟩ ∈ gT := gip_5 (List.mem_of_getElem? (i := 3) rfl) rfl
theorem wd_1645 : Cond.selects "LifeNoesModel" ⟨"LifeNoesModel", "digitsOf", "(II)I"⟩ ⟨"LifeNoesModel", "digitsOf", "(II)I"⟩ ∈ gT := gip_5 (List.mem_of_getElem? (i := 4) rfl) rfl
theorem wd_1646 : Cond.selects "LifeNoesModel" ⟨"LifeNoesModel", "findRows", "(II)V"⟩ ⟨"LifeNoesModel", "findRows", "(II)V"⟩ ∈ gT := gip_5 (List.mem_of_getElem? (i := 5) rfl) rfl
theorem wd_1647 : Cond.selects "LifeNoesModel" ⟨"LifeNoesModel", "isRow", "(II)Z"⟩ ⟨"LifeNoesModel", "isRow", "(II)Z"⟩ ∈ gT := gip_5 (List.mem_of_getElem? (i := 6) rfl) rfl
theorem wd_1648 : Cond.selects "LifeNoesModel" ⟨"LifeNoesModel", "lacksSort", "(II)I"⟩ ⟨"LifeNoesModel", "lacksSort", "(II)I"⟩ ∈ gT := gip_5 (List.mem_of_getElem? (i := 7) rfl) rfl
theorem wd_1649 : Cond.selects "LifeNoesModel" ⟨"LifeNoesModel", "isHeld", "(II)Z"⟩ ⟨"LifeNoesModel", "isHeld", "(II)Z"⟩ ∈ gT := gip_5 (List.mem_of_getElem? (i := 8) rfl) rfl
theorem wd_1650 : Cond.selects "LifeNoesModel" ⟨"LifeNoesModel", "kindOn", "(I)I"⟩ ⟨"LifeNoesModel", "kindOn", "(I)I"⟩ ∈ gT := gip_5 (List.mem_of_getElem? (i := 9) rfl) rfl
theorem wd_1651 : Cond.selects "LifeNoesModel" ⟨"LifeNoesModel", "barsIt", "(I)I"⟩ ⟨"LifeNoesModel", "barsIt", "(I)I"⟩ ∈ gT := gip_5 (List.mem_of_getElem? (i := 10) rfl) rfl
theorem wd_1652 : Cond.selects "LifeNoesModel" ⟨"LifeNoesModel", "barBars", "(I)I"⟩ ⟨"LifeNoesModel", "barBars", "(I)I"⟩ ∈ gT := gip_5 (List.mem_of_getElem? (i := 11) rfl) rfl
theorem wd_1653 : Cond.selects "LifeNoesModel" ⟨"LifeNoesModel", "ran", "(I)V"⟩ ⟨"LifeNoesModel", "ran", "(I)V"⟩ ∈ gT := gip_5 (List.mem_of_getElem? (i := 12) rfl) rfl
theorem wd_1654 : Cond.selects "LifeNoesModel" ⟨"LifeNoesModel", "plainBars", "(I)I"⟩ ⟨"LifeNoesModel", "plainBars", "(I)I"⟩ ∈ gT := gip_5 (List.mem_of_getElem? (i := 13) rfl) rfl
theorem wd_1655 : Cond.selects "LifeNoesModel" ⟨"LifeNoesModel", "waitsIt", "(I)I"⟩ ⟨"LifeNoesModel", "waitsIt", "(I)I"⟩ ∈ gT := gip_5 (List.mem_of_getElem? (i := 14) rfl) rfl
theorem wd_1656 : Cond.selects "LifeNoesModel" ⟨"LifeNoesModel", "plainWaits", "(I)I"⟩ ⟨"LifeNoesModel", "plainWaits", "(I)I"⟩ ∈ gT := gip_5 (List.mem_of_getElem? (i := 15) rfl) rfl
theorem wd_1657 : Cond.selects "LifeNoesModel" ⟨"LifeNoesModel", "sharesIt", "(I)I"⟩ ⟨"LifeNoesModel", "sharesIt", "(I)I"⟩ ∈ gT := gip_6 (List.mem_of_getElem? (i := 0) rfl) rfl
theorem wd_1658 : Cond.selects "LifeNoesModel" ⟨"LifeNoesModel", "plainShares", "(I)I"⟩ ⟨"LifeNoesModel", "plainShares", "(I)I"⟩ ∈ gT := gip_6 (List.mem_of_getElem? (i := 1) rfl) rfl
theorem wd_1659 : Cond.selects "LifeNoesModel" ⟨"LifeNoesModel", "tellsIt", "(I)I"⟩ ⟨"LifeNoesModel", "tellsIt", "(I)I"⟩ ∈ gT := gip_6 (List.mem_of_getElem? (i := 2) rfl) rfl
theorem wd_1660 : Cond.selects "LifeNoesModel" ⟨"LifeNoesModel", "plainTells", "(I)I"⟩ ⟨"LifeNoesModel", "plainTells", "(I)I"⟩ ∈ gT := gip_6 (List.mem_of_getElem? (i := 3) rfl) rfl
theorem wd_1661 : Cond.selects "LifeNoesModel" ⟨"LifeNoesModel", "moveAll", "(Z)V"⟩ ⟨"LifeNoesModel", "moveAll", "(Z)V"⟩ ∈ gT := gip_6 (List.mem_of_getElem? (i := 4) rfl) rfl
theorem wd_1662 : Cond.selects "LifeNoesModel" ⟨"LifeNoesModel", "moveRow", "([IIZ)V"⟩ ⟨"LifeNoesModel", "moveRow", "([IIZ)V"⟩ ∈ gT := gip_6 (List.mem_of_getElem? (i := 5) rfl) rfl
end
section
/-! My own rows over the kit: one contract form (from the cells w, with these arguments, the method returns r and leaves the cells w1), one bundle for what holds while a method runs, calls whole / without cells / in the middle of a list of cells. -/
abbrev g_St : Type := (Nat → Int32) × (Nat → Int64) × (Nat → Nat → Int32) × (Nat → Nat → Int64)
def gi (s : g_St) (k : Nat) : Int32 := s.1 k
def gj (s : g_St) (k : Nat) : Int64 := s.2.1 k
def gr (s : g_St) (k : Nat) : Nat → Int32 := s.2.2.1 k
def gt (s : g_St) (k : Nat) : Nat → Int64 := s.2.2.2 k
def si (s : g_St) (k : Nat) (v : Int32) : g_St := (fun j => if j = k then v else s.1 j, s.2)
def sj (s : g_St) (k : Nat) (v : Int64) : g_St := (s.1, fun j => if j = k then v else s.2.1 j, s.2.2)
def sra (s : g_St) (k : Nat) (f : Nat → Int32) : g_St := (s.1, s.2.1, fun j => if j = k then f else s.2.2.1 j, s.2.2.2)
def sta (s : g_St) (k : Nat) (f : Nat → Int64) : g_St := (s.1, s.2.1, s.2.2.1, fun j => if j = k then f else s.2.2.2 j)
def sr (s : g_St) (k : Nat) (i : Int32) (x : Int32) : g_St := sra s k (upd (gr s k) i.toNatClampNeg x)
def st (s : g_St) (k : Nat) (i : Int32) (x : Int64) : g_St := sta s k (vp_updL (gt s k) i.toNatClampNeg x)
/-- a step that may fail: where c doesn't hold there is no answer -/
noncomputable def gd {α : Type} (c : Prop) (k : Option α) : Option α := @ite _ c (Classical.propDecidable c) k none
theorem gd_some {α : Type} {c : Prop} {k : Option α} {r : α} (h : gd c k = some r) : c ∧ k = some r := by
  unfold gd at h
  split at h
  · exact ⟨‹_›, h⟩
  · cases h
theorem gd_of {α : Type} {c : Prop} {k : Option α} (h : c) : gd c k = k := by unfold gd; exact @if_pos c (Classical.propDecidable c) h _ k none
def bd1 {α γ : Type} (m : Option α) (k : α → Option γ) : Option γ := match m with
  | none => none
  | some x => k x
def bd2 {α β γ : Type} (m : Option (α × β)) (k : α → β → Option γ) : Option γ := match m with
  | none => none
  | some x => k x.1 x.2
def bd3 {α β δ γ : Type} (m : Option (α × β × δ)) (k : α → β → δ → Option γ) : Option γ := match m with
  | none => none
  | some x => k x.1 x.2.1 x.2.2
theorem bd1_some {α γ : Type} {m : Option α} {k : α → Option γ} {r : γ} (h : bd1 m k = some r) : ∃ x, m = some x ∧ k x = some r := by
  cases m with
  | none => cases h
  | some x => exact ⟨x, rfl, h⟩
theorem bd2_some {α β γ : Type} {m : Option (α × β)} {k : α → β → Option γ} {r : γ} (h : bd2 m k = some r) : ∃ x y, m = some (x, y) ∧ k x y = some r := by
  cases m with
  | none => cases h
  | some x => exact ⟨x.1, x.2, rfl, h⟩
theorem bd3_some {α β δ γ : Type} {m : Option (α × β × δ)} {k : α → β → δ → Option γ} {r : γ} (h : bd3 m k = some r) : ∃ x y z, m = some (x, y, z) ∧ k x y z = some r := by
  cases m with
  | none => cases h
  | some x => exact ⟨x.1, x.2.1, x.2.2, rfl, h⟩
/-- a value gets a name -/
def lt {α γ : Type} (x : α) (k : α → γ) : γ := k x
theorem lt_some {α γ : Type} {x : α} {k : α → Option γ} {r : γ} (h : lt x k = some r) {y : α} (e : y = x) : k y = some r := by rw [e]; exact h
theorem if_t {α : Type} {c : Prop} [Decidable c] {a b : α} {r : α} (h : (if c then a else b) = r) (hc : c) : a = r := by rw [if_pos hc] at h; exact h
theorem if_f {α : Type} {c : Prop} [Decidable c] {a b : α} {r : α} (h : (if c then a else b) = r) (hc : ¬ c) : b = r := by rw [if_neg hc] at h; exact h
theorem some2 {α β : Type} {a c : α} {b d : β} (h : (some (a, b) : Option (α × β)) = some (c, d)) : a = c ∧ b = d := by cases h; exact ⟨rfl, rfl⟩
theorem some1 {α : Type} {a c : α} (h : (some a : Option α) = some c) : a = c := by cases h; rfl
/-- the array classes: int[], long[], Sayer[], Sheet[], int[][] -/
abbrev g_ty (cy : Nat → ClassId) : List (ClassId × FieldType) := [(cy 0, .int), (cy 1, .long), (cy 2, .object "LifeNoes$Sayer"), (cy 3, .object "LifeNoes$Sheet"), (cy 4, .array .int)]
/-- the classes' numbers, the array classes' numbers, and what else is known of the machine (strings, statics) apart from the cells that may change -/
abbrev g_G : Type := va_G × (Nat → ClassId) × ((Nat → Prop) → State → Heap → Prop)
def EOk (E : (Nat → Prop) → State → Heap → Prop) : Prop :=
  (∀ (A : Nat → Prop) (u U : State) (H : Heap), u.vm.Alike U.vm → E A u H → E A U H) ∧ (∀ (A : Nat → Prop) (U : State) (H H1 : Heap), E A U H → (∀ a : Nat, a < H.size → ¬ A a → H1[a]? = H[a]?) → E A U H1) ∧ (∀ (A B : Nat → Prop) (U : State) (H : Heap), E A U H → (∀ q, B q → A q) → E B U H)
/-- what holds all through a method -/
def Cx (G : g_G) (A : Nat → Prop) (p : Program) (s : State) (m : MethodId) (meth : Method) (c : Code) (cc : ByteArray) (nL : Nat) (own : String) (args : Array Value) : Prop :=
  p.tables.exec = Jvm.exec ∧ c.code = cc ∧ c.maxLocals = nL ∧ s.vm.findClass own = some m.cls ∧ (∀ w ∈ gT, w.before args s = true) ∧ va_K G.1 vwCl (g_ty G.2.1) s ∧ meth.locks = false ∧ EOk G.2.2 ∧ G.2.2 A s s.heap
/-- what holds of the heap now -/
def Iv (G : g_G) (A : Nat → Prop) (s : State) (H : Heap) (locs : List Loc) (ws : va_W) : Prop := va_P G.1 vwCl ws H ∧ va_D A ws ∧ va_S A s.heap H locs ∧ (∀ q : Nat, s.heap.size ≤ q → A q)
abbrev Pre0 (G : g_G) (avs : List Value) (w : va_W) (sz : Nat) : Array Value → State → Prop := va_Pc avs (fun U => U.heap.size = sz ∧ va_P G.1 vwCl w U.heap ∧ va_K G.1 vwCl (g_ty G.2.1) U ∧ va_D (fun _ => True) w ∧ G.2.2 (va_A w sz) U U.heap)
abbrev Bk (G : g_G) (w w1 : va_W) (sz : Nat) : Unit → State → Prop := fun _ t => va_P G.1 vwCl w1 t.heap ∧ va_K G.1 vwCl (g_ty G.2.1) t ∧ va_D (va_A w sz) w1
def HI (l : Launch) (G : g_G) (y : MethodName) (ws : List Cond) (rm : Room) (avs : List Value) (w : va_W) (r : Int32) (w1 : va_W) : Prop :=
  ∀ sz : Nat, Met l y ws rm (Pre0 G avs w sz) (va_Qi (fun (r1 : Int32) (_ : Unit) => r1 = r) (Bk G w w1 sz) (va_A w sz)) 0 0 (va_A w sz)
def HL (l : Launch) (G : g_G) (y : MethodName) (ws : List Cond) (rm : Room) (avs : List Value) (w : va_W) (r : Int64) (w1 : va_W) : Prop :=
  ∀ sz : Nat, Met l y ws rm (Pre0 G avs w sz) (va_Ql (fun (r1 : Int64) (_ : Unit) => r1 = r) (Bk G w w1 sz) (va_A w sz)) 0 0 (va_A w sz)
def HV (l : Launch) (G : g_G) (y : MethodName) (ws : List Cond) (rm : Room) (avs : List Value) (w : va_W) (w1 : va_W) : Prop :=
  ∀ sz : Nat, Met l y ws rm (Pre0 G avs w sz) (va_Qv (fun (_ : Unit) => True) (Bk G w w1 sz) (va_A w sz)) 0 0 (va_A w sz)
section K4
variable {p : Program} {l : Launch} {e : Env} {R : Room} {s : State} {m : MethodId} {args : Array Value} {below : List Frame} {meth : Method} {c : Code} {H : Heap} {locs : List Loc} {cells slots : Nat} {Q : State → Prop}
variable {cc : ByteArray} {nL pc : Nat} {ls : Array Slot} {rest st0 : List Value} {G : g_G} {A : Nat → Prop} {own : String} {w w1 wc X Y : va_W}
theorem Cx.x (h : Cx G A p s m meth c cc nL own args) : p.tables.exec = Jvm.exec := h.1
theorem Cx.b (h : Cx G A p s m meth c cc nL own args) : c.code = cc := h.2.1
theorem Cx.ml (h : Cx G A p s m meth c cc nL own args) : c.maxLocals = nL := h.2.2.1
theorem Cx.o (h : Cx G A p s m meth c cc nL own args) : s.vm.findClass own = some m.cls := h.2.2.2.1
theorem Cx.t (h : Cx G A p s m meth c cc nL own args) : ∀ w ∈ gT, w.before args s = true := h.2.2.2.2.1
theorem Cx.K (h : Cx G A p s m meth c cc nL own args) : va_K G.1 vwCl (g_ty G.2.1) s := h.2.2.2.2.2.1
theorem Cx.lk (h : Cx G A p s m meth c cc nL own args) : meth.locks = false := h.2.2.2.2.2.2.1
theorem Cx.ok (h : Cx G A p s m meth c cc nL own args) : EOk G.2.2 := h.2.2.2.2.2.2.2.1
theorem Cx.E (h : Cx G A p s m meth c cc nL own args) : G.2.2 A s s.heap := h.2.2.2.2.2.2.2.2
theorem Cx.fix (h : Cx G A p s m meth c cc nL own args) : CallFix p m c cc nL s args gT own := ⟨h.x, h.b, h.ml, h.o, h.t⟩
theorem HI.mk (OK : EOk G.2.2) {y : MethodName} {maxL : Nat} {ret : Option FieldType} {rm : Room} {avs : List Value} {r : Int32} {lv : List (Nat × Value)} (hy : plainName y.cls = true) (hn : (lg_sl avs).length ≤ maxL) (hlv : lv_args 0 avs = lv)
    (body : ∀ (p : Program) (e : Env) (s : State) (m : MethodId) (args : Array Value) (below : List Frame) (meth : Method) (c : Code) (ls : Array Slot), Cx G (va_A w s.heap.size) p s m meth c cc maxL y.cls args → meth.sig.returnType = ret → Iv G (va_A w s.heap.size) s s.heap [] w → lv_has ls maxL lv →
      W p l e rm s m args below meth c s.heap [] 0 0 (MQ below (va_Qi (fun (r1 : Int32) (_ : Unit) => r1 = r) (Bk G w w1 s.heap.size) (va_A w s.heap.size)) args s 0 0 (va_A w s.heap.size)) (F0 m 0 ls [])) :
    HI l G y (Cond.code y cc maxL ret :: gT) rm avs w r w1 := by
  intro sz
  refine Met.ofW (cc := cc) (maxL := maxL) (ret := ret) hy rfl ?_
  intro p e s m args below meth c s₁ B hml hv
  obtain ⟨rfl, rfl, hP, hK, hD0, hE⟩ := hv
  have hts := atoms_spec (ws := Cond.code y cc maxL ret :: gT) B.pre
  have hl := lv_entry avs (n := maxL) hn
  rw [lg_entry_eq]
  rw [hlv] at hl
  exact body p e s m _ below meth c _ ⟨B.exec, B.bytes, hml, findClass_of_methodNamed B.named, fun w h => hts w (List.mem_cons_of_mem _ h), hK, B.notSynchronized, OK, hE⟩ B.returns ⟨hP, hD0.self (sz := s.heap.size), va_S.rf, fun q h => Or.inr h⟩ hl
theorem HL.mk (OK : EOk G.2.2) {y : MethodName} {maxL : Nat} {ret : Option FieldType} {rm : Room} {avs : List Value} {r : Int64} {lv : List (Nat × Value)} (hy : plainName y.cls = true) (hn : (lg_sl avs).length ≤ maxL) (hlv : lv_args 0 avs = lv)
    (body : ∀ (p : Program) (e : Env) (s : State) (m : MethodId) (args : Array Value) (below : List Frame) (meth : Method) (c : Code) (ls : Array Slot), Cx G (va_A w s.heap.size) p s m meth c cc maxL y.cls args → meth.sig.returnType = ret → Iv G (va_A w s.heap.size) s s.heap [] w → lv_has ls maxL lv →
      W p l e rm s m args below meth c s.heap [] 0 0 (MQ below (va_Ql (fun (r1 : Int64) (_ : Unit) => r1 = r) (Bk G w w1 s.heap.size) (va_A w s.heap.size)) args s 0 0 (va_A w s.heap.size)) (F0 m 0 ls [])) :
    HL l G y (Cond.code y cc maxL ret :: gT) rm avs w r w1 := by
  intro sz
  refine Met.ofW (cc := cc) (maxL := maxL) (ret := ret) hy rfl ?_
  intro p e s m args below meth c s₁ B hml hv
  obtain ⟨rfl, rfl, hP, hK, hD0, hE⟩ := hv
  have hts := atoms_spec (ws := Cond.code y cc maxL ret :: gT) B.pre
  have hl := lv_entry avs (n := maxL) hn
  rw [lg_entry_eq]
  rw [hlv] at hl
  exact body p e s m _ below meth c _ ⟨B.exec, B.bytes, hml, findClass_of_methodNamed B.named, fun w h => hts w (List.mem_cons_of_mem _ h), hK, B.notSynchronized, OK, hE⟩ B.returns ⟨hP, hD0.self (sz := s.heap.size), va_S.rf, fun q h => Or.inr h⟩ hl
theorem HV.mk (OK : EOk G.2.2) {y : MethodName} {maxL : Nat} {ret : Option FieldType} {rm : Room} {avs : List Value} {lv : List (Nat × Value)} (hy : plainName y.cls = true) (hn : (lg_sl avs).length ≤ maxL) (hlv : lv_args 0 avs = lv)
    (body : ∀ (p : Program) (e : Env) (s : State) (m : MethodId) (args : Array Value) (below : List Frame) (meth : Method) (c : Code) (ls : Array Slot), Cx G (va_A w s.heap.size) p s m meth c cc maxL y.cls args → meth.sig.returnType = ret → Iv G (va_A w s.heap.size) s s.heap [] w → lv_has ls maxL lv →
      W p l e rm s m args below meth c s.heap [] 0 0 (MQ below (va_Qv (fun (_ : Unit) => True) (Bk G w w1 s.heap.size) (va_A w s.heap.size)) args s 0 0 (va_A w s.heap.size)) (F0 m 0 ls [])) :
    HV l G y (Cond.code y cc maxL ret :: gT) rm avs w w1 := by
  intro sz
  refine Met.ofW (cc := cc) (maxL := maxL) (ret := ret) hy rfl ?_
  intro p e s m args below meth c s₁ B hml hv
  obtain ⟨rfl, rfl, hP, hK, hD0, hE⟩ := hv
  have hts := atoms_spec (ws := Cond.code y cc maxL ret :: gT) B.pre
  have hl := lv_entry avs (n := maxL) hn
  rw [lg_entry_eq]
  rw [hlv] at hl
  exact body p e s m _ below meth c _ ⟨B.exec, B.bytes, hml, findClass_of_methodNamed B.named, fun w h => hts w (List.mem_cons_of_mem _ h), hK, B.notSynchronized, OK, hE⟩ B.returns ⟨hP, hD0.self (sz := s.heap.size), va_S.rf, fun q h => Or.inr h⟩ hl
/-- the ends -/
theorem e_i {r v : Int32} (XX : Cx G (va_A w s.heap.size) p s m meth c cc nL own args) (hr : meth.sig.returnType = some .int) (I : Iv G (va_A w s.heap.size) s H locs w1) (hv : v = r) (hdg : decode cc pc = .ok (.ireturn, 1)) :
    W p l e R s m args below meth c H locs 0 0 (MQ below (va_Qi (fun (r1 : Int32) (_ : Unit) => r1 = r) (Bk G w w1 s.heap.size) (va_A w s.heap.size)) args s 0 0 (va_A w s.heap.size)) (F0 m pc ls [.int v]) :=
  W.iret XX.x XX.b hr (fun t ht hW => ⟨⟨v, (), rfl, hv, by rw [ht]; exact I.1, va_K.moved hW.alike XX.K, I.2.1⟩, I.2.2.1.F ht⟩) I.2.2.1.2.2 hdg XX.lk
theorem e_z {r v : Int32} {ty : FieldType} (XX : Cx G (va_A w s.heap.size) p s m meth c cc nL own args) (hr : meth.sig.returnType = some ty) (I : Iv G (va_A w s.heap.size) s H locs w1) (hn : narrow ty (.int v) = .int v) (hv : v = r) (hdg : decode cc pc = .ok (.ireturn, 1)) :
    W p l e R s m args below meth c H locs 0 0 (MQ below (va_Qi (fun (r1 : Int32) (_ : Unit) => r1 = r) (Bk G w w1 s.heap.size) (va_A w s.heap.size)) args s 0 0 (va_A w s.heap.size)) (F0 m pc ls [.int v]) :=
  W.zret XX.x XX.b hr hn (fun t ht hW => ⟨⟨v, (), rfl, hv, by rw [ht]; exact I.1, va_K.moved hW.alike XX.K, I.2.1⟩, I.2.2.1.F ht⟩) I.2.2.1.2.2 hdg XX.lk
theorem e_l {r v : Int64} (XX : Cx G (va_A w s.heap.size) p s m meth c cc nL own args) (hr : meth.sig.returnType = some .long) (I : Iv G (va_A w s.heap.size) s H locs w1) (hv : v = r) (hdg : decode cc pc = .ok (.lreturn, 1)) :
    W p l e R s m args below meth c H locs 0 0 (MQ below (va_Ql (fun (r1 : Int64) (_ : Unit) => r1 = r) (Bk G w w1 s.heap.size) (va_A w s.heap.size)) args s 0 0 (va_A w s.heap.size)) (F0 m pc ls [.long v]) :=
  W.lret XX.x XX.b hr (fun t ht hW => ⟨⟨v, (), rfl, hv, by rw [ht]; exact I.1, va_K.moved hW.alike XX.K, I.2.1⟩, I.2.2.1.F ht⟩) I.2.2.1.2.2 hdg XX.lk
theorem e_v (XX : Cx G (va_A w s.heap.size) p s m meth c cc nL own args) (hr : meth.sig.returnType = none) (I : Iv G (va_A w s.heap.size) s H locs w1) (hdg : decode cc pc = .ok (.return_, 1)) :
    W p l e R s m args below meth c H locs 0 0 (MQ below (va_Qv (fun (_ : Unit) => True) (Bk G w w1 s.heap.size) (va_A w s.heap.size)) args s 0 0 (va_A w s.heap.size)) (F0 m pc ls []) :=
  W.vret XX.x XX.b hr (fun t ht hW => ⟨⟨(), rfl, trivial, by rw [ht]; exact I.1, va_K.moved hW.alike XX.K, I.2.1⟩, I.2.2.1.F ht⟩) I.2.2.1.2.2 hdg XX.lk
/-- cells in the middle of a list are changed by a callee, the others stay -/
theorem va_mid {H1 : Heap} (hP : va_P G.1 vwCl (X ++ (wc ++ Y)) H) (hD : va_D A (X ++ (wc ++ Y))) (hk : ∀ q : Nat, q < H.size → ¬ va_A wc H.size q → H1[q]? = H[q]?) (hF : ∀ q, va_A wc H.size q → A q) (hP1 : va_P G.1 vwCl w1 H1) (hD1 : va_D (va_A wc H.size) w1) :
    va_P G.1 vwCl (X ++ (w1 ++ Y)) H1 ∧ va_D A (X ++ (w1 ++ Y)) := by
  have key : ∀ (i : Nat) (q : Nat × va_E), (X ++ (wc ++ Y))[i]? = some q → (i < X.length ∨ X.length + wc.length ≤ i) → ¬ va_A wc H.size q.1 := by
    intro i q hi hor hA
    rcases hA with ⟨k, e, hk⟩ | hge
    · have hkl : k < wc.length := (List.getElem?_eq_some_iff.mp hk).1
      have h2 : (X ++ (wc ++ Y))[X.length + k]? = some (q.1, e) := by
        rw [List.getElem?_append_right (by omega), show X.length + k - X.length = k by omega, List.getElem?_append_left hkl]; exact hk
      have := hD.1 i (X.length + k) q (q.1, e) hi h2 rfl
      omega
    · exact absurd (hP i q hi).lt (by omega)
  have hX : ∀ (i : Nat) (q : Nat × va_E), X[i]? = some q → (X ++ (wc ++ Y))[i]? = some q ∧ i < X.length := fun i q h => by
    have hl := (List.getElem?_eq_some_iff.mp h).1
    exact ⟨by rw [List.getElem?_append_left hl]; exact h, hl⟩
  have hY : ∀ (i : Nat) (q : Nat × va_E), Y[i]? = some q → (X ++ (wc ++ Y))[X.length + wc.length + i]? = some q := fun i q h => by
    rw [List.getElem?_append_right (by omega), List.getElem?_append_right (by omega), show X.length + wc.length + i - X.length - wc.length = i by omega]; exact h
  have split : ∀ (i : Nat) (q : Nat × va_E), (X ++ (w1 ++ Y))[i]? = some q → (X[i]? = some q ∧ i < X.length) ∨ (w1[i - X.length]? = some q ∧ X.length ≤ i ∧ i < X.length + w1.length) ∨ (Y[i - X.length - w1.length]? = some q ∧ X.length + w1.length ≤ i) := by
    intro i q h
    by_cases h1 : i < X.length
    · rw [List.getElem?_append_left h1] at h; exact Or.inl ⟨h, h1⟩
    · rw [List.getElem?_append_right (by omega)] at h
      by_cases h2 : i - X.length < w1.length
      · rw [List.getElem?_append_left h2] at h; exact Or.inr (Or.inl ⟨h, by omega, by omega⟩)
      · rw [List.getElem?_append_right (by omega)] at h; exact Or.inr (Or.inr ⟨h, by omega⟩)
  constructor
  · intro i q h
    rcases split i q h with ⟨h, hl⟩ | ⟨h, -⟩ | ⟨h, -⟩
    · have h2 := hX i q h
      exact (hP i q h2.1).kept (hk _ (hP i q h2.1).lt (key i q h2.1 (Or.inl h2.2)))
    · exact hP1 _ q h
    · have h2 := hY _ q h
      exact (hP _ q h2).kept (hk _ (hP _ q h2).lt (key _ q h2 (Or.inr (by omega))))
  · constructor
    · intro i j a b hi hj hab
      rcases split i a hi with ⟨h1, l1⟩ | ⟨h1, l1, l1'⟩ | ⟨h1, l1⟩ <;> rcases split j b hj with ⟨h2, l2⟩ | ⟨h2, l2, l2'⟩ | ⟨h2, l2⟩
      · have := hD.1 _ _ _ _ (hX _ _ h1).1 (hX _ _ h2).1 hab; omega
      · exact absurd (hab ▸ hD1.2 _ _ h2) (key _ _ (hX _ _ h1).1 (Or.inl l1))
      · have := hD.1 _ _ _ _ (hX _ _ h1).1 (hY _ _ h2) hab; omega
      · exact absurd (hab ▸ hD1.2 _ _ h1) (key _ _ (hX _ _ h2).1 (Or.inl l2))
      · have := hD1.1 _ _ _ _ h1 h2 hab; omega
      · exact absurd (hab ▸ hD1.2 _ _ h1) (key _ _ (hY _ _ h2) (Or.inr (by omega)))
      · have := hD.1 _ _ _ _ (hY _ _ h1) (hX _ _ h2).1 hab; omega
      · exact absurd (hab ▸ hD1.2 _ _ h2) (key _ _ (hY _ _ h1) (Or.inr (by omega)))
      · have := hD.1 _ _ _ _ (hY _ _ h1) (hY _ _ h2) hab; omega
    · intro i q h
      rcases split i q h with ⟨h, -⟩ | ⟨h, -⟩ | ⟨h, -⟩
      · exact hD.2 _ _ (hX _ _ h).1
      · exact hF _ (hD1.2 _ _ h)
      · exact hD.2 _ _ (hY _ _ h)
theorem midP (hP : va_P G.1 vwCl (X ++ (wc ++ Y)) H) : va_P G.1 vwCl wc H := fun k q h => hP (X.length + k) q (by
  have hl := (List.getElem?_eq_some_iff.mp h).1
  rw [List.getElem?_append_right (by omega), show X.length + k - X.length = k by omega, List.getElem?_append_left hl]; exact h)
theorem midD (hD : va_D A (X ++ (wc ++ Y))) : va_D A wc := by
  have hh : ∀ (k : Nat) (q : Nat × va_E), wc[k]? = some q → (X ++ (wc ++ Y))[X.length + k]? = some q := fun k q h => by
    have hl := (List.getElem?_eq_some_iff.mp h).1
    rw [List.getElem?_append_right (by omega), show X.length + k - X.length = k by omega, List.getElem?_append_left hl]; exact h
  exact ⟨fun i j a b hi hj hab => by have := hD.1 _ _ _ _ (hh _ _ hi) (hh _ _ hj) hab; omega, fun k q h => hD.2 _ _ (hh _ _ h)⟩
theorem midF (hD : va_D A (X ++ (wc ++ Y))) (hS : va_S A s.heap H locs) (hA : ∀ q : Nat, s.heap.size ≤ q → A q) : ∀ q, va_A wc H.size q → A q := by
  intro q h
  rcases h with ⟨k, e, h⟩ | h
  · exact (midD hD).2 k (q, e) h
  · exact hA q (Nat.le_trans hS.1 h)
theorem Iv.back {H1 : Heap} {locs1 : List Loc} (I : Iv G A s H locs (X ++ (wc ++ Y))) (hk : ∀ q : Nat, q < H.size → ¬ va_A wc H.size q → H1[q]? = H[q]?) (hP1 : va_P G.1 vwCl w1 H1) (hD1 : va_D (va_A wc H.size) w1) (hS : va_S A s.heap H1 locs1) : Iv G A s H1 locs1 (X ++ (w1 ++ Y)) := by
  obtain ⟨a, b⟩ := va_mid I.1 I.2.1 hk (midF I.2.1 I.2.2.1 I.2.2.2) hP1 hD1
  exact ⟨a, b, hS, I.2.2.2⟩
theorem Cx.Ec {U : State} (h : Cx G A p s m meth c cc nL own args) (I : Iv G A s H locs (X ++ (wc ++ Y))) (hU : U.heap = H) (hW : s.WarmedH U.vm) : G.2.2 (va_A wc H.size) U U.heap := by
  rw [hU]
  exact h.ok.2.2 _ _ _ _ (h.ok.2.1 _ _ _ _ (h.ok.1 _ s U _ hW.alike h.E) (fun a ha hn => I.2.2.1.2.1 a ha hn)) (midF I.2.1 I.2.2.1 I.2.2.2)
theorem Iv.whole (I : Iv G A s H locs w) : Iv G A s H locs ([] ++ (w ++ [])) := by rw [List.append_nil]; exact I
theorem Iv.none (I : Iv G A s H locs w) : Iv G A s H locs ([] ++ ([] ++ w)) := I
theorem Iv.unw (I : Iv G A s H locs ([] ++ (w ++ []))) : Iv G A s H locs w := by rw [List.append_nil] at I; exact I
/-- a callee's words, among all -/
def KV (own : String) (idx : Nat) (C : String) (y : MethodName) (bytes : ByteArray) (maxL : Nat) (ret : Option FieldType) (n : Nat) : Prop :=
  GoodIn gT (wsV own idx C y (Cond.code y bytes maxL ret :: gT)) ∧ (y.cls = C ∧ y.cls ≠ "java/lang/invoke/MethodHandle" ∧ y.cls ≠ "java/lang/invoke/VarHandle" ∧ (parseMethodDescriptor y.desc).map (fun d => d.parameters.length) = some n)
def KS (own : String) (idx : Nat) (y : MethodName) (bytes : ByteArray) (maxL : Nat) (ret : Option FieldType) (n : Nat) : Prop :=
  GoodIn gT (va_wsS own idx y (Cond.code y bytes maxL ret :: gT)) ∧ (y.cls ≠ "java/lang/invoke/MethodHandle" ∧ y.cls ≠ "java/lang/invoke/VarHandle" ∧ (parseMethodDescriptor y.desc).map (fun d => d.parameters.length) = some n)
theorem good_all : ∀ w ∈ gT, w ∈ gT ∧ ((w.onTables && w.keeps) = true ∨ ∃ ty, w = .arrayClass ty) := fun w h => ⟨h, good_of_word (gT_good w h)⟩
theorem KV.mk {own : String} {idx : Nat} {C : String} {y : MethodName} {bytes : ByteArray} {maxL : Nat} {ret : Option FieldType} {n : Nat} (h1 : Cond.methodLink own idx y ∈ gT) (h2 : Cond.instanceMethod y ∈ gT) (h3 : Cond.selects C y y ∈ gT) (h4 : Cond.initialized C ∈ gT) (h5 : Cond.code y bytes maxL ret ∈ gT) (hd : y.cls = C ∧ y.cls ≠ "java/lang/invoke/MethodHandle" ∧ y.cls ≠ "java/lang/invoke/VarHandle" ∧ (parseMethodDescriptor y.desc).map (fun d => d.parameters.length) = some n) : KV own idx C y bytes maxL ret n := by
  refine ⟨fun w hw => good_all w ?_, hd⟩
  simp only [wsV, List.cons_append, List.nil_append, List.mem_cons] at hw
  rcases hw with rfl | rfl | rfl | rfl | rfl | hw
  · exact h1
  · exact h2
  · exact h3
  · exact h4
  · exact h5
  · exact hw
theorem KS.mk {own : String} {idx : Nat} {y : MethodName} {bytes : ByteArray} {maxL : Nat} {ret : Option FieldType} {n : Nat} (h1 : Cond.methodLink own idx y ∈ gT) (h2 : Cond.static y ∈ gT) (h3 : Cond.initialized y.cls ∈ gT) (h5 : Cond.code y bytes maxL ret ∈ gT) (hd : y.cls ≠ "java/lang/invoke/MethodHandle" ∧ y.cls ≠ "java/lang/invoke/VarHandle" ∧ (parseMethodDescriptor y.desc).map (fun d => d.parameters.length) = some n) : KS own idx y bytes maxL ret n := by
  refine ⟨fun w hw => good_all w ?_, hd⟩
  simp only [va_wsS, List.cons_append, List.nil_append, List.mem_cons] at hw
  rcases hw with rfl | rfl | rfl | rfl | hw
  · exact h1
  · exact h2
  · exact h3
  · exact h5
  · exact hw
theorem blind0 (OK : EOk G.2.2) {avs : List Value} {sz : Nat} : FrameBlind (Pre0 G avs w sz) := fun a U g mk q => by
  obtain ⟨q0, q1, qP, qK, qD, qE⟩ := q
  exact ⟨q0, q1, qP, va_K.moved (u := U) (U := U.calling g mk a) (Vm.Alike.refl U.vm) qK, qD, OK.1 _ U (U.calling g mk a) _ (Vm.Alike.refl U.vm) qE⟩
/-- a receiver: an object among the cells -/
def Rc (s : State) (H : Heap) (C : String) (b : Addr) : Prop := ∃ cellB : Cell, H[b]? = some cellB ∧ cellB.vm.isStatics = false ∧ s.vm.findClass C = some cellB.cls
theorem Rc.mk {b q0 ci : Nat} {q : vw_C} {fs : List Value} (XX : Cx G A p s m meth c cc nL own args) (I : Iv G A s H locs w) (he : w[q0]? = some (b, .inr (ci, fs))) (hc : vwCl[ci]? = some q) : Rc s H q.1 b := va_recv XX.K I.1 hc he
section Calls
variable {y : MethodName} {bytes : ByteArray} {maxL idx n : Nat} {ret : Option FieldType} {rm : Room} {As : List Value} {b : Addr} {C : String}
theorem call_i {r : Int32} (XX : Cx G A p s m meth c cc nL own args) (I : Iv G A s H locs (X ++ (wc ++ Y))) (hls : ls.size = nL) (hc : HI l G y (Cond.code y bytes maxL ret :: gT) rm (.ref b :: As) wc r w1) (k : KV own idx C y bytes maxL ret n) (hrc : Rc s H C b) (hn : As.length = n) (hst : st0 = As.reverse ++ .ref b :: rest) (hcat : (rest.map fun v => v.category).sum ≤ 8)
    (hR : rm.cells = 0 ∧ rm.slots = 0 ∧ rm.frames + 1 ≤ R.frames ∧ 8 + (maxL + 11) + rm.locals ≤ R.locals) (hcs : cells ≤ R.cells ∧ slots ≤ R.slots) (hdg : decode cc pc = .ok (.invokevirtual idx, 3))
    (kk : ∀ (H1 : Heap) (locs1 : List Loc), Iv G A s H1 locs1 (X ++ (w1 ++ Y)) → W p l e R s m args below meth c H1 locs1 cells slots Q (F0 m (pc + 3) ls (.int r :: rest))) : W p l e R s m args below meth c H locs cells slots Q (F0 m pc ls st0) := by
  subst hst
  refine va_calli (va_runV (As := As) (rest := rest) XX.fix (hc H.size) (cwV n XX.t k.1 rfl hR.1 hR.2.1 k.2 hR.2.2) ⟨blind0 XX.ok, hrc, fun U hU hW => ⟨rfl, by rw [hU], by rw [hU]; exact midP I.1, va_K.moved hW.alike XX.K, (midD I.2.1).weaken (fun _ _ _ _ => trivial), XX.Ec I hU hW⟩⟩ rfl hn hls rfl (lv_room hcat) hdg ⟨hcs.1, hcs.2⟩) I.2.2.1 (fun q _ h => midF I.2.1 I.2.2.1 I.2.2.2 q h) (midF I.2.1 I.2.2.1 I.2.2.2) (fun r1 u t H1 locs1 ht hvm hw hB hz1 hk1 hS => ?_)
  obtain ⟨hP1, -, hD1⟩ := hB
  rw [ht] at hP1
  subst hw
  exact kk H1 locs1 (I.back hk1 hP1 hD1 hS)
theorem call_l {r : Int64} (XX : Cx G A p s m meth c cc nL own args) (I : Iv G A s H locs (X ++ (wc ++ Y))) (hls : ls.size = nL) (hc : HL l G y (Cond.code y bytes maxL ret :: gT) rm (.ref b :: As) wc r w1) (k : KV own idx C y bytes maxL ret n) (hrc : Rc s H C b) (hn : As.length = n) (hst : st0 = As.reverse ++ .ref b :: rest) (hcat : (rest.map fun v => v.category).sum ≤ 8)
    (hR : rm.cells = 0 ∧ rm.slots = 0 ∧ rm.frames + 1 ≤ R.frames ∧ 8 + (maxL + 11) + rm.locals ≤ R.locals) (hcs : cells ≤ R.cells ∧ slots ≤ R.slots) (hdg : decode cc pc = .ok (.invokevirtual idx, 3))
    (kk : ∀ (H1 : Heap) (locs1 : List Loc), Iv G A s H1 locs1 (X ++ (w1 ++ Y)) → W p l e R s m args below meth c H1 locs1 cells slots Q (F0 m (pc + 3) ls (.long r :: rest))) : W p l e R s m args below meth c H locs cells slots Q (F0 m pc ls st0) := by
  subst hst
  refine va_calll (va_runV (As := As) (rest := rest) XX.fix (hc H.size) (cwV n XX.t k.1 rfl hR.1 hR.2.1 k.2 hR.2.2) ⟨blind0 XX.ok, hrc, fun U hU hW => ⟨rfl, by rw [hU], by rw [hU]; exact midP I.1, va_K.moved hW.alike XX.K, (midD I.2.1).weaken (fun _ _ _ _ => trivial), XX.Ec I hU hW⟩⟩ rfl hn hls rfl (lv_room hcat) hdg ⟨hcs.1, hcs.2⟩) I.2.2.1 (fun q _ h => midF I.2.1 I.2.2.1 I.2.2.2 q h) (midF I.2.1 I.2.2.1 I.2.2.2) (fun r1 u t H1 locs1 ht hvm hw hB hz1 hk1 hS => ?_)
  obtain ⟨hP1, -, hD1⟩ := hB
  rw [ht] at hP1
  subst hw
  exact kk H1 locs1 (I.back hk1 hP1 hD1 hS)
theorem call_v (XX : Cx G A p s m meth c cc nL own args) (I : Iv G A s H locs (X ++ (wc ++ Y))) (hls : ls.size = nL) (hc : HV l G y (Cond.code y bytes maxL ret :: gT) rm (.ref b :: As) wc w1) (k : KV own idx C y bytes maxL ret n) (hrc : Rc s H C b) (hn : As.length = n) (hst : st0 = As.reverse ++ .ref b :: rest) (hcat : (rest.map fun v => v.category).sum ≤ 8)
    (hR : rm.cells = 0 ∧ rm.slots = 0 ∧ rm.frames + 1 ≤ R.frames ∧ 8 + (maxL + 11) + rm.locals ≤ R.locals) (hcs : cells ≤ R.cells ∧ slots ≤ R.slots) (hdg : decode cc pc = .ok (.invokevirtual idx, 3))
    (kk : ∀ (H1 : Heap) (locs1 : List Loc), Iv G A s H1 locs1 (X ++ (w1 ++ Y)) → W p l e R s m args below meth c H1 locs1 cells slots Q (F0 m (pc + 3) ls rest)) : W p l e R s m args below meth c H locs cells slots Q (F0 m pc ls st0) := by
  subst hst
  refine va_callv (va_runV (As := As) (rest := rest) XX.fix (hc H.size) (cwV n XX.t k.1 rfl hR.1 hR.2.1 k.2 hR.2.2) ⟨blind0 XX.ok, hrc, fun U hU hW => ⟨rfl, by rw [hU], by rw [hU]; exact midP I.1, va_K.moved hW.alike XX.K, (midD I.2.1).weaken (fun _ _ _ _ => trivial), XX.Ec I hU hW⟩⟩ rfl hn hls rfl (lv_room hcat) hdg ⟨hcs.1, hcs.2⟩) I.2.2.1 (fun q _ h => midF I.2.1 I.2.2.1 I.2.2.2 q h) (midF I.2.1 I.2.2.1 I.2.2.2) (fun u t H1 locs1 ht hvm hw hB hz1 hk1 hS => ?_)
  obtain ⟨hP1, -, hD1⟩ := hB
  rw [ht] at hP1
  exact kk H1 locs1 (I.back hk1 hP1 hD1 hS)
/-- a static function of numbers alone -/
theorem scall_i {r : Int32} (XX : Cx G A p s m meth c cc nL own args) (I : Iv G A s H locs w) (hls : ls.size = nL) (hc : HI l G y (Cond.code y bytes maxL ret :: gT) rm As [] r []) (k : KS own idx y bytes maxL ret n) (hn : As.length = n) (hst : st0 = As.reverse ++ rest) (hcat : (rest.map fun v => v.category).sum ≤ 8)
    (hR : rm.cells = 0 ∧ rm.slots = 0 ∧ rm.frames + 1 ≤ R.frames ∧ 8 + (maxL + 11) + rm.locals ≤ R.locals) (hcs : cells ≤ R.cells ∧ slots ≤ R.slots) (hdg : decode cc pc = .ok (.invokestatic idx, 3))
    (kk : ∀ (H1 : Heap) (locs1 : List Loc), Iv G A s H1 locs1 w → W p l e R s m args below meth c H1 locs1 cells slots Q (F0 m (pc + 3) ls (.int r :: rest))) : W p l e R s m args below meth c H locs cells slots Q (F0 m pc ls st0) := by
  subst hst
  have I2 := I.none
  refine va_calli (va_runS (As := As) (rest := rest) XX.fix (hc H.size) (va_cwS n XX.t k.1 rfl hR.1 hR.2.1 k.2 hR.2.2) ⟨blind0 XX.ok, fun U hU hW => ⟨rfl, by rw [hU], by rw [hU]; exact midP I2.1, va_K.moved hW.alike XX.K, (midD I2.2.1).weaken (fun _ _ _ _ => trivial), XX.Ec I2 hU hW⟩⟩ rfl hn hls rfl (lv_room hcat) hdg ⟨hcs.1, hcs.2⟩) I.2.2.1 (fun q _ h => midF I2.2.1 I.2.2.1 I.2.2.2 q h) (midF I2.2.1 I.2.2.1 I.2.2.2) (fun r1 u t H1 locs1 ht hvm hw hB hz1 hk1 hS => ?_)
  obtain ⟨hP1, -, hD1⟩ := hB
  rw [ht] at hP1
  subst hw
  exact kk H1 locs1 (I2.back hk1 hP1 hD1 hS)
theorem scall_l {r : Int64} (XX : Cx G A p s m meth c cc nL own args) (I : Iv G A s H locs w) (hls : ls.size = nL) (hc : HL l G y (Cond.code y bytes maxL ret :: gT) rm As [] r []) (k : KS own idx y bytes maxL ret n) (hn : As.length = n) (hst : st0 = As.reverse ++ rest) (hcat : (rest.map fun v => v.category).sum ≤ 8)
    (hR : rm.cells = 0 ∧ rm.slots = 0 ∧ rm.frames + 1 ≤ R.frames ∧ 8 + (maxL + 11) + rm.locals ≤ R.locals) (hcs : cells ≤ R.cells ∧ slots ≤ R.slots) (hdg : decode cc pc = .ok (.invokestatic idx, 3))
    (kk : ∀ (H1 : Heap) (locs1 : List Loc), Iv G A s H1 locs1 w → W p l e R s m args below meth c H1 locs1 cells slots Q (F0 m (pc + 3) ls (.long r :: rest))) : W p l e R s m args below meth c H locs cells slots Q (F0 m pc ls st0) := by
  subst hst
  have I2 := I.none
  refine va_calll (va_runS (As := As) (rest := rest) XX.fix (hc H.size) (va_cwS n XX.t k.1 rfl hR.1 hR.2.1 k.2 hR.2.2) ⟨blind0 XX.ok, fun U hU hW => ⟨rfl, by rw [hU], by rw [hU]; exact midP I2.1, va_K.moved hW.alike XX.K, (midD I2.2.1).weaken (fun _ _ _ _ => trivial), XX.Ec I2 hU hW⟩⟩ rfl hn hls rfl (lv_room hcat) hdg ⟨hcs.1, hcs.2⟩) I.2.2.1 (fun q _ h => midF I2.2.1 I.2.2.1 I.2.2.2 q h) (midF I2.2.1 I.2.2.1 I.2.2.2) (fun r1 u t H1 locs1 ht hvm hw hB hz1 hk1 hS => ?_)
  obtain ⟨hP1, -, hD1⟩ := hB
  rw [ht] at hP1
  subst hw
  exact kk H1 locs1 (I2.back hk1 hP1 hD1 hS)
end Calls
/-- stores: the new cells are told -/
theorem r_iast (XX : Cx G A p s m meth c cc nL own args) (I : Iv G A s H locs w) (q0 : Nat) {a : Addr} {n : Nat} {f : Nat → Int32} (ha : w[q0]? = some (a, .inl (G.2.1 0, n, .inl f))) {i x : Int32} (heq : w.set q0 (a, .inl (G.2.1 0, n, .inl (upd f i.toNatClampNeg x))) = w1) (hin : vp_in i n) (hdg : decode cc pc = .ok (.iastore, 1))
    (kk : ∀ (H1 : Heap) (locs1 : List Loc), Iv G A s H1 locs1 w1 → W p l e R s m args below meth c H1 locs1 cells slots Q (F0 m (pc + 1) ls rest)) : W p l e R s m args below meth c H locs cells slots Q (F0 m pc ls (.int x :: .int i :: .ref a :: rest)) := by
  subst heq
  exact va_iast XX.x XX.b XX.K I.1 I.2.1 I.2.2.1 q0 0 ha rfl hin hdg (fun H1 locs1 h1 h2 h3 => kk H1 locs1 ⟨h1, h2, h3, I.2.2.2⟩)
theorem r_last (XX : Cx G A p s m meth c cc nL own args) (I : Iv G A s H locs w) (q0 : Nat) {a : Addr} {n : Nat} {f : Nat → Int64} (ha : w[q0]? = some (a, .inl (G.2.1 1, n, .inr (.inl f)))) {i : Int32} {x : Int64} (heq : w.set q0 (a, .inl (G.2.1 1, n, .inr (.inl (vp_updL f i.toNatClampNeg x)))) = w1) (hin : vp_in i n) (hdg : decode cc pc = .ok (.lastore, 1))
    (kk : ∀ (H1 : Heap) (locs1 : List Loc), Iv G A s H1 locs1 w1 → W p l e R s m args below meth c H1 locs1 cells slots Q (F0 m (pc + 1) ls rest)) : W p l e R s m args below meth c H locs cells slots Q (F0 m pc ls (.long x :: .int i :: .ref a :: rest)) := by
  subst heq
  exact va_last XX.x XX.b XX.K I.1 I.2.1 I.2.2.1 q0 1 ha rfl hin hdg (fun H1 locs1 h1 h2 h3 => kk H1 locs1 ⟨h1, h2, h3, I.2.2.2⟩)
theorem r_iald (XX : Cx G A p s m meth c cc nL own args) (I : Iv G A s H locs w) (q0 : Nat) {a : Addr} {n : Nat} {f : Nat → Int32} (ha : w[q0]? = some (a, .inl (G.2.1 0, n, .inl f))) {i : Int32} (hin : vp_in i n) (hdg : decode cc pc = .ok (.iaload, 1))
    (kk : W p l e R s m args below meth c H locs cells slots Q (F0 m (pc + 1) ls (.int (f i.toNatClampNeg) :: rest))) : W p l e R s m args below meth c H locs cells slots Q (F0 m pc ls (.int i :: .ref a :: rest)) :=
  va_iald XX.x XX.b XX.K I.1 q0 0 ha rfl hin hdg kk
theorem r_lald (XX : Cx G A p s m meth c cc nL own args) (I : Iv G A s H locs w) (q0 : Nat) {a : Addr} {n : Nat} {f : Nat → Int64} (ha : w[q0]? = some (a, .inl (G.2.1 1, n, .inr (.inl f)))) {i : Int32} (hin : vp_in i n) (hdg : decode cc pc = .ok (.laload, 1))
    (kk : W p l e R s m args below meth c H locs cells slots Q (F0 m (pc + 1) ls (.long (f i.toNatClampNeg) :: rest))) : W p l e R s m args below meth c H locs cells slots Q (F0 m pc ls (.int i :: .ref a :: rest)) :=
  va_lald XX.x XX.b XX.K I.1 q0 1 ha rfl hin hdg kk
/-- fields; what a class and a field of it say once for all -/
def KF (C : String) (T : u_T) (N ci : Nat) (ty0 : Nat → FieldType) : Prop := (∀ w ∈ u_ws C T N, w ∈ gT) ∧ vwCl[ci]? = some (C, T, N) ∧ (∀ k, k < N → parseFieldDescriptor (T k).2.2.1 = some (ty0 k)) ∧ (∀ a, a < N → ∀ b, b < N → a ≠ b → (T a).2.1 ≠ (T b).2.1)
theorem r_get {C : String} {T : u_T} {N ci index : Nat} {ty0 : Nat → FieldType} (F : KF C T N ci ty0) (XX : Cx G A p s m meth c cc nL own args) (I : Iv G A s H locs w) (q0 : Nat) {a : Addr} {fs : List Value} (he : w[q0]? = some (a, .inr (ci, fs))) (k : Nat) (hk : k < N) (hlink : Cond.fieldLink own index (T k).1 (T k).2.1 (T k).2.2.1 ∈ gT) {v : Value} (hv : fs[k]? = some v) (hdg : decode cc pc = .ok (.getfield index, 3))
    (kk : W p l e R s m args below meth c H locs cells slots Q (F0 m (pc + 3) ls (v :: rest))) : W p l e R s m args below meth c H locs cells slots Q (F0 m pc ls (.ref a :: rest)) :=
  va_get (T := T) (N := N) (ci := ci) XX.x XX.b XX.t F.1 XX.o XX.K I.1 q0 he F.2.1 k hk (XX.t _ hlink) (fun _ h => h) hv hdg kk
theorem r_put {C : String} {T : u_T} {N ci index : Nat} {ty0 : Nat → FieldType} (F : KF C T N ci ty0) (XX : Cx G A p s m meth c cc nL own args) (I : Iv G A s H locs w) (q0 : Nat) {a : Addr} {fs : List Value} (he : w[q0]? = some (a, .inr (ci, fs))) (k : Nat) (hk : k < N) (hlink : Cond.fieldLink own index (T k).1 (T k).2.1 (T k).2.2.1 ∈ gT) (hfin : (T k).2.2.2 = false) {v : Value} (hn : narrow (ty0 k) v = v) (hfit : fits (ty0 k) v = true) (hl : k < fs.length) (heq : w.set q0 (a, .inr (ci, fs.set k v)) = w1) (hdg : decode cc pc = .ok (.putfield index, 3))
    (kk : ∀ (H1 : Heap) (locs1 : List Loc), Iv G A s H1 locs1 w1 → W p l e R s m args below meth c H1 locs1 cells slots Q (F0 m (pc + 3) ls rest)) : W p l e R s m args below meth c H locs cells slots Q (F0 m pc ls (v :: .ref a :: rest)) := by
  subst heq
  exact va_put (T := T) (N := N) (ci := ci) XX.x XX.b XX.t F.1 ty0 F.2.2.1 F.2.2.2 XX.o XX.K I.1 I.2.1 I.2.2.1 q0 he F.2.1 k hk (XX.t _ hlink) (fun _ h => h) hfin (F.2.2.1 k hk) hn hfit hl hdg (fun H1 locs1 h1 h2 h3 => kk H1 locs1 ⟨h1, h2, h3, I.2.2.2⟩)
end K4
end
section
theorem zz_end : True := trivial
end
