-- ===== PART A: goes FIRST, ahead of the names: the tables' words, and 'selects' of the private methods out of them =====
/-- a private method of a class that the tables say can be made, by its rows of tables_1 -/
def lw_okq (q : MethodName × Nat) : Prop := (q.1.cls ≠ "java/lang/invoke/MethodHandle" ∧ q.1.cls ≠ "java/lang/invoke/VarHandle") ∧ Cond.instantiable q.1.cls q.2 ∈ tables_1 ∧ Cond.privateMethod q.1 ∈ tables_1 ∧ Cond.instanceMethod q.1 ∈ tables_1
theorem lw_p0 : lw_okq (⟨"RefusedTwice", "newcomer", "(II)LRefusedTwice$One;"⟩, 14) := ⟨⟨by decide +kernel, by decide +kernel⟩, List.mem_of_getElem? (i := 23) (by decide +kernel), List.mem_of_getElem? (i := 251) (by decide +kernel), List.mem_of_getElem? (i := 252) (by decide +kernel)⟩
theorem lw_p1 : lw_okq (⟨"RefusedTwice$Town", "forget", "(II)V"⟩, 16) := ⟨⟨by decide +kernel, by decide +kernel⟩, List.mem_of_getElem? (i := 31) (by decide +kernel), List.mem_of_getElem? (i := 364) (by decide +kernel), List.mem_of_getElem? (i := 365) (by decide +kernel)⟩
theorem lw_p2 : lw_okq (⟨"RefusedTwice$Town", "readies", "(IIII)Z"⟩, 16) := ⟨⟨by decide +kernel, by decide +kernel⟩, List.mem_of_getElem? (i := 31) (by decide +kernel), List.mem_of_getElem? (i := 396) (by decide +kernel), List.mem_of_getElem? (i := 397) (by decide +kernel)⟩
theorem lw_p3 : lw_okq (⟨"RefusedTwice$Street", "wordsHolding", "(ILRefusedTwice$No;)I"⟩, 10) := ⟨⟨by decide +kernel, by decide +kernel⟩, List.mem_of_getElem? (i := 162) (by decide +kernel), List.mem_of_getElem? (i := 408) (by decide +kernel), List.mem_of_getElem? (i := 409) (by decide +kernel)⟩
theorem lw_p4 : lw_okq (⟨"RefusedTwice$Town", "secondCounts", "(II)Z"⟩, 16) := ⟨⟨by decide +kernel, by decide +kernel⟩, List.mem_of_getElem? (i := 31) (by decide +kernel), List.mem_of_getElem? (i := 454) (by decide +kernel), List.mem_of_getElem? (i := 455) (by decide +kernel)⟩
theorem lw_p5 : lw_okq (⟨"RefusedTwice", "faultOfNo", "(III)I"⟩, 14) := ⟨⟨by decide +kernel, by decide +kernel⟩, List.mem_of_getElem? (i := 23) (by decide +kernel), List.mem_of_getElem? (i := 471) (by decide +kernel), List.mem_of_getElem? (i := 472) (by decide +kernel)⟩
theorem lw_p6 : lw_okq (⟨"RefusedTwice$Town", "part", "(II)V"⟩, 16) := ⟨⟨by decide +kernel, by decide +kernel⟩, List.mem_of_getElem? (i := 31) (by decide +kernel), List.mem_of_getElem? (i := 484) (by decide +kernel), List.mem_of_getElem? (i := 485) (by decide +kernel)⟩
theorem lw_p7 : lw_okq (⟨"RefusedTwice$Street", "takes", "(I)Z"⟩, 10) := ⟨⟨by decide +kernel, by decide +kernel⟩, List.mem_of_getElem? (i := 162) (by decide +kernel), List.mem_of_getElem? (i := 510) (by decide +kernel), List.mem_of_getElem? (i := 511) (by decide +kernel)⟩
theorem lw_p8 : lw_okq (⟨"RefusedTwice$Street", "readsClause", "()Z"⟩, 10) := ⟨⟨by decide +kernel, by decide +kernel⟩, List.mem_of_getElem? (i := 162) (by decide +kernel), List.mem_of_getElem? (i := 514) (by decide +kernel), List.mem_of_getElem? (i := 515) (by decide +kernel)⟩
theorem lw_p9 : lw_okq (⟨"RefusedTwice$Street", "readWord", "()I"⟩, 10) := ⟨⟨by decide +kernel, by decide +kernel⟩, List.mem_of_getElem? (i := 162) (by decide +kernel), List.mem_of_getElem? (i := 518) (by decide +kernel), List.mem_of_getElem? (i := 519) (by decide +kernel)⟩
theorem lw_p10 : lw_okq (⟨"RefusedTwice$Street", "takesAll", "(Ljava/lang/String;)Z"⟩, 10) := ⟨⟨by decide +kernel, by decide +kernel⟩, List.mem_of_getElem? (i := 162) (by decide +kernel), List.mem_of_getElem? (i := 523) (by decide +kernel), List.mem_of_getElem? (i := 524) (by decide +kernel)⟩
theorem lw_p11 : lw_okq (⟨"RefusedTwice$Street", "readNumber", "()I"⟩, 10) := ⟨⟨by decide +kernel, by decide +kernel⟩, List.mem_of_getElem? (i := 162) (by decide +kernel), List.mem_of_getElem? (i := 577) (by decide +kernel), List.mem_of_getElem? (i := 578) (by decide +kernel)⟩
theorem lw_p12 : lw_okq (⟨"RefusedTwice$Street", "readsEither", "(I)Z"⟩, 10) := ⟨⟨by decide +kernel, by decide +kernel⟩, List.mem_of_getElem? (i := 162) (by decide +kernel), List.mem_of_getElem? (i := 581) (by decide +kernel), List.mem_of_getElem? (i := 582) (by decide +kernel)⟩
theorem lw_p13 : lw_okq (⟨"RefusedTwice$Street", "readsBoth", "(I)Z"⟩, 10) := ⟨⟨by decide +kernel, by decide +kernel⟩, List.mem_of_getElem? (i := 162) (by decide +kernel), List.mem_of_getElem? (i := 585) (by decide +kernel), List.mem_of_getElem? (i := 586) (by decide +kernel)⟩
theorem lw_p14 : lw_okq (⟨"RefusedTwice$Street", "readsSingle", "(I)Z"⟩, 10) := ⟨⟨by decide +kernel, by decide +kernel⟩, List.mem_of_getElem? (i := 162) (by decide +kernel), List.mem_of_getElem? (i := 589) (by decide +kernel), List.mem_of_getElem? (i := 590) (by decide +kernel)⟩
theorem lw_p15 : lw_okq (⟨"RefusedTwice$Street", "addStep", "(I)V"⟩, 10) := ⟨⟨by decide +kernel, by decide +kernel⟩, List.mem_of_getElem? (i := 162) (by decide +kernel), List.mem_of_getElem? (i := 593) (by decide +kernel), List.mem_of_getElem? (i := 594) (by decide +kernel)⟩
def lw_privs_1 : List (MethodName × Nat) := [(⟨"RefusedTwice", "newcomer", "(II)LRefusedTwice$One;"⟩, 14), (⟨"RefusedTwice$Town", "forget", "(II)V"⟩, 16), (⟨"RefusedTwice$Town", "readies", "(IIII)Z"⟩, 16), (⟨"RefusedTwice$Street", "wordsHolding", "(ILRefusedTwice$No;)I"⟩, 10), (⟨"RefusedTwice$Town", "secondCounts", "(II)Z"⟩, 16), (⟨"RefusedTwice", "faultOfNo", "(III)I"⟩, 14), (⟨"RefusedTwice$Town", "part", "(II)V"⟩, 16), (⟨"RefusedTwice$Street", "takes", "(I)Z"⟩, 10), (⟨"RefusedTwice$Street", "readsClause", "()Z"⟩, 10), (⟨"RefusedTwice$Street", "readWord", "()I"⟩, 10), (⟨"RefusedTwice$Street", "takesAll", "(Ljava/lang/String;)Z"⟩, 10), (⟨"RefusedTwice$Street", "readNumber", "()I"⟩, 10), (⟨"RefusedTwice$Street", "readsEither", "(I)Z"⟩, 10), (⟨"RefusedTwice$Street", "readsBoth", "(I)Z"⟩, 10), (⟨"RefusedTwice$Street", "readsSingle", "(I)Z"⟩, 10), (⟨"RefusedTwice$Street", "addStep", "(I)V"⟩, 10)]
theorem lw_r1 : ∀ q ∈ lw_privs_1, lw_okq q := List.forall_mem_cons.mpr ⟨lw_p0, List.forall_mem_cons.mpr ⟨lw_p1, List.forall_mem_cons.mpr ⟨lw_p2, List.forall_mem_cons.mpr ⟨lw_p3, List.forall_mem_cons.mpr ⟨lw_p4, List.forall_mem_cons.mpr ⟨lw_p5, List.forall_mem_cons.mpr ⟨lw_p6, List.forall_mem_cons.mpr ⟨lw_p7, List.forall_mem_cons.mpr ⟨lw_p8, List.forall_mem_cons.mpr ⟨lw_p9, List.forall_mem_cons.mpr ⟨lw_p10, List.forall_mem_cons.mpr ⟨lw_p11, List.forall_mem_cons.mpr ⟨lw_p12, List.forall_mem_cons.mpr ⟨lw_p13, List.forall_mem_cons.mpr ⟨lw_p14, List.forall_mem_cons.mpr ⟨lw_p15, fun _ h => absurd h List.not_mem_nil⟩⟩⟩⟩⟩⟩⟩⟩⟩⟩⟩⟩⟩⟩⟩⟩
theorem lw_p16 : lw_okq (⟨"RefusedTwice$Street", "readsTest", "()Z"⟩, 10) := ⟨⟨by decide +kernel, by decide +kernel⟩, List.mem_of_getElem? (i := 162) (by decide +kernel), List.mem_of_getElem? (i := 597) (by decide +kernel), List.mem_of_getElem? (i := 598) (by decide +kernel)⟩
theorem lw_p17 : lw_okq (⟨"RefusedTwice$Street", "takesOneOf", "(Ljava/lang/String;)I"⟩, 10) := ⟨⟨by decide +kernel, by decide +kernel⟩, List.mem_of_getElem? (i := 162) (by decide +kernel), List.mem_of_getElem? (i := 602) (by decide +kernel), List.mem_of_getElem? (i := 603) (by decide +kernel)⟩
theorem lw_p18 : lw_okq (⟨"RefusedTwice$Town", "isNear", "(II)Z"⟩, 16) := ⟨⟨by decide +kernel, by decide +kernel⟩, List.mem_of_getElem? (i := 31) (by decide +kernel), List.mem_of_getElem? (i := 680) (by decide +kernel), List.mem_of_getElem? (i := 681) (by decide +kernel)⟩
theorem lw_p19 : lw_okq (⟨"RefusedTwice$Town", "isWall", "(I)Z"⟩, 16) := ⟨⟨by decide +kernel, by decide +kernel⟩, List.mem_of_getElem? (i := 31) (by decide +kernel), List.mem_of_getElem? (i := 692) (by decide +kernel), List.mem_of_getElem? (i := 693) (by decide +kernel)⟩
theorem lw_p20 : lw_okq (⟨"RefusedTwice", "findMostPairs", "()V"⟩, 14) := ⟨⟨by decide +kernel, by decide +kernel⟩, List.mem_of_getElem? (i := 23) (by decide +kernel), List.mem_of_getElem? (i := 710) (by decide +kernel), List.mem_of_getElem? (i := 711) (by decide +kernel)⟩
theorem lw_p21 : lw_okq (⟨"RefusedTwice", "everybody", "()I"⟩, 14) := ⟨⟨by decide +kernel, by decide +kernel⟩, List.mem_of_getElem? (i := 23) (by decide +kernel), List.mem_of_getElem? (i := 714) (by decide +kernel), List.mem_of_getElem? (i := 715) (by decide +kernel)⟩
theorem lw_p22 : lw_okq (⟨"RefusedTwice", "mateOf", "(I)I"⟩, 14) := ⟨⟨by decide +kernel, by decide +kernel⟩, List.mem_of_getElem? (i := 23) (by decide +kernel), List.mem_of_getElem? (i := 719) (by decide +kernel), List.mem_of_getElem? (i := 720) (by decide +kernel)⟩
theorem lw_p23 : lw_okq (⟨"RefusedTwice", "firstMate", "(II)I"⟩, 14) := ⟨⟨by decide +kernel, by decide +kernel⟩, List.mem_of_getElem? (i := 23) (by decide +kernel), List.mem_of_getElem? (i := 723) (by decide +kernel), List.mem_of_getElem? (i := 724) (by decide +kernel)⟩
theorem lw_p24 : lw_okq (⟨"RefusedTwiceModel", "clears", "(I)V"⟩, 50) := ⟨⟨by decide +kernel, by decide +kernel⟩, List.mem_of_getElem? (i := 927) (by decide +kernel), List.mem_of_getElem? (i := 1092) (by decide +kernel), List.mem_of_getElem? (i := 1093) (by decide +kernel)⟩
theorem lw_p25 : lw_okq (⟨"RefusedTwiceModel", "isOne", "(I)Z"⟩, 50) := ⟨⟨by decide +kernel, by decide +kernel⟩, List.mem_of_getElem? (i := 927) (by decide +kernel), List.mem_of_getElem? (i := 1100) (by decide +kernel), List.mem_of_getElem? (i := 1101) (by decide +kernel)⟩
theorem lw_p26 : lw_okq (⟨"RefusedTwiceModel", "byOne", "(I)I"⟩, 50) := ⟨⟨by decide +kernel, by decide +kernel⟩, List.mem_of_getElem? (i := 927) (by decide +kernel), List.mem_of_getElem? (i := 1104) (by decide +kernel), List.mem_of_getElem? (i := 1105) (by decide +kernel)⟩
theorem lw_p27 : lw_okq (⟨"RefusedTwiceModel", "toOne", "(I)I"⟩, 50) := ⟨⟨by decide +kernel, by decide +kernel⟩, List.mem_of_getElem? (i := 927) (by decide +kernel), List.mem_of_getElem? (i := 1108) (by decide +kernel), List.mem_of_getElem? (i := 1109) (by decide +kernel)⟩
theorem lw_p28 : lw_okq (⟨"RefusedTwiceModel", "are", "(II)Z"⟩, 50) := ⟨⟨by decide +kernel, by decide +kernel⟩, List.mem_of_getElem? (i := 927) (by decide +kernel), List.mem_of_getElem? (i := 1116) (by decide +kernel), List.mem_of_getElem? (i := 1117) (by decide +kernel)⟩
theorem lw_p29 : lw_okq (⟨"RefusedTwiceModel", "firstWord", "(II)I"⟩, 50) := ⟨⟨by decide +kernel, by decide +kernel⟩, List.mem_of_getElem? (i := 927) (by decide +kernel), List.mem_of_getElem? (i := 1120) (by decide +kernel), List.mem_of_getElem? (i := 1121) (by decide +kernel)⟩
theorem lw_p30 : lw_okq (⟨"RefusedTwiceModel", "countsNow", "(III)Z"⟩, 50) := ⟨⟨by decide +kernel, by decide +kernel⟩, List.mem_of_getElem? (i := 927) (by decide +kernel), List.mem_of_getElem? (i := 1124) (by decide +kernel), List.mem_of_getElem? (i := 1125) (by decide +kernel)⟩
theorem lw_p31 : lw_okq (⟨"RefusedTwiceModel", "doesCount", "(IIIIII)Z"⟩, 50) := ⟨⟨by decide +kernel, by decide +kernel⟩, List.mem_of_getElem? (i := 927) (by decide +kernel), List.mem_of_getElem? (i := 1128) (by decide +kernel), List.mem_of_getElem? (i := 1129) (by decide +kernel)⟩
def lw_privs_2 : List (MethodName × Nat) := [(⟨"RefusedTwice$Street", "readsTest", "()Z"⟩, 10), (⟨"RefusedTwice$Street", "takesOneOf", "(Ljava/lang/String;)I"⟩, 10), (⟨"RefusedTwice$Town", "isNear", "(II)Z"⟩, 16), (⟨"RefusedTwice$Town", "isWall", "(I)Z"⟩, 16), (⟨"RefusedTwice", "findMostPairs", "()V"⟩, 14), (⟨"RefusedTwice", "everybody", "()I"⟩, 14), (⟨"RefusedTwice", "mateOf", "(I)I"⟩, 14), (⟨"RefusedTwice", "firstMate", "(II)I"⟩, 14), (⟨"RefusedTwiceModel", "clears", "(I)V"⟩, 50), (⟨"RefusedTwiceModel", "isOne", "(I)Z"⟩, 50), (⟨"RefusedTwiceModel", "byOne", "(I)I"⟩, 50), (⟨"RefusedTwiceModel", "toOne", "(I)I"⟩, 50), (⟨"RefusedTwiceModel", "are", "(II)Z"⟩, 50), (⟨"RefusedTwiceModel", "firstWord", "(II)I"⟩, 50), (⟨"RefusedTwiceModel", "countsNow", "(III)Z"⟩, 50), (⟨"RefusedTwiceModel", "doesCount", "(IIIIII)Z"⟩, 50)]
theorem lw_r2 : ∀ q ∈ lw_privs_2, lw_okq q := List.forall_mem_cons.mpr ⟨lw_p16, List.forall_mem_cons.mpr ⟨lw_p17, List.forall_mem_cons.mpr ⟨lw_p18, List.forall_mem_cons.mpr ⟨lw_p19, List.forall_mem_cons.mpr ⟨lw_p20, List.forall_mem_cons.mpr ⟨lw_p21, List.forall_mem_cons.mpr ⟨lw_p22, List.forall_mem_cons.mpr ⟨lw_p23, List.forall_mem_cons.mpr ⟨lw_p24, List.forall_mem_cons.mpr ⟨lw_p25, List.forall_mem_cons.mpr ⟨lw_p26, List.forall_mem_cons.mpr ⟨lw_p27, List.forall_mem_cons.mpr ⟨lw_p28, List.forall_mem_cons.mpr ⟨lw_p29, List.forall_mem_cons.mpr ⟨lw_p30, List.forall_mem_cons.mpr ⟨lw_p31, fun _ h => absurd h List.not_mem_nil⟩⟩⟩⟩⟩⟩⟩⟩⟩⟩⟩⟩⟩⟩⟩⟩
theorem lw_p32 : lw_okq (⟨"RefusedTwiceModel", "begin", "()I"⟩, 50) := ⟨⟨by decide +kernel, by decide +kernel⟩, List.mem_of_getElem? (i := 927) (by decide +kernel), List.mem_of_getElem? (i := 1132) (by decide +kernel), List.mem_of_getElem? (i := 1133) (by decide +kernel)⟩
theorem lw_p33 : lw_okq (⟨"RefusedTwiceModel", "isHeard", "(IIII)Z"⟩, 50) := ⟨⟨by decide +kernel, by decide +kernel⟩, List.mem_of_getElem? (i := 927) (by decide +kernel), List.mem_of_getElem? (i := 1136) (by decide +kernel), List.mem_of_getElem? (i := 1137) (by decide +kernel)⟩
theorem lw_p34 : lw_okq (⟨"RefusedTwiceModel", "isTrue", "(IIIII)Z"⟩, 50) := ⟨⟨by decide +kernel, by decide +kernel⟩, List.mem_of_getElem? (i := 927) (by decide +kernel), List.mem_of_getElem? (i := 1140) (by decide +kernel), List.mem_of_getElem? (i := 1141) (by decide +kernel)⟩
theorem lw_p35 : lw_okq (⟨"RefusedTwiceModel", "letterOf", "(IIIII)I"⟩, 50) := ⟨⟨by decide +kernel, by decide +kernel⟩, List.mem_of_getElem? (i := 927) (by decide +kernel), List.mem_of_getElem? (i := 1144) (by decide +kernel), List.mem_of_getElem? (i := 1145) (by decide +kernel)⟩
theorem lw_p36 : lw_okq (⟨"RefusedTwiceModel", "twice", "(II)I"⟩, 50) := ⟨⟨by decide +kernel, by decide +kernel⟩, List.mem_of_getElem? (i := 927) (by decide +kernel), List.mem_of_getElem? (i := 1148) (by decide +kernel), List.mem_of_getElem? (i := 1149) (by decide +kernel)⟩
theorem lw_p37 : lw_okq (⟨"RefusedTwiceModel", "any", "(IIIII)Z"⟩, 50) := ⟨⟨by decide +kernel, by decide +kernel⟩, List.mem_of_getElem? (i := 927) (by decide +kernel), List.mem_of_getElem? (i := 1152) (by decide +kernel), List.mem_of_getElem? (i := 1153) (by decide +kernel)⟩
theorem lw_p38 : lw_okq (⟨"RefusedTwiceModel", "isTwo", "(III)Z"⟩, 50) := ⟨⟨by decide +kernel, by decide +kernel⟩, List.mem_of_getElem? (i := 927) (by decide +kernel), List.mem_of_getElem? (i := 1156) (by decide +kernel), List.mem_of_getElem? (i := 1157) (by decide +kernel)⟩
theorem lw_p39 : lw_okq (⟨"RefusedTwiceModel", "await", "(II)I"⟩, 50) := ⟨⟨by decide +kernel, by decide +kernel⟩, List.mem_of_getElem? (i := 927) (by decide +kernel), List.mem_of_getElem? (i := 1160) (by decide +kernel), List.mem_of_getElem? (i := 1161) (by decide +kernel)⟩
theorem lw_p40 : lw_okq (⟨"RefusedTwiceModel", "isClause", "(I)Z"⟩, 50) := ⟨⟨by decide +kernel, by decide +kernel⟩, List.mem_of_getElem? (i := 927) (by decide +kernel), List.mem_of_getElem? (i := 1177) (by decide +kernel), List.mem_of_getElem? (i := 1178) (by decide +kernel)⟩
theorem lw_p41 : lw_okq (⟨"RefusedTwiceModel", "isAll", "(Ljava/lang/String;)Z"⟩, 50) := ⟨⟨by decide +kernel, by decide +kernel⟩, List.mem_of_getElem? (i := 927) (by decide +kernel), List.mem_of_getElem? (i := 1182) (by decide +kernel), List.mem_of_getElem? (i := 1183) (by decide +kernel)⟩
theorem lw_p42 : lw_okq (⟨"RefusedTwiceModel", "is", "(I)Z"⟩, 50) := ⟨⟨by decide +kernel, by decide +kernel⟩, List.mem_of_getElem? (i := 927) (by decide +kernel), List.mem_of_getElem? (i := 1188) (by decide +kernel), List.mem_of_getElem? (i := 1189) (by decide +kernel)⟩
theorem lw_p43 : lw_okq (⟨"RefusedTwiceModel", "isNumber", "()Z"⟩, 50) := ⟨⟨by decide +kernel, by decide +kernel⟩, List.mem_of_getElem? (i := 927) (by decide +kernel), List.mem_of_getElem? (i := 1194) (by decide +kernel), List.mem_of_getElem? (i := 1195) (by decide +kernel)⟩
theorem lw_p44 : lw_okq (⟨"RefusedTwiceModel", "isDigit", "()Z"⟩, 50) := ⟨⟨by decide +kernel, by decide +kernel⟩, List.mem_of_getElem? (i := 927) (by decide +kernel), List.mem_of_getElem? (i := 1198) (by decide +kernel), List.mem_of_getElem? (i := 1199) (by decide +kernel)⟩
theorem lw_p45 : lw_okq (⟨"RefusedTwiceModel", "isE", "()Z"⟩, 50) := ⟨⟨by decide +kernel, by decide +kernel⟩, List.mem_of_getElem? (i := 927) (by decide +kernel), List.mem_of_getElem? (i := 1202) (by decide +kernel), List.mem_of_getElem? (i := 1203) (by decide +kernel)⟩
theorem lw_p46 : lw_okq (⟨"RefusedTwiceModel", "isT", "()Z"⟩, 50) := ⟨⟨by decide +kernel, by decide +kernel⟩, List.mem_of_getElem? (i := 927) (by decide +kernel), List.mem_of_getElem? (i := 1206) (by decide +kernel), List.mem_of_getElem? (i := 1207) (by decide +kernel)⟩
theorem lw_p47 : lw_okq (⟨"RefusedTwiceModel", "isF", "()Z"⟩, 50) := ⟨⟨by decide +kernel, by decide +kernel⟩, List.mem_of_getElem? (i := 927) (by decide +kernel), List.mem_of_getElem? (i := 1210) (by decide +kernel), List.mem_of_getElem? (i := 1211) (by decide +kernel)⟩
def lw_privs_3 : List (MethodName × Nat) := [(⟨"RefusedTwiceModel", "begin", "()I"⟩, 50), (⟨"RefusedTwiceModel", "isHeard", "(IIII)Z"⟩, 50), (⟨"RefusedTwiceModel", "isTrue", "(IIIII)Z"⟩, 50), (⟨"RefusedTwiceModel", "letterOf", "(IIIII)I"⟩, 50), (⟨"RefusedTwiceModel", "twice", "(II)I"⟩, 50), (⟨"RefusedTwiceModel", "any", "(IIIII)Z"⟩, 50), (⟨"RefusedTwiceModel", "isTwo", "(III)Z"⟩, 50), (⟨"RefusedTwiceModel", "await", "(II)I"⟩, 50), (⟨"RefusedTwiceModel", "isClause", "(I)Z"⟩, 50), (⟨"RefusedTwiceModel", "isAll", "(Ljava/lang/String;)Z"⟩, 50), (⟨"RefusedTwiceModel", "is", "(I)Z"⟩, 50), (⟨"RefusedTwiceModel", "isNumber", "()Z"⟩, 50), (⟨"RefusedTwiceModel", "isDigit", "()Z"⟩, 50), (⟨"RefusedTwiceModel", "isE", "()Z"⟩, 50), (⟨"RefusedTwiceModel", "isT", "()Z"⟩, 50), (⟨"RefusedTwiceModel", "isF", "()Z"⟩, 50)]
theorem lw_r3 : ∀ q ∈ lw_privs_3, lw_okq q := List.forall_mem_cons.mpr ⟨lw_p32, List.forall_mem_cons.mpr ⟨lw_p33, List.forall_mem_cons.mpr ⟨lw_p34, List.forall_mem_cons.mpr ⟨lw_p35, List.forall_mem_cons.mpr ⟨lw_p36, List.forall_mem_cons.mpr ⟨lw_p37, List.forall_mem_cons.mpr ⟨lw_p38, List.forall_mem_cons.mpr ⟨lw_p39, List.forall_mem_cons.mpr ⟨lw_p40, List.forall_mem_cons.mpr ⟨lw_p41, List.forall_mem_cons.mpr ⟨lw_p42, List.forall_mem_cons.mpr ⟨lw_p43, List.forall_mem_cons.mpr ⟨lw_p44, List.forall_mem_cons.mpr ⟨lw_p45, List.forall_mem_cons.mpr ⟨lw_p46, List.forall_mem_cons.mpr ⟨lw_p47, fun _ h => absurd h List.not_mem_nil⟩⟩⟩⟩⟩⟩⟩⟩⟩⟩⟩⟩⟩⟩⟩⟩
theorem lw_p48 : lw_okq (⟨"RefusedTwiceModel", "isOpened", "(I)Z"⟩, 50) := ⟨⟨by decide +kernel, by decide +kernel⟩, List.mem_of_getElem? (i := 927) (by decide +kernel), List.mem_of_getElem? (i := 1214) (by decide +kernel), List.mem_of_getElem? (i := 1215) (by decide +kernel)⟩
theorem lw_p49 : lw_okq (⟨"RefusedTwiceModel", "codes", "(I)Z"⟩, 50) := ⟨⟨by decide +kernel, by decide +kernel⟩, List.mem_of_getElem? (i := 927) (by decide +kernel), List.mem_of_getElem? (i := 1218) (by decide +kernel), List.mem_of_getElem? (i := 1219) (by decide +kernel)⟩
theorem lw_p50 : lw_okq (⟨"RefusedTwiceModel", "isTest", "()Z"⟩, 50) := ⟨⟨by decide +kernel, by decide +kernel⟩, List.mem_of_getElem? (i := 927) (by decide +kernel), List.mem_of_getElem? (i := 1222) (by decide +kernel), List.mem_of_getElem? (i := 1223) (by decide +kernel)⟩
theorem lw_p51 : lw_okq (⟨"RefusedTwiceModel", "refuses", "(III)I"⟩, 50) := ⟨⟨by decide +kernel, by decide +kernel⟩, List.mem_of_getElem? (i := 927) (by decide +kernel), List.mem_of_getElem? (i := 1240) (by decide +kernel), List.mem_of_getElem? (i := 1241) (by decide +kernel)⟩
theorem lw_p52 : lw_okq (⟨"RefusedTwiceModel", "wedNow", "()I"⟩, 50) := ⟨⟨by decide +kernel, by decide +kernel⟩, List.mem_of_getElem? (i := 927) (by decide +kernel), List.mem_of_getElem? (i := 1248) (by decide +kernel), List.mem_of_getElem? (i := 1249) (by decide +kernel)⟩
theorem lw_p53 : lw_okq (⟨"RefusedTwiceModel", "allTallies", "()I"⟩, 50) := ⟨⟨by decide +kernel, by decide +kernel⟩, List.mem_of_getElem? (i := 927) (by decide +kernel), List.mem_of_getElem? (i := 1252) (by decide +kernel), List.mem_of_getElem? (i := 1253) (by decide +kernel)⟩
theorem lw_p54 : lw_okq (⟨"RefusedTwiceModel", "nearNow", "(I)I"⟩, 50) := ⟨⟨by decide +kernel, by decide +kernel⟩, List.mem_of_getElem? (i := 927) (by decide +kernel), List.mem_of_getElem? (i := 1256) (by decide +kernel), List.mem_of_getElem? (i := 1257) (by decide +kernel)⟩
theorem lw_p55 : lw_okq (⟨"RefusedTwiceModel", "isNear", "(II)Z"⟩, 50) := ⟨⟨by decide +kernel, by decide +kernel⟩, List.mem_of_getElem? (i := 927) (by decide +kernel), List.mem_of_getElem? (i := 1260) (by decide +kernel), List.mem_of_getElem? (i := 1261) (by decide +kernel)⟩
theorem lw_p56 : lw_okq (⟨"RefusedTwiceModel", "wall", "()I"⟩, 50) := ⟨⟨by decide +kernel, by decide +kernel⟩, List.mem_of_getElem? (i := 927) (by decide +kernel), List.mem_of_getElem? (i := 1264) (by decide +kernel), List.mem_of_getElem? (i := 1265) (by decide +kernel)⟩
theorem lw_p57 : lw_okq (⟨"RefusedTwiceModel", "isWall", "(I)Z"⟩, 50) := ⟨⟨by decide +kernel, by decide +kernel⟩, List.mem_of_getElem? (i := 927) (by decide +kernel), List.mem_of_getElem? (i := 1269) (by decide +kernel), List.mem_of_getElem? (i := 1270) (by decide +kernel)⟩
theorem lw_p58 : lw_okq (⟨"RefusedTwiceModel", "pairs", "(II)V"⟩, 50) := ⟨⟨by decide +kernel, by decide +kernel⟩, List.mem_of_getElem? (i := 927) (by decide +kernel), List.mem_of_getElem? (i := 1281) (by decide +kernel), List.mem_of_getElem? (i := 1282) (by decide +kernel)⟩
theorem lw_p59 : lw_okq (⟨"RefusedTwiceModel", "isSo", "(I)Z"⟩, 50) := ⟨⟨by decide +kernel, by decide +kernel⟩, List.mem_of_getElem? (i := 927) (by decide +kernel), List.mem_of_getElem? (i := 1293) (by decide +kernel), List.mem_of_getElem? (i := 1294) (by decide +kernel)⟩
theorem lw_p60 : lw_okq (⟨"RefusedTwiceModel", "isAllSo", "(I)Z"⟩, 50) := ⟨⟨by decide +kernel, by decide +kernel⟩, List.mem_of_getElem? (i := 927) (by decide +kernel), List.mem_of_getElem? (i := 1301) (by decide +kernel), List.mem_of_getElem? (i := 1302) (by decide +kernel)⟩
theorem lw_p61 : lw_okq (⟨"RefusedTwiceModel", "keep", "([I)V"⟩, 50) := ⟨⟨by decide +kernel, by decide +kernel⟩, List.mem_of_getElem? (i := 927) (by decide +kernel), List.mem_of_getElem? (i := 1325) (by decide +kernel), List.mem_of_getElem? (i := 1326) (by decide +kernel)⟩
theorem lw_p62 : lw_okq (⟨"RefusedTwiceModel", "again", "([I)V"⟩, 50) := ⟨⟨by decide +kernel, by decide +kernel⟩, List.mem_of_getElem? (i := 927) (by decide +kernel), List.mem_of_getElem? (i := 1329) (by decide +kernel), List.mem_of_getElem? (i := 1330) (by decide +kernel)⟩
theorem lw_p63 : lw_okq (⟨"RefusedTwiceModel", "shuns", "(III)I"⟩, 50) := ⟨⟨by decide +kernel, by decide +kernel⟩, List.mem_of_getElem? (i := 927) (by decide +kernel), List.mem_of_getElem? (i := 1357) (by decide +kernel), List.mem_of_getElem? (i := 1358) (by decide +kernel)⟩
def lw_privs_4 : List (MethodName × Nat) := [(⟨"RefusedTwiceModel", "isOpened", "(I)Z"⟩, 50), (⟨"RefusedTwiceModel", "codes", "(I)Z"⟩, 50), (⟨"RefusedTwiceModel", "isTest", "()Z"⟩, 50), (⟨"RefusedTwiceModel", "refuses", "(III)I"⟩, 50), (⟨"RefusedTwiceModel", "wedNow", "()I"⟩, 50), (⟨"RefusedTwiceModel", "allTallies", "()I"⟩, 50), (⟨"RefusedTwiceModel", "nearNow", "(I)I"⟩, 50), (⟨"RefusedTwiceModel", "isNear", "(II)Z"⟩, 50), (⟨"RefusedTwiceModel", "wall", "()I"⟩, 50), (⟨"RefusedTwiceModel", "isWall", "(I)Z"⟩, 50), (⟨"RefusedTwiceModel", "pairs", "(II)V"⟩, 50), (⟨"RefusedTwiceModel", "isSo", "(I)Z"⟩, 50), (⟨"RefusedTwiceModel", "isAllSo", "(I)Z"⟩, 50), (⟨"RefusedTwiceModel", "keep", "([I)V"⟩, 50), (⟨"RefusedTwiceModel", "again", "([I)V"⟩, 50), (⟨"RefusedTwiceModel", "shuns", "(III)I"⟩, 50)]
theorem lw_r4 : ∀ q ∈ lw_privs_4, lw_okq q := List.forall_mem_cons.mpr ⟨lw_p48, List.forall_mem_cons.mpr ⟨lw_p49, List.forall_mem_cons.mpr ⟨lw_p50, List.forall_mem_cons.mpr ⟨lw_p51, List.forall_mem_cons.mpr ⟨lw_p52, List.forall_mem_cons.mpr ⟨lw_p53, List.forall_mem_cons.mpr ⟨lw_p54, List.forall_mem_cons.mpr ⟨lw_p55, List.forall_mem_cons.mpr ⟨lw_p56, List.forall_mem_cons.mpr ⟨lw_p57, List.forall_mem_cons.mpr ⟨lw_p58, List.forall_mem_cons.mpr ⟨lw_p59, List.forall_mem_cons.mpr ⟨lw_p60, List.forall_mem_cons.mpr ⟨lw_p61, List.forall_mem_cons.mpr ⟨lw_p62, List.forall_mem_cons.mpr ⟨lw_p63, fun _ h => absurd h List.not_mem_nil⟩⟩⟩⟩⟩⟩⟩⟩⟩⟩⟩⟩⟩⟩⟩⟩
theorem lw_p64 : lw_okq (⟨"RefusedTwiceModel", "ran", "(I)V"⟩, 50) := ⟨⟨by decide +kernel, by decide +kernel⟩, List.mem_of_getElem? (i := 927) (by decide +kernel), List.mem_of_getElem? (i := 1361) (by decide +kernel), List.mem_of_getElem? (i := 1362) (by decide +kernel)⟩
theorem lw_p65 : lw_okq (⟨"RefusedTwiceModel", "scoffs", "(III)I"⟩, 50) := ⟨⟨by decide +kernel, by decide +kernel⟩, List.mem_of_getElem? (i := 927) (by decide +kernel), List.mem_of_getElem? (i := 1368) (by decide +kernel), List.mem_of_getElem? (i := 1369) (by decide +kernel)⟩
theorem lw_p66 : lw_okq (⟨"RefusedTwiceModel", "tells", "(III)I"⟩, 50) := ⟨⟨by decide +kernel, by decide +kernel⟩, List.mem_of_getElem? (i := 927) (by decide +kernel), List.mem_of_getElem? (i := 1372) (by decide +kernel), List.mem_of_getElem? (i := 1373) (by decide +kernel)⟩
def lw_privs_5 : List (MethodName × Nat) := [(⟨"RefusedTwiceModel", "ran", "(I)V"⟩, 50), (⟨"RefusedTwiceModel", "scoffs", "(III)I"⟩, 50), (⟨"RefusedTwiceModel", "tells", "(III)I"⟩, 50)]
theorem lw_r5 : ∀ q ∈ lw_privs_5, lw_okq q := List.forall_mem_cons.mpr ⟨lw_p64, List.forall_mem_cons.mpr ⟨lw_p65, List.forall_mem_cons.mpr ⟨lw_p66, fun _ h => absurd h List.not_mem_nil⟩⟩⟩
def lw_privs : List (MethodName × Nat) := lw_privs_1 ++ (lw_privs_2 ++ (lw_privs_3 ++ (lw_privs_4 ++ (lw_privs_5))))
def lw_tbl : List Cond := k2_sels lw_privs ++ tables_1
theorem lw_privs_ok : ∀ q ∈ lw_privs, lw_okq q := by
  show ∀ q ∈ lw_privs_1 ++ (lw_privs_2 ++ (lw_privs_3 ++ (lw_privs_4 ++ (lw_privs_5)))), lw_okq q
  exact List.forall_mem_append.mpr ⟨lw_r1, List.forall_mem_append.mpr ⟨lw_r2, List.forall_mem_append.mpr ⟨lw_r3, List.forall_mem_append.mpr ⟨lw_r4, lw_r5⟩⟩⟩⟩
-- ===== end of PART A =====
def RX0 : String := "RefusedTwice$Kind"
def TX0 : u_T := fun k => match k with
  | 0 => ("RefusedTwice$One", "kind", "I", true)
  | 1 => ("RefusedTwice$One", "number", "I", true)
  | 2 => ("RefusedTwice$One", "v", "I", true)
  | _ => ("RefusedTwice$One", "trace", "LRefusedTwice$Trace;", true)
def tyX0 : Nat → FieldType := fun k => match k with
  | 0 => .int
  | 1 => .int
  | 2 => .int
  | _ => .object "RefusedTwice$Trace"
theorem nmX0 : ∀ a, a < 4 → ∀ b, b < 4 → a ≠ b → (TX0 a).2.1 ≠ (TX0 b).2.1 := by decide +kernel
theorem tyX0_ok : ∀ k, k < 4 → parseFieldDescriptor (TX0 k).2.2.1 = some (tyX0 k) := by decide +kernel
abbrev cX0_init : ByteArray := prog_2_method_1_code
def yX0_init : MethodName := ⟨RX0, "<init>", "(IIILRefusedTwice$Trace;)V"⟩
abbrev cX0_wordsOf : ByteArray := prog_2_method_2_code
def yX0_wordsOf : MethodName := ⟨RX0, "wordsOf", "(LRefusedTwice$No;)I"⟩
abbrev cX0_scoffs : ByteArray := prog_2_method_3_code
def yX0_scoffs : MethodName := ⟨RX0, "scoffs", "(I)I"⟩
def RX1 : String := "RefusedTwice$Loud"
def TX1 : u_T := fun k => match k with
  | 0 => ("RefusedTwice$One", "kind", "I", true)
  | 1 => ("RefusedTwice$One", "number", "I", true)
  | 2 => ("RefusedTwice$One", "v", "I", true)
  | _ => ("RefusedTwice$One", "trace", "LRefusedTwice$Trace;", true)
def tyX1 : Nat → FieldType := fun k => match k with
  | 0 => .int
  | 1 => .int
  | 2 => .int
  | _ => .object "RefusedTwice$Trace"
theorem nmX1 : ∀ a, a < 4 → ∀ b, b < 4 → a ≠ b → (TX1 a).2.1 ≠ (TX1 b).2.1 := by decide +kernel
theorem tyX1_ok : ∀ k, k < 4 → parseFieldDescriptor (TX1 k).2.2.1 = some (tyX1 k) := by decide +kernel
abbrev cX1_init : ByteArray := prog_3_method_1_code
def yX1_init : MethodName := ⟨RX1, "<init>", "(IIILRefusedTwice$Trace;)V"⟩
abbrev cX1_wordsOf : ByteArray := prog_3_method_2_code
def yX1_wordsOf : MethodName := ⟨RX1, "wordsOf", "(LRefusedTwice$No;)I"⟩
abbrev cX1_tells : ByteArray := prog_3_method_3_code
def yX1_tells : MethodName := ⟨RX1, "tells", "(I)I"⟩
def RX2 : String := "RefusedTwice$Mute"
def TX2 : u_T := fun k => match k with
  | 0 => ("RefusedTwice$One", "kind", "I", true)
  | 1 => ("RefusedTwice$One", "number", "I", true)
  | 2 => ("RefusedTwice$One", "v", "I", true)
  | _ => ("RefusedTwice$One", "trace", "LRefusedTwice$Trace;", true)
def tyX2 : Nat → FieldType := fun k => match k with
  | 0 => .int
  | 1 => .int
  | 2 => .int
  | _ => .object "RefusedTwice$Trace"
theorem nmX2 : ∀ a, a < 4 → ∀ b, b < 4 → a ≠ b → (TX2 a).2.1 ≠ (TX2 b).2.1 := by decide +kernel
theorem tyX2_ok : ∀ k, k < 4 → parseFieldDescriptor (TX2 k).2.2.1 = some (tyX2 k) := by decide +kernel
abbrev cX2_init : ByteArray := prog_4_method_1_code
def yX2_init : MethodName := ⟨RX2, "<init>", "(IIILRefusedTwice$Trace;)V"⟩
abbrev cX2_wordsOf : ByteArray := prog_4_method_2_code
def yX2_wordsOf : MethodName := ⟨RX2, "wordsOf", "(LRefusedTwice$No;)I"⟩
abbrev cX2_tells : ByteArray := prog_4_method_3_code
def yX2_tells : MethodName := ⟨RX2, "tells", "(I)I"⟩
def RX3 : String := "RefusedTwice$No"
def TX3 : u_T := fun k => match k with
  | 0 => ("RefusedTwice$No", "values", "[I", true)
  | 1 => ("RefusedTwice$No", "v", "I", false)
  | 2 => ("RefusedTwice$No", "day", "I", false)
  | 3 => ("RefusedTwice$No", "used", "I", false)
  | 4 => ("RefusedTwice$No", "heard", "I", false)
  | _ => ("RefusedTwice$No", "rowToday", "I", false)
def tyX3 : Nat → FieldType := fun k => match k with
  | 0 => .array .int
  | 1 => .int
  | 2 => .int
  | 3 => .int
  | 4 => .int
  | _ => .int
theorem nmX3 : ∀ a, a < 6 → ∀ b, b < 6 → a ≠ b → (TX3 a).2.1 ≠ (TX3 b).2.1 := by decide +kernel
theorem tyX3_ok : ∀ k, k < 6 → parseFieldDescriptor (TX3 k).2.2.1 = some (tyX3 k) := by decide +kernel
abbrev cX3_init : ByteArray := prog_5_method_1_code
def yX3_init : MethodName := ⟨RX3, "<init>", "()V"⟩
def RX4 : String := "RefusedTwice$One"
def TX4 : u_T := fun k => match k with
  | 0 => ("RefusedTwice$One", "kind", "I", true)
  | 1 => ("RefusedTwice$One", "number", "I", true)
  | 2 => ("RefusedTwice$One", "v", "I", true)
  | _ => ("RefusedTwice$One", "trace", "LRefusedTwice$Trace;", true)
def tyX4 : Nat → FieldType := fun k => match k with
  | 0 => .int
  | 1 => .int
  | 2 => .int
  | _ => .object "RefusedTwice$Trace"
theorem nmX4 : ∀ a, a < 4 → ∀ b, b < 4 → a ≠ b → (TX4 a).2.1 ≠ (TX4 b).2.1 := by decide +kernel
theorem tyX4_ok : ∀ k, k < 4 → parseFieldDescriptor (TX4 k).2.2.1 = some (tyX4 k) := by decide +kernel
abbrev cX4_init : ByteArray := prog_6_method_1_code
def yX4_init : MethodName := ⟨RX4, "<init>", "(IIILRefusedTwice$Trace;)V"⟩
abbrev cX4_wordsOf : ByteArray := prog_6_method_2_code
def yX4_wordsOf : MethodName := ⟨RX4, "wordsOf", "(LRefusedTwice$No;)I"⟩
abbrev cX4_shuns : ByteArray := prog_6_method_3_code
def yX4_shuns : MethodName := ⟨RX4, "shuns", "(I)I"⟩
abbrev cX4_scoffs : ByteArray := prog_6_method_4_code
def yX4_scoffs : MethodName := ⟨RX4, "scoffs", "(I)I"⟩
abbrev cX4_tells : ByteArray := prog_6_method_5_code
def yX4_tells : MethodName := ⟨RX4, "tells", "(I)I"⟩
def RX5 : String := "RefusedTwice$Scorner"
def TX5 : u_T := fun k => match k with
  | 0 => ("RefusedTwice$One", "kind", "I", true)
  | 1 => ("RefusedTwice$One", "number", "I", true)
  | 2 => ("RefusedTwice$One", "v", "I", true)
  | _ => ("RefusedTwice$One", "trace", "LRefusedTwice$Trace;", true)
def tyX5 : Nat → FieldType := fun k => match k with
  | 0 => .int
  | 1 => .int
  | 2 => .int
  | _ => .object "RefusedTwice$Trace"
theorem nmX5 : ∀ a, a < 4 → ∀ b, b < 4 → a ≠ b → (TX5 a).2.1 ≠ (TX5 b).2.1 := by decide +kernel
theorem tyX5_ok : ∀ k, k < 4 → parseFieldDescriptor (TX5 k).2.2.1 = some (tyX5 k) := by decide +kernel
abbrev cX5_init : ByteArray := prog_7_method_1_code
def yX5_init : MethodName := ⟨RX5, "<init>", "(IIILRefusedTwice$Trace;)V"⟩
abbrev cX5_wordsOf : ByteArray := prog_7_method_2_code
def yX5_wordsOf : MethodName := ⟨RX5, "wordsOf", "(LRefusedTwice$No;)I"⟩
abbrev cX5_shuns : ByteArray := prog_7_method_3_code
def yX5_shuns : MethodName := ⟨RX5, "shuns", "(I)I"⟩
def RX6 : String := "RefusedTwice$Shy"
def TX6 : u_T := fun k => match k with
  | 0 => ("RefusedTwice$One", "kind", "I", true)
  | 1 => ("RefusedTwice$One", "number", "I", true)
  | 2 => ("RefusedTwice$One", "v", "I", true)
  | _ => ("RefusedTwice$One", "trace", "LRefusedTwice$Trace;", true)
def tyX6 : Nat → FieldType := fun k => match k with
  | 0 => .int
  | 1 => .int
  | 2 => .int
  | _ => .object "RefusedTwice$Trace"
theorem nmX6 : ∀ a, a < 4 → ∀ b, b < 4 → a ≠ b → (TX6 a).2.1 ≠ (TX6 b).2.1 := by decide +kernel
theorem tyX6_ok : ∀ k, k < 4 → parseFieldDescriptor (TX6 k).2.2.1 = some (tyX6 k) := by decide +kernel
abbrev cX6_init : ByteArray := prog_8_method_1_code
def yX6_init : MethodName := ⟨RX6, "<init>", "(IIILRefusedTwice$Trace;)V"⟩
abbrev cX6_wordsOf : ByteArray := prog_8_method_2_code
def yX6_wordsOf : MethodName := ⟨RX6, "wordsOf", "(LRefusedTwice$No;)I"⟩
abbrev cX6_shuns : ByteArray := prog_8_method_3_code
def yX6_shuns : MethodName := ⟨RX6, "shuns", "(I)I"⟩
abbrev cX6_scoffs : ByteArray := prog_8_method_4_code
def yX6_scoffs : MethodName := ⟨RX6, "scoffs", "(I)I"⟩
def RX7 : String := "RefusedTwice$Street"
def TX7 : u_T := fun k => match k with
  | 0 => ("RefusedTwice$Street", "begin", "I", false)
  | 1 => ("RefusedTwice$Street", "clauses", "I", false)
  | 2 => ("RefusedTwice$Street", "worth", "[I", true)
  | 3 => ("RefusedTwice$Street", "stepsEnd", "[I", true)
  | 4 => ("RefusedTwice$Street", "steps", "[I", true)
  | 5 => ("RefusedTwice$Street", "stepCount", "I", false)
  | 6 => ("RefusedTwice$Street", "loudness", "[I", true)
  | 7 => ("RefusedTwice$Street", "text", "[B", true)
  | 8 => ("RefusedTwice$Street", "size", "I", false)
  | _ => ("RefusedTwice$Street", "at", "I", false)
def tyX7 : Nat → FieldType := fun k => match k with
  | 0 => .int
  | 1 => .int
  | 2 => .array .int
  | 3 => .array .int
  | 4 => .array .int
  | 5 => .int
  | 6 => .array .int
  | 7 => .array .byte
  | 8 => .int
  | _ => .int
theorem nmX7 : ∀ a, a < 10 → ∀ b, b < 10 → a ≠ b → (TX7 a).2.1 ≠ (TX7 b).2.1 := by decide +kernel
theorem tyX7_ok : ∀ k, k < 10 → parseFieldDescriptor (TX7 k).2.2.1 = some (tyX7 k) := by decide +kernel
abbrev cX7_init : ByteArray := prog_9_method_1_code
def yX7_init : MethodName := ⟨RX7, "<init>", "()V"⟩
abbrev cX7_faultOf : ByteArray := prog_9_method_2_code
def yX7_faultOf : MethodName := ⟨RX7, "faultOf", "([BI)I"⟩
abbrev cX7_readsClause : ByteArray := prog_9_method_3_code
def yX7_readsClause : MethodName := ⟨RX7, "readsClause", "()Z"⟩
abbrev cX7_readWord : ByteArray := prog_9_method_4_code
def yX7_readWord : MethodName := ⟨RX7, "readWord", "()I"⟩
abbrev cX7_readsEither : ByteArray := prog_9_method_5_code
def yX7_readsEither : MethodName := ⟨RX7, "readsEither", "(I)Z"⟩
abbrev cX7_readsBoth : ByteArray := prog_9_method_6_code
def yX7_readsBoth : MethodName := ⟨RX7, "readsBoth", "(I)Z"⟩
abbrev cX7_readsSingle : ByteArray := prog_9_method_7_code
def yX7_readsSingle : MethodName := ⟨RX7, "readsSingle", "(I)Z"⟩
abbrev cX7_readsTest : ByteArray := prog_9_method_8_code
def yX7_readsTest : MethodName := ⟨RX7, "readsTest", "()Z"⟩
abbrev cX7_readNumber : ByteArray := prog_9_method_9_code
def yX7_readNumber : MethodName := ⟨RX7, "readNumber", "()I"⟩
abbrev cX7_takes : ByteArray := prog_9_method_10_code
def yX7_takes : MethodName := ⟨RX7, "takes", "(I)Z"⟩
abbrev cX7_takesAll : ByteArray := prog_9_method_11_code
def yX7_takesAll : MethodName := ⟨RX7, "takesAll", "(Ljava/lang/String;)Z"⟩
abbrev cX7_takesOneOf : ByteArray := prog_9_method_12_code
def yX7_takesOneOf : MethodName := ⟨RX7, "takesOneOf", "(Ljava/lang/String;)I"⟩
abbrev cX7_addStep : ByteArray := prog_9_method_13_code
def yX7_addStep : MethodName := ⟨RX7, "addStep", "(I)V"⟩
abbrev cX7_heardWords : ByteArray := prog_9_method_14_code
def yX7_heardWords : MethodName := ⟨RX7, "heardWords", "(LRefusedTwice$No;)I"⟩
abbrev cX7_wordsHolding : ByteArray := prog_9_method_15_code
def yX7_wordsHolding : MethodName := ⟨RX7, "wordsHolding", "(ILRefusedTwice$No;)I"⟩
abbrev cX7_wordsPassing : ByteArray := prog_9_method_16_code
def yX7_wordsPassing : MethodName := ⟨RX7, "wordsPassing", "(ILRefusedTwice$No;)I"⟩
def RX8 : String := "RefusedTwice$Told"
def TX8 : u_T := fun k => match k with
  | 0 => ("RefusedTwice$One", "kind", "I", true)
  | 1 => ("RefusedTwice$One", "number", "I", true)
  | 2 => ("RefusedTwice$One", "v", "I", true)
  | _ => ("RefusedTwice$One", "trace", "LRefusedTwice$Trace;", true)
def tyX8 : Nat → FieldType := fun k => match k with
  | 0 => .int
  | 1 => .int
  | 2 => .int
  | _ => .object "RefusedTwice$Trace"
theorem nmX8 : ∀ a, a < 4 → ∀ b, b < 4 → a ≠ b → (TX8 a).2.1 ≠ (TX8 b).2.1 := by decide +kernel
theorem tyX8_ok : ∀ k, k < 4 → parseFieldDescriptor (TX8 k).2.2.1 = some (tyX8 k) := by decide +kernel
abbrev cX8_init : ByteArray := prog_10_method_1_code
def yX8_init : MethodName := ⟨RX8, "<init>", "(IIILRefusedTwice$Trace;)V"⟩
abbrev cX8_wordsOf : ByteArray := prog_10_method_2_code
def yX8_wordsOf : MethodName := ⟨RX8, "wordsOf", "(LRefusedTwice$No;)I"⟩
abbrev cX8_scoffs : ByteArray := prog_10_method_3_code
def yX8_scoffs : MethodName := ⟨RX8, "scoffs", "(I)I"⟩
abbrev cX8_shuns : ByteArray := prog_10_method_4_code
def yX8_shuns : MethodName := ⟨RX8, "shuns", "(I)I"⟩
def RX9 : String := "RefusedTwice$Town"
def TX9 : u_T := fun k => match k with
  | 0 => ("RefusedTwice$Town", "people", "I", false)
  | 1 => ("RefusedTwice$Town", "who", "[LRefusedTwice$One;", true)
  | 2 => ("RefusedTwice$Town", "wed", "[I", true)
  | 3 => ("RefusedTwice$Town", "rows", "[I", true)
  | 4 => ("RefusedTwice$Town", "tally", "[I", true)
  | 5 => ("RefusedTwice$Town", "used", "[I", true)
  | 6 => ("RefusedTwice$Town", "last", "[I", true)
  | 7 => ("RefusedTwice$Town", "day", "I", false)
  | 8 => ("RefusedTwice$Town", "held", "LRefusedTwice$Street;", false)
  | 9 => ("RefusedTwice$Town", "said", "[I", true)
  | 10 => ("RefusedTwice$Town", "saidRows", "I", false)
  | 11 => ("RefusedTwice$Town", "plan", "[I", true)
  | 12 => ("RefusedTwice$Town", "planRows", "I", false)
  | 13 => ("RefusedTwice$Town", "book", "[I", true)
  | 14 => ("RefusedTwice$Town", "bookRows", "I", false)
  | _ => ("RefusedTwice$Town", "no", "LRefusedTwice$No;", true)
def tyX9 : Nat → FieldType := fun k => match k with
  | 0 => .int
  | 1 => .array (.object "RefusedTwice$One")
  | 2 => .array .int
  | 3 => .array .int
  | 4 => .array .int
  | 5 => .array .int
  | 6 => .array .int
  | 7 => .int
  | 8 => .object "RefusedTwice$Street"
  | 9 => .array .int
  | 10 => .int
  | 11 => .array .int
  | 12 => .int
  | 13 => .array .int
  | 14 => .int
  | _ => .object "RefusedTwice$No"
theorem nmX9 : ∀ a, a < 16 → ∀ b, b < 16 → a ≠ b → (TX9 a).2.1 ≠ (TX9 b).2.1 := by decide +kernel
theorem tyX9_ok : ∀ k, k < 16 → parseFieldDescriptor (TX9 k).2.2.1 = some (tyX9 k) := by decide +kernel
abbrev cX9_init : ByteArray := prog_11_method_1_code
def yX9_init : MethodName := ⟨RX9, "<init>", "()V"⟩
abbrev cX9_pair : ByteArray := prog_11_method_2_code
def yX9_pair : MethodName := ⟨RX9, "pair", "(II)I"⟩
abbrev cX9_has : ByteArray := prog_11_method_3_code
def yX9_has : MethodName := ⟨RX9, "has", "(I)Z"⟩
abbrev cX9_firstDay : ByteArray := prog_11_method_4_code
def yX9_firstDay : MethodName := ⟨RX9, "firstDay", "()I"⟩
abbrev cX9_welcomes : ByteArray := prog_11_method_5_code
def yX9_welcomes : MethodName := ⟨RX9, "welcomes", "(LRefusedTwice$One;)I"⟩
abbrev cX9_becomes : ByteArray := prog_11_method_6_code
def yX9_becomes : MethodName := ⟨RX9, "becomes", "(LRefusedTwice$Town;)V"⟩
abbrev cX9_forget : ByteArray := prog_11_method_7_code
def yX9_forget : MethodName := ⟨RX9, "forget", "(II)V"⟩
abbrev cX9_readies : ByteArray := prog_11_method_8_code
def yX9_readies : MethodName := ⟨RX9, "readies", "(IIII)Z"⟩
abbrev cX9_countingWords : ByteArray := prog_11_method_9_code
def yX9_countingWords : MethodName := ⟨RX9, "countingWords", "(IIII)I"⟩
abbrev cX9_hearsNo : ByteArray := prog_11_method_10_code
def yX9_hearsNo : MethodName := ⟨RX9, "hearsNo", "(III)I"⟩
abbrev cX9_part : ByteArray := prog_11_method_11_code
def yX9_part : MethodName := ⟨RX9, "part", "(II)V"⟩
abbrev cX9_twice : ByteArray := prog_11_method_12_code
def yX9_twice : MethodName := ⟨RX9, "twice", "(II)I"⟩
abbrev cX9_secondCounts : ByteArray := prog_11_method_13_code
def yX9_secondCounts : MethodName := ⟨RX9, "secondCounts", "(II)Z"⟩
abbrev cX9_awaited : ByteArray := prog_11_method_14_code
def yX9_awaited : MethodName := ⟨RX9, "awaited", "(II)I"⟩
abbrev cX9_isNear : ByteArray := prog_11_method_15_code
def yX9_isNear : MethodName := ⟨RX9, "isNear", "(II)Z"⟩
abbrev cX9_nearPairs : ByteArray := prog_11_method_16_code
def yX9_nearPairs : MethodName := ⟨RX9, "nearPairs", "()I"⟩
abbrev cX9_firstNear : ByteArray := prog_11_method_17_code
def yX9_firstNear : MethodName := ⟨RX9, "firstNear", "()I"⟩
abbrev cX9_wall : ByteArray := prog_11_method_18_code
def yX9_wall : MethodName := ⟨RX9, "wall", "()I"⟩
abbrev cX9_isWall : ByteArray := prog_11_method_19_code
def yX9_isWall : MethodName := ⟨RX9, "isWall", "(I)Z"⟩
abbrev cX9_talliesBy : ByteArray := prog_11_method_20_code
def yX9_talliesBy : MethodName := ⟨RX9, "talliesBy", "(I)I"⟩
abbrev cX9_talliesTo : ByteArray := prog_11_method_21_code
def yX9_talliesTo : MethodName := ⟨RX9, "talliesTo", "(I)I"⟩
abbrev cX9_tallies : ByteArray := prog_11_method_22_code
def yX9_tallies : MethodName := ⟨RX9, "tallies", "()I"⟩
abbrev cX9_wedOnes : ByteArray := prog_11_method_23_code
def yX9_wedOnes : MethodName := ⟨RX9, "wedOnes", "()I"⟩
abbrev cX9_isSo : ByteArray := prog_11_method_24_code
def yX9_isSo : MethodName := ⟨RX9, "isSo", "(II)Z"⟩
abbrev cX9_couldSay : ByteArray := prog_11_method_25_code
def yX9_couldSay : MethodName := ⟨RX9, "couldSay", "(II)Z"⟩
def RX10 : String := "RefusedTwice$Trace"
def TX10 : u_T := fun k => match k with
  | 0 => ("RefusedTwice$Trace", "bodies", "[I", true)
  | _ => ("RefusedTwice$Trace", "ran", "I", false)
def tyX10 : Nat → FieldType := fun k => match k with
  | 0 => .array .int
  | _ => .int
theorem nmX10 : ∀ a, a < 2 → ∀ b, b < 2 → a ≠ b → (TX10 a).2.1 ≠ (TX10 b).2.1 := by decide +kernel
theorem tyX10_ok : ∀ k, k < 2 → parseFieldDescriptor (TX10 k).2.2.1 = some (tyX10 k) := by decide +kernel
abbrev cX10_init : ByteArray := prog_12_method_1_code
def yX10_init : MethodName := ⟨RX10, "<init>", "()V"⟩
abbrev cX10_begins : ByteArray := prog_12_method_2_code
def yX10_begins : MethodName := ⟨RX10, "begins", "(I)V"⟩
def RX11 : String := "RefusedTwice"
def TX11 : u_T := fun k => match k with
  | 0 => ("RefusedTwice", "now", "LRefusedTwice$Town;", true)
  | 1 => ("RefusedTwice", "kept", "LRefusedTwice$Town;", true)
  | 2 => ("RefusedTwice", "trial", "LRefusedTwice$Town;", true)
  | 3 => ("RefusedTwice", "hasImage", "Z", false)
  | 4 => ("RefusedTwice", "text", "[B", true)
  | 5 => ("RefusedTwice", "textSize", "I", false)
  | 6 => ("RefusedTwice", "streets", "[LRefusedTwice$Street;", true)
  | 7 => ("RefusedTwice", "streetCount", "I", false)
  | 8 => ("RefusedTwice", "laterFriends", "[I", true)
  | 9 => ("RefusedTwice", "mostPairs", "[I", true)
  | 10 => ("RefusedTwice", "trace", "LRefusedTwice$Trace;", true)
  | 11 => ("RefusedTwice", "tapes", "[[J", true)
  | 12 => ("RefusedTwice", "tapeSorts", "[I", true)
  | _ => ("RefusedTwice", "tapeSizes", "[I", true)
def tyX11 : Nat → FieldType := fun k => match k with
  | 0 => .object "RefusedTwice$Town"
  | 1 => .object "RefusedTwice$Town"
  | 2 => .object "RefusedTwice$Town"
  | 3 => .boolean
  | 4 => .array .byte
  | 5 => .int
  | 6 => .array (.object "RefusedTwice$Street")
  | 7 => .int
  | 8 => .array .int
  | 9 => .array .int
  | 10 => .object "RefusedTwice$Trace"
  | 11 => .array (.array .long)
  | 12 => .array .int
  | _ => .array .int
theorem nmX11 : ∀ a, a < 14 → ∀ b, b < 14 → a ≠ b → (TX11 a).2.1 ≠ (TX11 b).2.1 := by decide +kernel
theorem tyX11_ok : ∀ k, k < 14 → parseFieldDescriptor (TX11 k).2.2.1 = some (tyX11 k) := by decide +kernel
abbrev cX11_init : ByteArray := prog_1_method_1_code
def yX11_init : MethodName := ⟨RX11, "<init>", "()V"⟩
abbrev cX11_one : ByteArray := prog_1_method_2_code
def yX11_one : MethodName := ⟨RX11, "one", "(II)I"⟩
abbrev cX11_of : ByteArray := prog_1_method_3_code
def yX11_of : MethodName := ⟨RX11, "of", "(II)I"⟩
abbrev cX11_between : ByteArray := prog_1_method_4_code
def yX11_between : MethodName := ⟨RX11, "between", "(III)I"⟩
abbrev cX11_counts : ByteArray := prog_1_method_5_code
def yX11_counts : MethodName := ⟨RX11, "counts", "(III)I"⟩
abbrev cX11_refuse : ByteArray := prog_1_method_6_code
def yX11_refuse : MethodName := ⟨RX11, "refuse", "(III)I"⟩
abbrev cX11_row : ByteArray := prog_1_method_7_code
def yX11_row : MethodName := ⟨RX11, "row", "(III)I"⟩
abbrev cX11_feed : ByteArray := prog_1_method_8_code
def yX11_feed : MethodName := ⟨RX11, "feed", "(I)I"⟩
abbrev cX11_street : ByteArray := prog_1_method_9_code
def yX11_street : MethodName := ⟨RX11, "street", "()I"⟩
abbrev cX11_told : ByteArray := prog_1_method_10_code
def yX11_told : MethodName := ⟨RX11, "told", "(I)I"⟩
abbrev cX11_pass : ByteArray := prog_1_method_11_code
def yX11_pass : MethodName := ⟨RX11, "pass", "(I)I"⟩
abbrev cX11_match : ByteArray := prog_1_method_12_code
def yX11_match : MethodName := ⟨RX11, "match", "(II)I"⟩
abbrev cX11_say : ByteArray := prog_1_method_13_code
def yX11_say : MethodName := ⟨RX11, "say", "(IIIIZ)I"⟩
abbrev cX11_wrong : ByteArray := prog_1_method_14_code
def yX11_wrong : MethodName := ⟨RX11, "wrong", "()I"⟩
abbrev cX11_can : ByteArray := prog_1_method_15_code
def yX11_can : MethodName := ⟨RX11, "can", "(II)I"⟩
abbrev cX11_odds : ByteArray := prog_1_method_16_code
def yX11_odds : MethodName := ⟨RX11, "odds", "(III)J"⟩
abbrev cX11_mean : ByteArray := prog_1_method_17_code
def yX11_mean : MethodName := ⟨RX11, "mean", "(I)J"⟩
abbrev cX11_plan : ByteArray := prog_1_method_18_code
def yX11_plan : MethodName := ⟨RX11, "plan", "(II)I"⟩
abbrev cX11_ends : ByteArray := prog_1_method_19_code
def yX11_ends : MethodName := ⟨RX11, "ends", "(I)I"⟩
abbrev cX11_book : ByteArray := prog_1_method_20_code
def yX11_book : MethodName := ⟨RX11, "book", "(III)I"⟩
abbrev cX11_looked : ByteArray := prog_1_method_21_code
def yX11_looked : MethodName := ⟨RX11, "looked", "()I"⟩
abbrev cX11_judge : ByteArray := prog_1_method_22_code
def yX11_judge : MethodName := ⟨RX11, "judge", "(II)I"⟩
abbrev cX11_image : ByteArray := prog_1_method_23_code
def yX11_image : MethodName := ⟨RX11, "image", "()I"⟩
abbrev cX11_undo : ByteArray := prog_1_method_24_code
def yX11_undo : MethodName := ⟨RX11, "undo", "()I"⟩
abbrev cX11_act : ByteArray := prog_1_method_25_code
def yX11_act : MethodName := ⟨RX11, "act", "(III)I"⟩
abbrev cX11_trace : ByteArray := prog_1_method_26_code
def yX11_trace : MethodName := ⟨RX11, "trace", "(I)I"⟩
abbrev cX11_taken : ByteArray := prog_1_method_27_code
def yX11_taken : MethodName := ⟨RX11, "taken", "(II)I"⟩
abbrev cX11_count : ByteArray := prog_1_method_28_code
def yX11_count : MethodName := ⟨RX11, "count", "(I)I"⟩
abbrev cX11_tape : ByteArray := prog_1_method_29_code
def yX11_tape : MethodName := ⟨RX11, "tape", "(III)I"⟩
abbrev cX11_item : ByteArray := prog_1_method_30_code
def yX11_item : MethodName := ⟨RX11, "item", "(IIJ)I"⟩
abbrev cX11_read : ByteArray := prog_1_method_31_code
def yX11_read : MethodName := ⟨RX11, "read", "(II)J"⟩
abbrev cX11_shift : ByteArray := prog_1_method_32_code
def yX11_shift : MethodName := ⟨RX11, "shift", "(IIIII)I"⟩
abbrev cX11_isWithin : ByteArray := prog_1_method_33_code
def yX11_isWithin : MethodName := ⟨RX11, "isWithin", "(II)Z"⟩
abbrev cX11_isTape : ByteArray := prog_1_method_34_code
def yX11_isTape : MethodName := ⟨RX11, "isTape", "(I)Z"⟩
abbrev cX11_hasBit : ByteArray := prog_1_method_35_code
def yX11_hasBit : MethodName := ⟨RX11, "hasBit", "(II)Z"⟩
abbrev cX11_firstBit : ByteArray := prog_1_method_36_code
def yX11_firstBit : MethodName := ⟨RX11, "firstBit", "(I)I"⟩
abbrev cX11_tens : ByteArray := prog_1_method_37_code
def yX11_tens : MethodName := ⟨RX11, "tens", "(I)I"⟩
abbrev cX11_ones : ByteArray := prog_1_method_38_code
def yX11_ones : MethodName := ⟨RX11, "ones", "(I)I"⟩
abbrev cX11_faultOfNo : ByteArray := prog_1_method_39_code
def yX11_faultOfNo : MethodName := ⟨RX11, "faultOfNo", "(III)I"⟩
abbrev cX11_partOfFraction : ByteArray := prog_1_method_40_code
def yX11_partOfFraction : MethodName := ⟨RX11, "partOfFraction", "(III)J"⟩
abbrev cX11_newcomer : ByteArray := prog_1_method_41_code
def yX11_newcomer : MethodName := ⟨RX11, "newcomer", "(II)LRefusedTwice$One;"⟩
abbrev cX11_isOfKind : ByteArray := prog_1_method_42_code
def yX11_isOfKind : MethodName := ⟨RX11, "isOfKind", "(LRefusedTwice$One;I)Z"⟩
abbrev cX11_narrowed : ByteArray := prog_1_method_43_code
def yX11_narrowed : MethodName := ⟨RX11, "narrowed", "(IJ)J"⟩
abbrev cX11_everybody : ByteArray := prog_1_method_44_code
def yX11_everybody : MethodName := ⟨RX11, "everybody", "()I"⟩
abbrev cX11_findMostPairs : ByteArray := prog_1_method_45_code
def yX11_findMostPairs : MethodName := ⟨RX11, "findMostPairs", "()V"⟩
abbrev cX11_mateOf : ByteArray := prog_1_method_46_code
def yX11_mateOf : MethodName := ⟨RX11, "mateOf", "(I)I"⟩
abbrev cX11_firstMate : ByteArray := prog_1_method_47_code
def yX11_firstMate : MethodName := ⟨RX11, "firstMate", "(II)I"⟩
def RX12 : String := "RefusedTwiceModel"
def TX12 : u_T := fun k => match k with
  | 0 => ("RefusedTwiceModel", "people", "I", false)
  | 1 => ("RefusedTwiceModel", "kind", "[I", true)
  | 2 => ("RefusedTwiceModel", "v", "[I", true)
  | 3 => ("RefusedTwiceModel", "wed", "[I", true)
  | 4 => ("RefusedTwiceModel", "rows", "[I", true)
  | 5 => ("RefusedTwiceModel", "tally", "[I", true)
  | 6 => ("RefusedTwiceModel", "used", "[I", true)
  | 7 => ("RefusedTwiceModel", "last", "[I", true)
  | 8 => ("RefusedTwiceModel", "day", "I", false)
  | 9 => ("RefusedTwiceModel", "texted", "I", false)
  | 10 => ("RefusedTwiceModel", "text", "[I", true)
  | 11 => ("RefusedTwiceModel", "at", "I", false)
  | 12 => ("RefusedTwiceModel", "value", "I", false)
  | 13 => ("RefusedTwiceModel", "digits", "I", false)
  | 14 => ("RefusedTwiceModel", "open", "I", false)
  | 15 => ("RefusedTwiceModel", "streets", "I", false)
  | 16 => ("RefusedTwiceModel", "holds", "I", false)
  | 17 => ("RefusedTwiceModel", "clauses", "[I", true)
  | 18 => ("RefusedTwiceModel", "word", "[I", true)
  | 19 => ("RefusedTwiceModel", "number", "[I", true)
  | 20 => ("RefusedTwiceModel", "begins", "[I", true)
  | 21 => ("RefusedTwiceModel", "length", "[I", true)
  | 22 => ("RefusedTwiceModel", "code", "[I", true)
  | 23 => ("RefusedTwiceModel", "coded", "I", false)
  | 24 => ("RefusedTwiceModel", "stack", "[Z", true)
  | 25 => ("RefusedTwiceModel", "said", "I", false)
  | 26 => ("RefusedTwiceModel", "saidBy", "[I", true)
  | 27 => ("RefusedTwiceModel", "saidTo", "[I", true)
  | 28 => ("RefusedTwiceModel", "saidWord", "[I", true)
  | 29 => ("RefusedTwiceModel", "saidIn", "[I", true)
  | 30 => ("RefusedTwiceModel", "saidSo", "[I", true)
  | 31 => ("RefusedTwiceModel", "inPlan", "I", false)
  | 32 => ("RefusedTwiceModel", "goes", "[I", true)
  | 33 => ("RefusedTwiceModel", "whose", "[I", true)
  | 34 => ("RefusedTwiceModel", "inBook", "I", false)
  | 35 => ("RefusedTwiceModel", "bookBy", "[I", true)
  | 36 => ("RefusedTwiceModel", "bookTo", "[I", true)
  | 37 => ("RefusedTwiceModel", "bookTally", "[I", true)
  | 38 => ("RefusedTwiceModel", "traced", "I", false)
  | 39 => ("RefusedTwiceModel", "traces", "[I", true)
  | 40 => ("RefusedTwiceModel", "imaged", "Z", false)
  | 41 => ("RefusedTwiceModel", "image", "[I", true)
  | 42 => ("RefusedTwiceModel", "ahead", "[I", true)
  | 43 => ("RefusedTwiceModel", "can", "[Z", true)
  | 44 => ("RefusedTwiceModel", "with", "[I", true)
  | 45 => ("RefusedTwiceModel", "best", "[I", true)
  | 46 => ("RefusedTwiceModel", "most", "I", false)
  | 47 => ("RefusedTwiceModel", "tapeSort", "[I", true)
  | 48 => ("RefusedTwiceModel", "tapeSize", "[I", true)
  | _ => ("RefusedTwiceModel", "items", "[J", true)
def tyX12 : Nat → FieldType := fun k => match k with
  | 0 => .int
  | 1 => .array .int
  | 2 => .array .int
  | 3 => .array .int
  | 4 => .array .int
  | 5 => .array .int
  | 6 => .array .int
  | 7 => .array .int
  | 8 => .int
  | 9 => .int
  | 10 => .array .int
  | 11 => .int
  | 12 => .int
  | 13 => .int
  | 14 => .int
  | 15 => .int
  | 16 => .int
  | 17 => .array .int
  | 18 => .array .int
  | 19 => .array .int
  | 20 => .array .int
  | 21 => .array .int
  | 22 => .array .int
  | 23 => .int
  | 24 => .array .boolean
  | 25 => .int
  | 26 => .array .int
  | 27 => .array .int
  | 28 => .array .int
  | 29 => .array .int
  | 30 => .array .int
  | 31 => .int
  | 32 => .array .int
  | 33 => .array .int
  | 34 => .int
  | 35 => .array .int
  | 36 => .array .int
  | 37 => .array .int
  | 38 => .int
  | 39 => .array .int
  | 40 => .boolean
  | 41 => .array .int
  | 42 => .array .int
  | 43 => .array .boolean
  | 44 => .array .int
  | 45 => .array .int
  | 46 => .int
  | 47 => .array .int
  | 48 => .array .int
  | _ => .array .long
theorem nmX12 : ∀ a, a < 50 → ∀ b, b < 50 → a ≠ b → (TX12 a).2.1 ≠ (TX12 b).2.1 := by decide +kernel
theorem tyX12_ok : ∀ k, k < 50 → parseFieldDescriptor (TX12 k).2.2.1 = some (tyX12 k) := by decide +kernel
abbrev cX12_init : ByteArray := prog_14_method_1_code
def yX12_init : MethodName := ⟨RX12, "<init>", "()V"⟩
abbrev cX12_within : ByteArray := prog_14_method_2_code
def yX12_within : MethodName := ⟨RX12, "within", "(III)Z"⟩
abbrev cX12_isOne : ByteArray := prog_14_method_3_code
def yX12_isOne : MethodName := ⟨RX12, "isOne", "(I)Z"⟩
abbrev cX12_are : ByteArray := prog_14_method_4_code
def yX12_are : MethodName := ⟨RX12, "are", "(II)Z"⟩
abbrev cX12_isWord : ByteArray := prog_14_method_5_code
def yX12_isWord : MethodName := ⟨RX12, "isWord", "(I)Z"⟩
abbrev cX12_one : ByteArray := prog_14_method_6_code
def yX12_one : MethodName := ⟨RX12, "one", "(II)I"⟩
abbrev cX12_clears : ByteArray := prog_14_method_7_code
def yX12_clears : MethodName := ⟨RX12, "clears", "(I)V"⟩
abbrev cX12_byOne : ByteArray := prog_14_method_8_code
def yX12_byOne : MethodName := ⟨RX12, "byOne", "(I)I"⟩
abbrev cX12_toOne : ByteArray := prog_14_method_9_code
def yX12_toOne : MethodName := ⟨RX12, "toOne", "(I)I"⟩
abbrev cX12_of : ByteArray := prog_14_method_10_code
def yX12_of : MethodName := ⟨RX12, "of", "(II)I"⟩
abbrev cX12_between : ByteArray := prog_14_method_11_code
def yX12_between : MethodName := ⟨RX12, "between", "(III)I"⟩
abbrev cX12_row : ByteArray := prog_14_method_12_code
def yX12_row : MethodName := ⟨RX12, "row", "(III)I"⟩
abbrev cX12_feed : ByteArray := prog_14_method_13_code
def yX12_feed : MethodName := ⟨RX12, "feed", "(I)I"⟩
abbrev cX12_is : ByteArray := prog_14_method_14_code
def yX12_is : MethodName := ⟨RX12, "is", "(I)Z"⟩
abbrev cX12_isDigit : ByteArray := prog_14_method_15_code
def yX12_isDigit : MethodName := ⟨RX12, "isDigit", "()Z"⟩
abbrev cX12_isNumber : ByteArray := prog_14_method_16_code
def yX12_isNumber : MethodName := ⟨RX12, "isNumber", "()Z"⟩
abbrev cX12_isAll : ByteArray := prog_14_method_17_code
def yX12_isAll : MethodName := ⟨RX12, "isAll", "(Ljava/lang/String;)Z"⟩
abbrev cX12_codes : ByteArray := prog_14_method_18_code
def yX12_codes : MethodName := ⟨RX12, "codes", "(I)Z"⟩
abbrev cX12_isTest : ByteArray := prog_14_method_19_code
def yX12_isTest : MethodName := ⟨RX12, "isTest", "()Z"⟩
abbrev cX12_isOpened : ByteArray := prog_14_method_20_code
def yX12_isOpened : MethodName := ⟨RX12, "isOpened", "(I)Z"⟩
abbrev cX12_isF : ByteArray := prog_14_method_21_code
def yX12_isF : MethodName := ⟨RX12, "isF", "()Z"⟩
abbrev cX12_isT : ByteArray := prog_14_method_22_code
def yX12_isT : MethodName := ⟨RX12, "isT", "()Z"⟩
abbrev cX12_isE : ByteArray := prog_14_method_23_code
def yX12_isE : MethodName := ⟨RX12, "isE", "()Z"⟩
abbrev cX12_isClause : ByteArray := prog_14_method_24_code
def yX12_isClause : MethodName := ⟨RX12, "isClause", "(I)Z"⟩
abbrev cX12_street : ByteArray := prog_14_method_25_code
def yX12_street : MethodName := ⟨RX12, "street", "()I"⟩
abbrev cX12_letterOf : ByteArray := prog_14_method_26_code
def yX12_letterOf : MethodName := ⟨RX12, "letterOf", "(IIIII)I"⟩
abbrev cX12_isTrue : ByteArray := prog_14_method_27_code
def yX12_isTrue : MethodName := ⟨RX12, "isTrue", "(IIIII)Z"⟩
abbrev cX12_isHeard : ByteArray := prog_14_method_28_code
def yX12_isHeard : MethodName := ⟨RX12, "isHeard", "(IIII)Z"⟩
abbrev cX12_begin : ByteArray := prog_14_method_29_code
def yX12_begin : MethodName := ⟨RX12, "begin", "()I"⟩
abbrev cX12_doesCount : ByteArray := prog_14_method_30_code
def yX12_doesCount : MethodName := ⟨RX12, "doesCount", "(IIIIII)Z"⟩
abbrev cX12_countsNow : ByteArray := prog_14_method_31_code
def yX12_countsNow : MethodName := ⟨RX12, "countsNow", "(III)Z"⟩
abbrev cX12_counts : ByteArray := prog_14_method_32_code
def yX12_counts : MethodName := ⟨RX12, "counts", "(III)I"⟩
abbrev cX12_refuses : ByteArray := prog_14_method_33_code
def yX12_refuses : MethodName := ⟨RX12, "refuses", "(III)I"⟩
abbrev cX12_refuse : ByteArray := prog_14_method_34_code
def yX12_refuse : MethodName := ⟨RX12, "refuse", "(III)I"⟩
abbrev cX12_wedNow : ByteArray := prog_14_method_35_code
def yX12_wedNow : MethodName := ⟨RX12, "wedNow", "()I"⟩
abbrev cX12_allTallies : ByteArray := prog_14_method_36_code
def yX12_allTallies : MethodName := ⟨RX12, "allTallies", "()I"⟩
abbrev cX12_told : ByteArray := prog_14_method_37_code
def yX12_told : MethodName := ⟨RX12, "told", "(I)I"⟩
abbrev cX12_pass : ByteArray := prog_14_method_38_code
def yX12_pass : MethodName := ⟨RX12, "pass", "(I)I"⟩
abbrev cX12_firstWord : ByteArray := prog_14_method_39_code
def yX12_firstWord : MethodName := ⟨RX12, "firstWord", "(II)I"⟩
abbrev cX12_any : ByteArray := prog_14_method_40_code
def yX12_any : MethodName := ⟨RX12, "any", "(IIIII)Z"⟩
abbrev cX12_twice : ByteArray := prog_14_method_41_code
def yX12_twice : MethodName := ⟨RX12, "twice", "(II)I"⟩
abbrev cX12_isTwo : ByteArray := prog_14_method_42_code
def yX12_isTwo : MethodName := ⟨RX12, "isTwo", "(III)Z"⟩
abbrev cX12_await : ByteArray := prog_14_method_43_code
def yX12_await : MethodName := ⟨RX12, "await", "(II)I"⟩
abbrev cX12_isNear : ByteArray := prog_14_method_44_code
def yX12_isNear : MethodName := ⟨RX12, "isNear", "(II)Z"⟩
abbrev cX12_nearNow : ByteArray := prog_14_method_45_code
def yX12_nearNow : MethodName := ⟨RX12, "nearNow", "(I)I"⟩
abbrev cX12_isWall : ByteArray := prog_14_method_46_code
def yX12_isWall : MethodName := ⟨RX12, "isWall", "(I)Z"⟩
abbrev cX12_wall : ByteArray := prog_14_method_47_code
def yX12_wall : MethodName := ⟨RX12, "wall", "()I"⟩
abbrev cX12_pairs : ByteArray := prog_14_method_48_code
def yX12_pairs : MethodName := ⟨RX12, "pairs", "(II)V"⟩
abbrev cX12_match : ByteArray := prog_14_method_49_code
def yX12_match : MethodName := ⟨RX12, "match", "(II)I"⟩
abbrev cX12_say : ByteArray := prog_14_method_50_code
def yX12_say : MethodName := ⟨RX12, "say", "(IIIIZ)I"⟩
abbrev cX12_isSo : ByteArray := prog_14_method_51_code
def yX12_isSo : MethodName := ⟨RX12, "isSo", "(I)Z"⟩
abbrev cX12_wrong : ByteArray := prog_14_method_52_code
def yX12_wrong : MethodName := ⟨RX12, "wrong", "()I"⟩
abbrev cX12_isAllSo : ByteArray := prog_14_method_53_code
def yX12_isAllSo : MethodName := ⟨RX12, "isAllSo", "(I)Z"⟩
abbrev cX12_can : ByteArray := prog_14_method_54_code
def yX12_can : MethodName := ⟨RX12, "can", "(II)I"⟩
abbrev cX12_part : ByteArray := prog_14_method_55_code
def yX12_part : MethodName := ⟨RX12, "part", "(III)J"⟩
abbrev cX12_odds : ByteArray := prog_14_method_56_code
def yX12_odds : MethodName := ⟨RX12, "odds", "(III)J"⟩
abbrev cX12_mean : ByteArray := prog_14_method_57_code
def yX12_mean : MethodName := ⟨RX12, "mean", "(I)J"⟩
abbrev cX12_plan : ByteArray := prog_14_method_58_code
def yX12_plan : MethodName := ⟨RX12, "plan", "(II)I"⟩
abbrev cX12_ends : ByteArray := prog_14_method_59_code
def yX12_ends : MethodName := ⟨RX12, "ends", "(I)I"⟩
abbrev cX12_book : ByteArray := prog_14_method_60_code
def yX12_book : MethodName := ⟨RX12, "book", "(III)I"⟩
abbrev cX12_looked : ByteArray := prog_14_method_61_code
def yX12_looked : MethodName := ⟨RX12, "looked", "()I"⟩
abbrev cX12_judge : ByteArray := prog_14_method_62_code
def yX12_judge : MethodName := ⟨RX12, "judge", "(II)I"⟩
abbrev cX12_keep : ByteArray := prog_14_method_63_code
def yX12_keep : MethodName := ⟨RX12, "keep", "([I)V"⟩
abbrev cX12_again : ByteArray := prog_14_method_64_code
def yX12_again : MethodName := ⟨RX12, "again", "([I)V"⟩
abbrev cX12_image : ByteArray := prog_14_method_65_code
def yX12_image : MethodName := ⟨RX12, "image", "()I"⟩
abbrev cX12_undo : ByteArray := prog_14_method_66_code
def yX12_undo : MethodName := ⟨RX12, "undo", "()I"⟩
abbrev cX12_ran : ByteArray := prog_14_method_67_code
def yX12_ran : MethodName := ⟨RX12, "ran", "(I)V"⟩
abbrev cX12_above : ByteArray := prog_14_method_68_code
def yX12_above : MethodName := ⟨RX12, "above", "(I)I"⟩
abbrev cX12_shuns : ByteArray := prog_14_method_69_code
def yX12_shuns : MethodName := ⟨RX12, "shuns", "(III)I"⟩
abbrev cX12_scoffs : ByteArray := prog_14_method_70_code
def yX12_scoffs : MethodName := ⟨RX12, "scoffs", "(III)I"⟩
abbrev cX12_tells : ByteArray := prog_14_method_71_code
def yX12_tells : MethodName := ⟨RX12, "tells", "(III)I"⟩
abbrev cX12_act : ByteArray := prog_14_method_72_code
def yX12_act : MethodName := ⟨RX12, "act", "(III)I"⟩
abbrev cX12_trace : ByteArray := prog_14_method_73_code
def yX12_trace : MethodName := ⟨RX12, "trace", "(I)I"⟩
abbrev cX12_taken : ByteArray := prog_14_method_74_code
def yX12_taken : MethodName := ⟨RX12, "taken", "(II)I"⟩
abbrev cX12_count : ByteArray := prog_14_method_75_code
def yX12_count : MethodName := ⟨RX12, "count", "(I)I"⟩
abbrev cX12_isTape : ByteArray := prog_14_method_76_code
def yX12_isTape : MethodName := ⟨RX12, "isTape", "(I)Z"⟩
abbrev cX12_tape : ByteArray := prog_14_method_77_code
def yX12_tape : MethodName := ⟨RX12, "tape", "(III)I"⟩
abbrev cX12_kept : ByteArray := prog_14_method_78_code
def yX12_kept : MethodName := ⟨RX12, "kept", "(IJ)J"⟩
abbrev cX12_item : ByteArray := prog_14_method_79_code
def yX12_item : MethodName := ⟨RX12, "item", "(IIJ)I"⟩
abbrev cX12_read : ByteArray := prog_14_method_80_code
def yX12_read : MethodName := ⟨RX12, "read", "(II)J"⟩
abbrev cX12_shift : ByteArray := prog_14_method_81_code
def yX12_shift : MethodName := ⟨RX12, "shift", "(IIIII)I"⟩
def RJ11 : String := "java/lang/Character"
def RJ6 : String := "java/lang/Integer"
abbrev cJ6_bitCount_0f7a4 : ByteArray := prog_16_method_49_code
def yJ6_bitCount_0f7a4 : MethodName := ⟨RJ6, "bitCount", "(I)I"⟩
def RJ9 : String := "java/lang/Math"
abbrev cJ9_floorDiv_7cf53 : ByteArray := prog_17_method_47_code
def yJ9_floorDiv_7cf53 : MethodName := ⟨RJ9, "floorDiv", "(II)I"⟩
abbrev cJ9_floorMod_7cf53 : ByteArray := prog_17_method_50_code
def yJ9_floorMod_7cf53 : MethodName := ⟨RJ9, "floorMod", "(II)I"⟩
abbrev cJ9_max_7cf53 : ByteArray := prog_17_method_65_code
def yJ9_max_7cf53 : MethodName := ⟨RJ9, "max", "(II)I"⟩
abbrev cJ9_min_7cf53 : ByteArray := prog_17_method_69_code
def yJ9_min_7cf53 : MethodName := ⟨RJ9, "min", "(II)I"⟩
def RJ0 : String := "java/lang/String"
abbrev cJ0_length_8abf5 : ByteArray := prog_18_method_54_code
def yJ0_length_8abf5 : MethodName := ⟨RJ0, "length", "()I"⟩
abbrev cJ0_charAt_5068e : ByteArray := prog_18_method_56_code
def yJ0_charAt_5068e : MethodName := ⟨RJ0, "charAt", "(I)C"⟩
abbrev cJ0_indexOf_0f7a4 : ByteArray := prog_18_method_79_code
def yJ0_indexOf_0f7a4 : MethodName := ⟨RJ0, "indexOf", "(I)I"⟩
abbrev cJ0_indexOf_7cf53 : ByteArray := prog_18_method_80_code
def yJ0_indexOf_7cf53 : MethodName := ⟨RJ0, "indexOf", "(II)I"⟩
abbrev cJ0_coder_7d493 : ByteArray := prog_18_method_152_code
def yJ0_coder_7d493 : MethodName := ⟨RJ0, "coder", "()B"⟩
abbrev cJ0_isLatin1_aae02 : ByteArray := prog_18_method_154_code
def yJ0_isLatin1_aae02 : MethodName := ⟨RJ0, "isLatin1", "()Z"⟩
abbrev cJ0_checkIndex_df160 : ByteArray := prog_18_method_155_code
def yJ0_checkIndex_df160 : MethodName := ⟨RJ0, "checkIndex", "(II)V"⟩
def RJ1 : String := "java/lang/StringLatin1"
abbrev cJ1_charAt_3b067 : ByteArray := prog_19_method_2_code
def yJ1_charAt_3b067 : MethodName := ⟨RJ1, "charAt", "([BI)C"⟩
abbrev cJ1_canEncode_9a6ad : ByteArray := prog_19_method_4_code
def yJ1_canEncode_9a6ad : MethodName := ⟨RJ1, "canEncode", "(I)Z"⟩
abbrev cJ1_indexOf_4cfef : ByteArray := prog_19_method_22_code
def yJ1_indexOf_4cfef : MethodName := ⟨RJ1, "indexOf", "([BIII)I"⟩
abbrev cJ1_indexOfChar_4cfef : ByteArray := prog_19_method_23_code
def yJ1_indexOfChar_4cfef : MethodName := ⟨RJ1, "indexOfChar", "([BIII)I"⟩
def RJ2 : String := "java/lang/StringUTF16"
def RJ10 : String := "java/lang/System"
def RJ3 : String := "jdk/internal/util/Preconditions"
abbrev cJ3_checkIndex_8e157 : ByteArray := prog_22_method_11_code
def yJ3_checkIndex_8e157 : MethodName := ⟨RJ3, "checkIndex", "(IILjava/util/function/BiFunction;)I"⟩
def RL : String := "RefusedTwiceLaw"
abbrev cL_law : ByteArray := code
def yL_law : MethodName := ⟨RL, "law", "([I)Z"⟩
