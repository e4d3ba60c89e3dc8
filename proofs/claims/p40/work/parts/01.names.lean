-- ===== PART A: goes FIRST, ahead of the names: the tables' words, and 'selects' of the private methods out of them =====
/-- a private method of a class that the tables say can be made, by its rows of tables_1 -/
def lw_okq (q : MethodName × Nat) : Prop := (q.1.cls ≠ "java/lang/invoke/MethodHandle" ∧ q.1.cls ≠ "java/lang/invoke/VarHandle") ∧ Cond.instantiable q.1.cls q.2 ∈ tables_1 ∧ Cond.privateMethod q.1 ∈ tables_1 ∧ Cond.instanceMethod q.1 ∈ tables_1
theorem lw_p0 : lw_okq (⟨"LeagueOffice$Reader", "split", "()V"⟩, 6) := ⟨⟨by decide +kernel, by decide +kernel⟩, List.mem_of_getElem? (i := 169) (by decide +kernel), List.mem_of_getElem? (i := 499) (by decide +kernel), List.mem_of_getElem? (i := 500) (by decide +kernel)⟩
theorem lw_p1 : lw_okq (⟨"LeagueOffice$Reader", "behindBlanks", "(I)I"⟩, 6) := ⟨⟨by decide +kernel, by decide +kernel⟩, List.mem_of_getElem? (i := 169) (by decide +kernel), List.mem_of_getElem? (i := 507) (by decide +kernel), List.mem_of_getElem? (i := 508) (by decide +kernel)⟩
theorem lw_p2 : lw_okq (⟨"LeagueOffice$Reader", "addToken", "(III)V"⟩, 6) := ⟨⟨by decide +kernel, by decide +kernel⟩, List.mem_of_getElem? (i := 169) (by decide +kernel), List.mem_of_getElem? (i := 519) (by decide +kernel), List.mem_of_getElem? (i := 520) (by decide +kernel)⟩
theorem lw_p3 : lw_okq (⟨"LeagueOffice$Reader", "behindDigits", "(I)I"⟩, 6) := ⟨⟨by decide +kernel, by decide +kernel⟩, List.mem_of_getElem? (i := 169) (by decide +kernel), List.mem_of_getElem? (i := 527) (by decide +kernel), List.mem_of_getElem? (i := 528) (by decide +kernel)⟩
theorem lw_p4 : lw_okq (⟨"LeagueOffice$Reader", "numberAt", "(II)I"⟩, 6) := ⟨⟨by decide +kernel, by decide +kernel⟩, List.mem_of_getElem? (i := 169) (by decide +kernel), List.mem_of_getElem? (i := 531) (by decide +kernel), List.mem_of_getElem? (i := 532) (by decide +kernel)⟩
theorem lw_p5 : lw_okq (⟨"LeagueOffice$Reader", "behindLetters", "(I)I"⟩, 6) := ⟨⟨by decide +kernel, by decide +kernel⟩, List.mem_of_getElem? (i := 169) (by decide +kernel), List.mem_of_getElem? (i := 538) (by decide +kernel), List.mem_of_getElem? (i := 539) (by decide +kernel)⟩
theorem lw_p6 : lw_okq (⟨"LeagueOffice$Reader", "wordAt", "(II)I"⟩, 6) := ⟨⟨by decide +kernel, by decide +kernel⟩, List.mem_of_getElem? (i := 169) (by decide +kernel), List.mem_of_getElem? (i := 542) (by decide +kernel), List.mem_of_getElem? (i := 543) (by decide +kernel)⟩
theorem lw_p7 : lw_okq (⟨"LeagueOffice$Reader", "isWord", "(Ljava/lang/String;II)Z"⟩, 6) := ⟨⟨by decide +kernel, by decide +kernel⟩, List.mem_of_getElem? (i := 169) (by decide +kernel), List.mem_of_getElem? (i := 562) (by decide +kernel), List.mem_of_getElem? (i := 563) (by decide +kernel)⟩
theorem lw_p8 : lw_okq (⟨"LeagueOffice$Reader", "readPart", "(I)Z"⟩, 6) := ⟨⟨by decide +kernel, by decide +kernel⟩, List.mem_of_getElem? (i := 169) (by decide +kernel), List.mem_of_getElem? (i := 576) (by decide +kernel), List.mem_of_getElem? (i := 577) (by decide +kernel)⟩
theorem lw_p9 : lw_okq (⟨"LeagueOffice$Reader", "readToken", "(I)Z"⟩, 6) := ⟨⟨by decide +kernel, by decide +kernel⟩, List.mem_of_getElem? (i := 169) (by decide +kernel), List.mem_of_getElem? (i := 580) (by decide +kernel), List.mem_of_getElem? (i := 581) (by decide +kernel)⟩
theorem lw_p10 : lw_okq (⟨"LeagueOffice$Reader", "readLevel", "(II)Z"⟩, 6) := ⟨⟨by decide +kernel, by decide +kernel⟩, List.mem_of_getElem? (i := 169) (by decide +kernel), List.mem_of_getElem? (i := 593) (by decide +kernel), List.mem_of_getElem? (i := 594) (by decide +kernel)⟩
theorem lw_p11 : lw_okq (⟨"LeagueOffice$Reader", "readOne", "(I)Z"⟩, 6) := ⟨⟨by decide +kernel, by decide +kernel⟩, List.mem_of_getElem? (i := 169) (by decide +kernel), List.mem_of_getElem? (i := 597) (by decide +kernel), List.mem_of_getElem? (i := 598) (by decide +kernel)⟩
theorem lw_p12 : lw_okq (⟨"LeagueOffice$Reader", "readNot", "(I)Z"⟩, 6) := ⟨⟨by decide +kernel, by decide +kernel⟩, List.mem_of_getElem? (i := 169) (by decide +kernel), List.mem_of_getElem? (i := 610) (by decide +kernel), List.mem_of_getElem? (i := 611) (by decide +kernel)⟩
theorem lw_p13 : lw_okq (⟨"LeagueOffice", "tellResult", "(III)I"⟩, 10) := ⟨⟨by decide +kernel, by decide +kernel⟩, List.mem_of_getElem? (i := 22) (by decide +kernel), List.mem_of_getElem? (i := 723) (by decide +kernel), List.mem_of_getElem? (i := 724) (by decide +kernel)⟩
theorem lw_p14 : lw_okq (⟨"LeagueOffice$Tables", "enter", "(IIII)V"⟩, 12) := ⟨⟨by decide +kernel, by decide +kernel⟩, List.mem_of_getElem? (i := 197) (by decide +kernel), List.mem_of_getElem? (i := 797) (by decide +kernel), List.mem_of_getElem? (i := 798) (by decide +kernel)⟩
theorem lw_p15 : lw_okq (⟨"LeagueOffice$Texts", "value", "(II)I"⟩, 8) := ⟨⟨by decide +kernel, by decide +kernel⟩, List.mem_of_getElem? (i := 132) (by decide +kernel), List.mem_of_getElem? (i := 825) (by decide +kernel), List.mem_of_getElem? (i := 826) (by decide +kernel)⟩
def lw_privs_1 : List (MethodName × Nat) := [(⟨"LeagueOffice$Reader", "split", "()V"⟩, 6), (⟨"LeagueOffice$Reader", "behindBlanks", "(I)I"⟩, 6), (⟨"LeagueOffice$Reader", "addToken", "(III)V"⟩, 6), (⟨"LeagueOffice$Reader", "behindDigits", "(I)I"⟩, 6), (⟨"LeagueOffice$Reader", "numberAt", "(II)I"⟩, 6), (⟨"LeagueOffice$Reader", "behindLetters", "(I)I"⟩, 6), (⟨"LeagueOffice$Reader", "wordAt", "(II)I"⟩, 6), (⟨"LeagueOffice$Reader", "isWord", "(Ljava/lang/String;II)Z"⟩, 6), (⟨"LeagueOffice$Reader", "readPart", "(I)Z"⟩, 6), (⟨"LeagueOffice$Reader", "readToken", "(I)Z"⟩, 6), (⟨"LeagueOffice$Reader", "readLevel", "(II)Z"⟩, 6), (⟨"LeagueOffice$Reader", "readOne", "(I)Z"⟩, 6), (⟨"LeagueOffice$Reader", "readNot", "(I)Z"⟩, 6), (⟨"LeagueOffice", "tellResult", "(III)I"⟩, 10), (⟨"LeagueOffice$Tables", "enter", "(IIII)V"⟩, 12), (⟨"LeagueOffice$Texts", "value", "(II)I"⟩, 8)]
theorem lw_r1 : ∀ q ∈ lw_privs_1, lw_okq q := List.forall_mem_cons.mpr ⟨lw_p0, List.forall_mem_cons.mpr ⟨lw_p1, List.forall_mem_cons.mpr ⟨lw_p2, List.forall_mem_cons.mpr ⟨lw_p3, List.forall_mem_cons.mpr ⟨lw_p4, List.forall_mem_cons.mpr ⟨lw_p5, List.forall_mem_cons.mpr ⟨lw_p6, List.forall_mem_cons.mpr ⟨lw_p7, List.forall_mem_cons.mpr ⟨lw_p8, List.forall_mem_cons.mpr ⟨lw_p9, List.forall_mem_cons.mpr ⟨lw_p10, List.forall_mem_cons.mpr ⟨lw_p11, List.forall_mem_cons.mpr ⟨lw_p12, List.forall_mem_cons.mpr ⟨lw_p13, List.forall_mem_cons.mpr ⟨lw_p14, List.forall_mem_cons.mpr ⟨lw_p15, fun _ h => absurd h List.not_mem_nil⟩⟩⟩⟩⟩⟩⟩⟩⟩⟩⟩⟩⟩⟩⟩⟩
theorem lw_p16 : lw_okq (⟨"LeagueOffice$Squad", "hold", "(II)V"⟩, 14) := ⟨⟨by decide +kernel, by decide +kernel⟩, List.mem_of_getElem? (i := 246) (by decide +kernel), List.mem_of_getElem? (i := 937) (by decide +kernel), List.mem_of_getElem? (i := 938) (by decide +kernel)⟩
theorem lw_p17 : lw_okq (⟨"LeagueOffice$Failures", "changeGames", "(IZ)I"⟩, 7) := ⟨⟨by decide +kernel, by decide +kernel⟩, List.mem_of_getElem? (i := 307) (by decide +kernel), List.mem_of_getElem? (i := 998) (by decide +kernel), List.mem_of_getElem? (i := 999) (by decide +kernel)⟩
theorem lw_p18 : lw_okq (⟨"LeagueOffice$Failures", "keep", "(II)V"⟩, 7) := ⟨⟨by decide +kernel, by decide +kernel⟩, List.mem_of_getElem? (i := 307) (by decide +kernel), List.mem_of_getElem? (i := 1002) (by decide +kernel), List.mem_of_getElem? (i := 1003) (by decide +kernel)⟩
theorem lw_p19 : lw_okq (⟨"LeagueOffice$Failures", "give", "(II)V"⟩, 7) := ⟨⟨by decide +kernel, by decide +kernel⟩, List.mem_of_getElem? (i := 307) (by decide +kernel), List.mem_of_getElem? (i := 1006) (by decide +kernel), List.mem_of_getElem? (i := 1007) (by decide +kernel)⟩
theorem lw_p20 : lw_okq (⟨"LeagueOffice$Failures", "hasChanged", "(II)Z"⟩, 7) := ⟨⟨by decide +kernel, by decide +kernel⟩, List.mem_of_getElem? (i := 307) (by decide +kernel), List.mem_of_getElem? (i := 1019) (by decide +kernel), List.mem_of_getElem? (i := 1020) (by decide +kernel)⟩
theorem lw_p21 : lw_okq (⟨"LeagueOffice$Chances", "enterFirst", "()I"⟩, 10) := ⟨⟨by decide +kernel, by decide +kernel⟩, List.mem_of_getElem? (i := 337) (by decide +kernel), List.mem_of_getElem? (i := 1056) (by decide +kernel), List.mem_of_getElem? (i := 1057) (by decide +kernel)⟩
theorem lw_p22 : lw_okq (⟨"LeagueOffice$Chances", "enter", "(II)V"⟩, 10) := ⟨⟨by decide +kernel, by decide +kernel⟩, List.mem_of_getElem? (i := 337) (by decide +kernel), List.mem_of_getElem? (i := 1063) (by decide +kernel), List.mem_of_getElem? (i := 1064) (by decide +kernel)⟩
theorem lw_p23 : lw_okq (⟨"LeagueOffice$Chances", "enterWin", "(IIII)V"⟩, 10) := ⟨⟨by decide +kernel, by decide +kernel⟩, List.mem_of_getElem? (i := 337) (by decide +kernel), List.mem_of_getElem? (i := 1067) (by decide +kernel), List.mem_of_getElem? (i := 1068) (by decide +kernel)⟩
theorem lw_p24 : lw_okq (⟨"LeagueOffice$Chances", "enterDraw", "(IIII)V"⟩, 10) := ⟨⟨by decide +kernel, by decide +kernel⟩, List.mem_of_getElem? (i := 337) (by decide +kernel), List.mem_of_getElem? (i := 1073) (by decide +kernel), List.mem_of_getElem? (i := 1074) (by decide +kernel)⟩
theorem lw_p25 : lw_okq (⟨"LeagueOffice$Chances", "enterNext", "()V"⟩, 10) := ⟨⟨by decide +kernel, by decide +kernel⟩, List.mem_of_getElem? (i := 337) (by decide +kernel), List.mem_of_getElem? (i := 1078) (by decide +kernel), List.mem_of_getElem? (i := 1079) (by decide +kernel)⟩
theorem lw_p26 : lw_okq (⟨"LeagueOffice$Chances", "sumOf", "(I)J"⟩, 10) := ⟨⟨by decide +kernel, by decide +kernel⟩, List.mem_of_getElem? (i := 337) (by decide +kernel), List.mem_of_getElem? (i := 1104) (by decide +kernel), List.mem_of_getElem? (i := 1105) (by decide +kernel)⟩
theorem lw_p27 : lw_okq (⟨"LeagueOffice$Purse", "sumGates", "()V"⟩, 3) := ⟨⟨by decide +kernel, by decide +kernel⟩, List.mem_of_getElem? (i := 376) (by decide +kernel), List.mem_of_getElem? (i := 1119) (by decide +kernel), List.mem_of_getElem? (i := 1120) (by decide +kernel)⟩
theorem lw_p28 : lw_okq (⟨"LeagueOffice$Plan", "look", "(I)V"⟩, 6) := ⟨⟨by decide +kernel, by decide +kernel⟩, List.mem_of_getElem? (i := 394) (by decide +kernel), List.mem_of_getElem? (i := 1165) (by decide +kernel), List.mem_of_getElem? (i := 1166) (by decide +kernel)⟩
theorem lw_p29 : lw_okq (⟨"LeagueOffice$Plan", "breaksOf", "(I)I"⟩, 6) := ⟨⟨by decide +kernel, by decide +kernel⟩, List.mem_of_getElem? (i := 394) (by decide +kernel), List.mem_of_getElem? (i := 1171) (by decide +kernel), List.mem_of_getElem? (i := 1172) (by decide +kernel)⟩
theorem lw_p30 : lw_okq (⟨"LeagueOfficeModel", "isClub", "(I)Z"⟩, 78) := ⟨⟨by decide +kernel, by decide +kernel⟩, List.mem_of_getElem? (i := 1259) (by decide +kernel), List.mem_of_getElem? (i := 1257) (by decide +kernel), List.mem_of_getElem? (i := 1258) (by decide +kernel)⟩
theorem lw_p31 : lw_okq (⟨"LeagueOfficeModel", "isGame", "(I)Z"⟩, 78) := ⟨⟨by decide +kernel, by decide +kernel⟩, List.mem_of_getElem? (i := 1259) (by decide +kernel), List.mem_of_getElem? (i := 1273) (by decide +kernel), List.mem_of_getElem? (i := 1274) (by decide +kernel)⟩
def lw_privs_2 : List (MethodName × Nat) := [(⟨"LeagueOffice$Squad", "hold", "(II)V"⟩, 14), (⟨"LeagueOffice$Failures", "changeGames", "(IZ)I"⟩, 7), (⟨"LeagueOffice$Failures", "keep", "(II)V"⟩, 7), (⟨"LeagueOffice$Failures", "give", "(II)V"⟩, 7), (⟨"LeagueOffice$Failures", "hasChanged", "(II)Z"⟩, 7), (⟨"LeagueOffice$Chances", "enterFirst", "()I"⟩, 10), (⟨"LeagueOffice$Chances", "enter", "(II)V"⟩, 10), (⟨"LeagueOffice$Chances", "enterWin", "(IIII)V"⟩, 10), (⟨"LeagueOffice$Chances", "enterDraw", "(IIII)V"⟩, 10), (⟨"LeagueOffice$Chances", "enterNext", "()V"⟩, 10), (⟨"LeagueOffice$Chances", "sumOf", "(I)J"⟩, 10), (⟨"LeagueOffice$Purse", "sumGates", "()V"⟩, 3), (⟨"LeagueOffice$Plan", "look", "(I)V"⟩, 6), (⟨"LeagueOffice$Plan", "breaksOf", "(I)I"⟩, 6), (⟨"LeagueOfficeModel", "isClub", "(I)Z"⟩, 78), (⟨"LeagueOfficeModel", "isGame", "(I)Z"⟩, 78)]
theorem lw_r2 : ∀ q ∈ lw_privs_2, lw_okq q := List.forall_mem_cons.mpr ⟨lw_p16, List.forall_mem_cons.mpr ⟨lw_p17, List.forall_mem_cons.mpr ⟨lw_p18, List.forall_mem_cons.mpr ⟨lw_p19, List.forall_mem_cons.mpr ⟨lw_p20, List.forall_mem_cons.mpr ⟨lw_p21, List.forall_mem_cons.mpr ⟨lw_p22, List.forall_mem_cons.mpr ⟨lw_p23, List.forall_mem_cons.mpr ⟨lw_p24, List.forall_mem_cons.mpr ⟨lw_p25, List.forall_mem_cons.mpr ⟨lw_p26, List.forall_mem_cons.mpr ⟨lw_p27, List.forall_mem_cons.mpr ⟨lw_p28, List.forall_mem_cons.mpr ⟨lw_p29, List.forall_mem_cons.mpr ⟨lw_p30, List.forall_mem_cons.mpr ⟨lw_p31, fun _ h => absurd h List.not_mem_nil⟩⟩⟩⟩⟩⟩⟩⟩⟩⟩⟩⟩⟩⟩⟩⟩
theorem lw_p32 : lw_okq (⟨"LeagueOfficeModel", "knownIn", "(II)I"⟩, 78) := ⟨⟨by decide +kernel, by decide +kernel⟩, List.mem_of_getElem? (i := 1259) (by decide +kernel), List.mem_of_getElem? (i := 1297) (by decide +kernel), List.mem_of_getElem? (i := 1298) (by decide +kernel)⟩
theorem lw_p33 : lw_okq (⟨"LeagueOfficeModel", "readText", "()I"⟩, 78) := ⟨⟨by decide +kernel, by decide +kernel⟩, List.mem_of_getElem? (i := 1259) (by decide +kernel), List.mem_of_getElem? (i := 1308) (by decide +kernel), List.mem_of_getElem? (i := 1309) (by decide +kernel)⟩
theorem lw_p34 : lw_okq (⟨"LeagueOfficeModel", "nextToken", "()V"⟩, 78) := ⟨⟨by decide +kernel, by decide +kernel⟩, List.mem_of_getElem? (i := 1259) (by decide +kernel), List.mem_of_getElem? (i := 1312) (by decide +kernel), List.mem_of_getElem? (i := 1313) (by decide +kernel)⟩
theorem lw_p35 : lw_okq (⟨"LeagueOfficeModel", "isWord", "(J)Z"⟩, 78) := ⟨⟨by decide +kernel, by decide +kernel⟩, List.mem_of_getElem? (i := 1259) (by decide +kernel), List.mem_of_getElem? (i := 1327) (by decide +kernel), List.mem_of_getElem? (i := 1328) (by decide +kernel)⟩
theorem lw_p36 : lw_okq (⟨"LeagueOfficeModel", "faultHere", "()V"⟩, 78) := ⟨⟨by decide +kernel, by decide +kernel⟩, List.mem_of_getElem? (i := 1259) (by decide +kernel), List.mem_of_getElem? (i := 1333) (by decide +kernel), List.mem_of_getElem? (i := 1334) (by decide +kernel)⟩
theorem lw_p37 : lw_okq (⟨"LeagueOfficeModel", "either", "()V"⟩, 78) := ⟨⟨by decide +kernel, by decide +kernel⟩, List.mem_of_getElem? (i := 1259) (by decide +kernel), List.mem_of_getElem? (i := 1337) (by decide +kernel), List.mem_of_getElem? (i := 1338) (by decide +kernel)⟩
theorem lw_p38 : lw_okq (⟨"LeagueOfficeModel", "and", "()V"⟩, 78) := ⟨⟨by decide +kernel, by decide +kernel⟩, List.mem_of_getElem? (i := 1259) (by decide +kernel), List.mem_of_getElem? (i := 1341) (by decide +kernel), List.mem_of_getElem? (i := 1342) (by decide +kernel)⟩
theorem lw_p39 : lw_okq (⟨"LeagueOfficeModel", "not", "()V"⟩, 78) := ⟨⟨by decide +kernel, by decide +kernel⟩, List.mem_of_getElem? (i := 1259) (by decide +kernel), List.mem_of_getElem? (i := 1345) (by decide +kernel), List.mem_of_getElem? (i := 1346) (by decide +kernel)⟩
theorem lw_p40 : lw_okq (⟨"LeagueOfficeModel", "opens", "()Z"⟩, 78) := ⟨⟨by decide +kernel, by decide +kernel⟩, List.mem_of_getElem? (i := 1259) (by decide +kernel), List.mem_of_getElem? (i := 1350) (by decide +kernel), List.mem_of_getElem? (i := 1351) (by decide +kernel)⟩
theorem lw_p41 : lw_okq (⟨"LeagueOfficeModel", "lay", "(II)V"⟩, 78) := ⟨⟨by decide +kernel, by decide +kernel⟩, List.mem_of_getElem? (i := 1259) (by decide +kernel), List.mem_of_getElem? (i := 1354) (by decide +kernel), List.mem_of_getElem? (i := 1355) (by decide +kernel)⟩
theorem lw_p42 : lw_okq (⟨"LeagueOfficeModel", "sum", "()V"⟩, 78) := ⟨⟨by decide +kernel, by decide +kernel⟩, List.mem_of_getElem? (i := 1259) (by decide +kernel), List.mem_of_getElem? (i := 1358) (by decide +kernel), List.mem_of_getElem? (i := 1359) (by decide +kernel)⟩
theorem lw_p43 : lw_okq (⟨"LeagueOfficeModel", "term", "()V"⟩, 78) := ⟨⟨by decide +kernel, by decide +kernel⟩, List.mem_of_getElem? (i := 1259) (by decide +kernel), List.mem_of_getElem? (i := 1362) (by decide +kernel), List.mem_of_getElem? (i := 1363) (by decide +kernel)⟩
theorem lw_p44 : lw_okq (⟨"LeagueOfficeModel", "one", "()V"⟩, 78) := ⟨⟨by decide +kernel, by decide +kernel⟩, List.mem_of_getElem? (i := 1259) (by decide +kernel), List.mem_of_getElem? (i := 1366) (by decide +kernel), List.mem_of_getElem? (i := 1367) (by decide +kernel)⟩
theorem lw_p45 : lw_okq (⟨"LeagueOfficeModel", "nameOf", "()I"⟩, 78) := ⟨⟨by decide +kernel, by decide +kernel⟩, List.mem_of_getElem? (i := 1259) (by decide +kernel), List.mem_of_getElem? (i := 1370) (by decide +kernel), List.mem_of_getElem? (i := 1371) (by decide +kernel)⟩
theorem lw_p46 : lw_okq (⟨"LeagueOfficeModel", "textOn", "(I)I"⟩, 78) := ⟨⟨by decide +kernel, by decide +kernel⟩, List.mem_of_getElem? (i := 1259) (by decide +kernel), List.mem_of_getElem? (i := 1629) (by decide +kernel), List.mem_of_getElem? (i := 1630) (by decide +kernel)⟩
theorem lw_p47 : lw_okq (⟨"LeagueOfficeModel", "pointsOf", "(II)J"⟩, 78) := ⟨⟨by decide +kernel, by decide +kernel⟩, List.mem_of_getElem? (i := 1259) (by decide +kernel), List.mem_of_getElem? (i := 1641) (by decide +kernel), List.mem_of_getElem? (i := 1642) (by decide +kernel)⟩
def lw_privs_3 : List (MethodName × Nat) := [(⟨"LeagueOfficeModel", "knownIn", "(II)I"⟩, 78), (⟨"LeagueOfficeModel", "readText", "()I"⟩, 78), (⟨"LeagueOfficeModel", "nextToken", "()V"⟩, 78), (⟨"LeagueOfficeModel", "isWord", "(J)Z"⟩, 78), (⟨"LeagueOfficeModel", "faultHere", "()V"⟩, 78), (⟨"LeagueOfficeModel", "either", "()V"⟩, 78), (⟨"LeagueOfficeModel", "and", "()V"⟩, 78), (⟨"LeagueOfficeModel", "not", "()V"⟩, 78), (⟨"LeagueOfficeModel", "opens", "()Z"⟩, 78), (⟨"LeagueOfficeModel", "lay", "(II)V"⟩, 78), (⟨"LeagueOfficeModel", "sum", "()V"⟩, 78), (⟨"LeagueOfficeModel", "term", "()V"⟩, 78), (⟨"LeagueOfficeModel", "one", "()V"⟩, 78), (⟨"LeagueOfficeModel", "nameOf", "()I"⟩, 78), (⟨"LeagueOfficeModel", "textOn", "(I)I"⟩, 78), (⟨"LeagueOfficeModel", "pointsOf", "(II)J"⟩, 78)]
theorem lw_r3 : ∀ q ∈ lw_privs_3, lw_okq q := List.forall_mem_cons.mpr ⟨lw_p32, List.forall_mem_cons.mpr ⟨lw_p33, List.forall_mem_cons.mpr ⟨lw_p34, List.forall_mem_cons.mpr ⟨lw_p35, List.forall_mem_cons.mpr ⟨lw_p36, List.forall_mem_cons.mpr ⟨lw_p37, List.forall_mem_cons.mpr ⟨lw_p38, List.forall_mem_cons.mpr ⟨lw_p39, List.forall_mem_cons.mpr ⟨lw_p40, List.forall_mem_cons.mpr ⟨lw_p41, List.forall_mem_cons.mpr ⟨lw_p42, List.forall_mem_cons.mpr ⟨lw_p43, List.forall_mem_cons.mpr ⟨lw_p44, List.forall_mem_cons.mpr ⟨lw_p45, List.forall_mem_cons.mpr ⟨lw_p46, List.forall_mem_cons.mpr ⟨lw_p47, fun _ h => absurd h List.not_mem_nil⟩⟩⟩⟩⟩⟩⟩⟩⟩⟩⟩⟩⟩⟩⟩⟩
theorem lw_p48 : lw_okq (⟨"LeagueOfficeModel", "isIn", "(II)Z"⟩, 78) := ⟨⟨by decide +kernel, by decide +kernel⟩, List.mem_of_getElem? (i := 1259) (by decide +kernel), List.mem_of_getElem? (i := 1645) (by decide +kernel), List.mem_of_getElem? (i := 1646) (by decide +kernel)⟩
theorem lw_p49 : lw_okq (⟨"LeagueOfficeModel", "endOf", "(II)I"⟩, 78) := ⟨⟨by decide +kernel, by decide +kernel⟩, List.mem_of_getElem? (i := 1259) (by decide +kernel), List.mem_of_getElem? (i := 1649) (by decide +kernel), List.mem_of_getElem? (i := 1650) (by decide +kernel)⟩
theorem lw_p50 : lw_okq (⟨"LeagueOfficeModel", "pointsIn", "(III)I"⟩, 78) := ⟨⟨by decide +kernel, by decide +kernel⟩, List.mem_of_getElem? (i := 1259) (by decide +kernel), List.mem_of_getElem? (i := 1653) (by decide +kernel), List.mem_of_getElem? (i := 1654) (by decide +kernel)⟩
theorem lw_p51 : lw_okq (⟨"LeagueOfficeModel", "setFacts", "(IIIIII)V"⟩, 78) := ⟨⟨by decide +kernel, by decide +kernel⟩, List.mem_of_getElem? (i := 1259) (by decide +kernel), List.mem_of_getElem? (i := 1660) (by decide +kernel), List.mem_of_getElem? (i := 1661) (by decide +kernel)⟩
theorem lw_p52 : lw_okq (⟨"LeagueOfficeModel", "says", "(II)I"⟩, 78) := ⟨⟨by decide +kernel, by decide +kernel⟩, List.mem_of_getElem? (i := 1259) (by decide +kernel), List.mem_of_getElem? (i := 1664) (by decide +kernel), List.mem_of_getElem? (i := 1665) (by decide +kernel)⟩
theorem lw_p53 : lw_okq (⟨"LeagueOfficeModel", "likeOf", "(II)J"⟩, 78) := ⟨⟨by decide +kernel, by decide +kernel⟩, List.mem_of_getElem? (i := 1259) (by decide +kernel), List.mem_of_getElem? (i := 1676) (by decide +kernel), List.mem_of_getElem? (i := 1677) (by decide +kernel)⟩
theorem lw_p54 : lw_okq (⟨"LeagueOfficeModel", "tally", "(III)V"⟩, 78) := ⟨⟨by decide +kernel, by decide +kernel⟩, List.mem_of_getElem? (i := 1259) (by decide +kernel), List.mem_of_getElem? (i := 1680) (by decide +kernel), List.mem_of_getElem? (i := 1681) (by decide +kernel)⟩
theorem lw_p55 : lw_okq (⟨"LeagueOfficeModel", "likeBy", "(II)J"⟩, 78) := ⟨⟨by decide +kernel, by decide +kernel⟩, List.mem_of_getElem? (i := 1259) (by decide +kernel), List.mem_of_getElem? (i := 1684) (by decide +kernel), List.mem_of_getElem? (i := 1685) (by decide +kernel)⟩
theorem lw_p56 : lw_okq (⟨"LeagueOfficeModel", "findAll", "(II)V"⟩, 78) := ⟨⟨by decide +kernel, by decide +kernel⟩, List.mem_of_getElem? (i := 1259) (by decide +kernel), List.mem_of_getElem? (i := 1692) (by decide +kernel), List.mem_of_getElem? (i := 1693) (by decide +kernel)⟩
theorem lw_p57 : lw_okq (⟨"LeagueOfficeModel", "placeNow", "(I)I"⟩, 78) := ⟨⟨by decide +kernel, by decide +kernel⟩, List.mem_of_getElem? (i := 1259) (by decide +kernel), List.mem_of_getElem? (i := 1696) (by decide +kernel), List.mem_of_getElem? (i := 1697) (by decide +kernel)⟩
theorem lw_p58 : lw_okq (⟨"LeagueOfficeModel", "isAhead", "(II)Z"⟩, 78) := ⟨⟨by decide +kernel, by decide +kernel⟩, List.mem_of_getElem? (i := 1259) (by decide +kernel), List.mem_of_getElem? (i := 1700) (by decide +kernel), List.mem_of_getElem? (i := 1701) (by decide +kernel)⟩
theorem lw_p59 : lw_okq (⟨"LeagueOfficeModel", "isPlayer", "(I)Z"⟩, 78) := ⟨⟨by decide +kernel, by decide +kernel⟩, List.mem_of_getElem? (i := 1259) (by decide +kernel), List.mem_of_getElem? (i := 1716) (by decide +kernel), List.mem_of_getElem? (i := 1717) (by decide +kernel)⟩
theorem lw_p60 : lw_okq (⟨"LeagueOfficeModel", "clubFor", "(II)I"⟩, 78) := ⟨⟨by decide +kernel, by decide +kernel⟩, List.mem_of_getElem? (i := 1259) (by decide +kernel), List.mem_of_getElem? (i := 1724) (by decide +kernel), List.mem_of_getElem? (i := 1725) (by decide +kernel)⟩
theorem lw_p61 : lw_okq (⟨"LeagueOfficeModel", "bansOf", "(I)I"⟩, 78) := ⟨⟨by decide +kernel, by decide +kernel⟩, List.mem_of_getElem? (i := 1259) (by decide +kernel), List.mem_of_getElem? (i := 1736) (by decide +kernel), List.mem_of_getElem? (i := 1737) (by decide +kernel)⟩
theorem lw_p62 : lw_okq (⟨"LeagueOfficeModel", "findBanned", "(I)V"⟩, 78) := ⟨⟨by decide +kernel, by decide +kernel⟩, List.mem_of_getElem? (i := 1259) (by decide +kernel), List.mem_of_getElem? (i := 1744) (by decide +kernel), List.mem_of_getElem? (i := 1745) (by decide +kernel)⟩
theorem lw_p63 : lw_okq (⟨"LeagueOfficeModel", "isBehind", "(II)Z"⟩, 78) := ⟨⟨by decide +kernel, by decide +kernel⟩, List.mem_of_getElem? (i := 1259) (by decide +kernel), List.mem_of_getElem? (i := 1748) (by decide +kernel), List.mem_of_getElem? (i := 1749) (by decide +kernel)⟩
def lw_privs_4 : List (MethodName × Nat) := [(⟨"LeagueOfficeModel", "isIn", "(II)Z"⟩, 78), (⟨"LeagueOfficeModel", "endOf", "(II)I"⟩, 78), (⟨"LeagueOfficeModel", "pointsIn", "(III)I"⟩, 78), (⟨"LeagueOfficeModel", "setFacts", "(IIIIII)V"⟩, 78), (⟨"LeagueOfficeModel", "says", "(II)I"⟩, 78), (⟨"LeagueOfficeModel", "likeOf", "(II)J"⟩, 78), (⟨"LeagueOfficeModel", "tally", "(III)V"⟩, 78), (⟨"LeagueOfficeModel", "likeBy", "(II)J"⟩, 78), (⟨"LeagueOfficeModel", "findAll", "(II)V"⟩, 78), (⟨"LeagueOfficeModel", "placeNow", "(I)I"⟩, 78), (⟨"LeagueOfficeModel", "isAhead", "(II)Z"⟩, 78), (⟨"LeagueOfficeModel", "isPlayer", "(I)Z"⟩, 78), (⟨"LeagueOfficeModel", "clubFor", "(II)I"⟩, 78), (⟨"LeagueOfficeModel", "bansOf", "(I)I"⟩, 78), (⟨"LeagueOfficeModel", "findBanned", "(I)V"⟩, 78), (⟨"LeagueOfficeModel", "isBehind", "(II)Z"⟩, 78)]
theorem lw_r4 : ∀ q ∈ lw_privs_4, lw_okq q := List.forall_mem_cons.mpr ⟨lw_p48, List.forall_mem_cons.mpr ⟨lw_p49, List.forall_mem_cons.mpr ⟨lw_p50, List.forall_mem_cons.mpr ⟨lw_p51, List.forall_mem_cons.mpr ⟨lw_p52, List.forall_mem_cons.mpr ⟨lw_p53, List.forall_mem_cons.mpr ⟨lw_p54, List.forall_mem_cons.mpr ⟨lw_p55, List.forall_mem_cons.mpr ⟨lw_p56, List.forall_mem_cons.mpr ⟨lw_p57, List.forall_mem_cons.mpr ⟨lw_p58, List.forall_mem_cons.mpr ⟨lw_p59, List.forall_mem_cons.mpr ⟨lw_p60, List.forall_mem_cons.mpr ⟨lw_p61, List.forall_mem_cons.mpr ⟨lw_p62, List.forall_mem_cons.mpr ⟨lw_p63, fun _ h => absurd h List.not_mem_nil⟩⟩⟩⟩⟩⟩⟩⟩⟩⟩⟩⟩⟩⟩⟩⟩
theorem lw_p64 : lw_okq (⟨"LeagueOfficeModel", "mayPlay", "(II)Z"⟩, 78) := ⟨⟨by decide +kernel, by decide +kernel⟩, List.mem_of_getElem? (i := 1259) (by decide +kernel), List.mem_of_getElem? (i := 1756) (by decide +kernel), List.mem_of_getElem? (i := 1757) (by decide +kernel)⟩
theorem lw_p65 : lw_okq (⟨"LeagueOfficeModel", "isWrong", "(I)Z"⟩, 78) := ⟨⟨by decide +kernel, by decide +kernel⟩, List.mem_of_getElem? (i := 1259) (by decide +kernel), List.mem_of_getElem? (i := 1768) (by decide +kernel), List.mem_of_getElem? (i := 1769) (by decide +kernel)⟩
theorem lw_p66 : lw_okq (⟨"LeagueOfficeModel", "change", "(IIIII)V"⟩, 78) := ⟨⟨by decide +kernel, by decide +kernel⟩, List.mem_of_getElem? (i := 1259) (by decide +kernel), List.mem_of_getElem? (i := 1776) (by decide +kernel), List.mem_of_getElem? (i := 1777) (by decide +kernel)⟩
theorem lw_p67 : lw_okq (⟨"LeagueOfficeModel", "findStill", "(I)V"⟩, 78) := ⟨⟨by decide +kernel, by decide +kernel⟩, List.mem_of_getElem? (i := 1259) (by decide +kernel), List.mem_of_getElem? (i := 1788) (by decide +kernel), List.mem_of_getElem? (i := 1789) (by decide +kernel)⟩
theorem lw_p68 : lw_okq (⟨"LeagueOfficeModel", "canHave", "(IZ)I"⟩, 78) := ⟨⟨by decide +kernel, by decide +kernel⟩, List.mem_of_getElem? (i := 1259) (by decide +kernel), List.mem_of_getElem? (i := 1796) (by decide +kernel), List.mem_of_getElem? (i := 1797) (by decide +kernel)⟩
theorem lw_p69 : lw_okq (⟨"LeagueOfficeModel", "goThrough", "(I)I"⟩, 78) := ⟨⟨by decide +kernel, by decide +kernel⟩, List.mem_of_getElem? (i := 1259) (by decide +kernel), List.mem_of_getElem? (i := 1800) (by decide +kernel), List.mem_of_getElem? (i := 1801) (by decide +kernel)⟩
theorem lw_p70 : lw_okq (⟨"LeagueOfficeModel", "findBase", "(I)V"⟩, 78) := ⟨⟨by decide +kernel, by decide +kernel⟩, List.mem_of_getElem? (i := 1259) (by decide +kernel), List.mem_of_getElem? (i := 1804) (by decide +kernel), List.mem_of_getElem? (i := 1805) (by decide +kernel)⟩
theorem lw_p71 : lw_okq (⟨"LeagueOfficeModel", "addEnds", "(III)V"⟩, 78) := ⟨⟨by decide +kernel, by decide +kernel⟩, List.mem_of_getElem? (i := 1259) (by decide +kernel), List.mem_of_getElem? (i := 1811) (by decide +kernel), List.mem_of_getElem? (i := 1812) (by decide +kernel)⟩
theorem lw_p72 : lw_okq (⟨"LeagueOfficeModel", "gatePart", "(I)I"⟩, 78) := ⟨⟨by decide +kernel, by decide +kernel⟩, List.mem_of_getElem? (i := 1259) (by decide +kernel), List.mem_of_getElem? (i := 1831) (by decide +kernel), List.mem_of_getElem? (i := 1832) (by decide +kernel)⟩
theorem lw_p73 : lw_okq (⟨"LeagueOfficeModel", "hasMeeting", "(I)Z"⟩, 78) := ⟨⟨by decide +kernel, by decide +kernel⟩, List.mem_of_getElem? (i := 1259) (by decide +kernel), List.mem_of_getElem? (i := 1840) (by decide +kernel), List.mem_of_getElem? (i := 1841) (by decide +kernel)⟩
theorem lw_p74 : lw_okq (⟨"LeagueOfficeModel", "breaksBy", "(II)I"⟩, 78) := ⟨⟨by decide +kernel, by decide +kernel⟩, List.mem_of_getElem? (i := 1259) (by decide +kernel), List.mem_of_getElem? (i := 1848) (by decide +kernel), List.mem_of_getElem? (i := 1849) (by decide +kernel)⟩
theorem lw_p75 : lw_okq (⟨"LeagueOfficeModel", "was", "(II)I"⟩, 78) := ⟨⟨by decide +kernel, by decide +kernel⟩, List.mem_of_getElem? (i := 1259) (by decide +kernel), List.mem_of_getElem? (i := 1852) (by decide +kernel), List.mem_of_getElem? (i := 1853) (by decide +kernel)⟩
def lw_privs_5 : List (MethodName × Nat) := [(⟨"LeagueOfficeModel", "mayPlay", "(II)Z"⟩, 78), (⟨"LeagueOfficeModel", "isWrong", "(I)Z"⟩, 78), (⟨"LeagueOfficeModel", "change", "(IIIII)V"⟩, 78), (⟨"LeagueOfficeModel", "findStill", "(I)V"⟩, 78), (⟨"LeagueOfficeModel", "canHave", "(IZ)I"⟩, 78), (⟨"LeagueOfficeModel", "goThrough", "(I)I"⟩, 78), (⟨"LeagueOfficeModel", "findBase", "(I)V"⟩, 78), (⟨"LeagueOfficeModel", "addEnds", "(III)V"⟩, 78), (⟨"LeagueOfficeModel", "gatePart", "(I)I"⟩, 78), (⟨"LeagueOfficeModel", "hasMeeting", "(I)Z"⟩, 78), (⟨"LeagueOfficeModel", "breaksBy", "(II)I"⟩, 78), (⟨"LeagueOfficeModel", "was", "(II)I"⟩, 78)]
theorem lw_r5 : ∀ q ∈ lw_privs_5, lw_okq q := List.forall_mem_cons.mpr ⟨lw_p64, List.forall_mem_cons.mpr ⟨lw_p65, List.forall_mem_cons.mpr ⟨lw_p66, List.forall_mem_cons.mpr ⟨lw_p67, List.forall_mem_cons.mpr ⟨lw_p68, List.forall_mem_cons.mpr ⟨lw_p69, List.forall_mem_cons.mpr ⟨lw_p70, List.forall_mem_cons.mpr ⟨lw_p71, List.forall_mem_cons.mpr ⟨lw_p72, List.forall_mem_cons.mpr ⟨lw_p73, List.forall_mem_cons.mpr ⟨lw_p74, List.forall_mem_cons.mpr ⟨lw_p75, fun _ h => absurd h List.not_mem_nil⟩⟩⟩⟩⟩⟩⟩⟩⟩⟩⟩⟩
def lw_privs : List (MethodName × Nat) := lw_privs_1 ++ (lw_privs_2 ++ (lw_privs_3 ++ (lw_privs_4 ++ (lw_privs_5))))
def lw_tbl : List Cond := k2_sels lw_privs ++ tables_1
theorem lw_privs_ok : ∀ q ∈ lw_privs, lw_okq q := by
  show ∀ q ∈ lw_privs_1 ++ (lw_privs_2 ++ (lw_privs_3 ++ (lw_privs_4 ++ (lw_privs_5)))), lw_okq q
  exact List.forall_mem_append.mpr ⟨lw_r1, List.forall_mem_append.mpr ⟨lw_r2, List.forall_mem_append.mpr ⟨lw_r3, List.forall_mem_append.mpr ⟨lw_r4, lw_r5⟩⟩⟩⟩

-- the classes: printed with the claim
def RX0 : String := "LeagueOffice$Book"
def TX0 : u_T := fun k => match k with
  | 0 => ("LeagueOffice$Book", "today", "I", false)
  | 1 => ("LeagueOffice$Book", "steps", "LLeagueOffice$Row;", true)
  | 2 => ("LeagueOffice$Book", "towns", "LLeagueOffice$Row;", true)
  | 3 => ("LeagueOffice$Book", "kinds", "LLeagueOffice$Row;", true)
  | 4 => ("LeagueOffice$Book", "homes", "LLeagueOffice$Row;", true)
  | 5 => ("LeagueOffice$Book", "guests", "LLeagueOffice$Row;", true)
  | 6 => ("LeagueOffice$Book", "days", "LLeagueOffice$Row;", true)
  | 7 => ("LeagueOffice$Book", "byDay", "LLeagueOffice$Row;", true)
  | 8 => ("LeagueOffice$Book", "toldGames", "LLeagueOffice$Row;", true)
  | 9 => ("LeagueOffice$Book", "toldScores", "LLeagueOffice$Row;", true)
  | 10 => ("LeagueOffice$Book", "toldDays", "LLeagueOffice$Row;", true)
  | _ => ("LeagueOffice$Book", "scores", "LLeagueOffice$Row;", true)
def tyX0 : Nat → FieldType := fun k => match k with
  | 0 => .int
  | 1 => .object "LeagueOffice$Row"
  | 2 => .object "LeagueOffice$Row"
  | 3 => .object "LeagueOffice$Row"
  | 4 => .object "LeagueOffice$Row"
  | 5 => .object "LeagueOffice$Row"
  | 6 => .object "LeagueOffice$Row"
  | 7 => .object "LeagueOffice$Row"
  | 8 => .object "LeagueOffice$Row"
  | 9 => .object "LeagueOffice$Row"
  | 10 => .object "LeagueOffice$Row"
  | _ => .object "LeagueOffice$Row"
theorem nmX0 : ∀ a, a < 12 → ∀ b, b < 12 → a ≠ b → (TX0 a).2.1 ≠ (TX0 b).2.1 := by decide +kernel
theorem tyX0_ok : ∀ k, k < 12 → parseFieldDescriptor (TX0 k).2.2.1 = some (tyX0 k) := by decide +kernel
def RX1 : String := "LeagueOffice$Chances"
def TX1 : u_T := fun k => match k with
  | 0 => ("LeagueOffice$Chances", "book", "LLeagueOffice$Book;", true)
  | 1 => ("LeagueOffice$Chances", "texts", "LLeagueOffice$Texts;", true)
  | 2 => ("LeagueOffice$Chances", "tables", "LLeagueOffice$Tables;", true)
  | 3 => ("LeagueOffice$Chances", "games", "LLeagueOffice$Row;", true)
  | 4 => ("LeagueOffice$Chances", "wins", "LLeagueOffice$Row;", true)
  | 5 => ("LeagueOffice$Chances", "draws", "LLeagueOffice$Row;", true)
  | 6 => ("LeagueOffice$Chances", "hows", "LLeagueOffice$Row;", true)
  | 7 => ("LeagueOffice$Chances", "places", "LLeagueOffice$Row;", true)
  | 8 => ("LeagueOffice$Chances", "sums", "[J", true)
  | _ => ("LeagueOffice$Chances", "ends", "I", false)
def tyX1 : Nat → FieldType := fun k => match k with
  | 0 => .object "LeagueOffice$Book"
  | 1 => .object "LeagueOffice$Texts"
  | 2 => .object "LeagueOffice$Tables"
  | 3 => .object "LeagueOffice$Row"
  | 4 => .object "LeagueOffice$Row"
  | 5 => .object "LeagueOffice$Row"
  | 6 => .object "LeagueOffice$Row"
  | 7 => .object "LeagueOffice$Row"
  | 8 => .array .long
  | _ => .int
theorem nmX1 : ∀ a, a < 10 → ∀ b, b < 10 → a ≠ b → (TX1 a).2.1 ≠ (TX1 b).2.1 := by decide +kernel
theorem tyX1_ok : ∀ k, k < 10 → parseFieldDescriptor (TX1 k).2.2.1 = some (tyX1 k) := by decide +kernel
def RX2 : String := "LeagueOffice$Failures"
def TX2 : u_T := fun k => match k with
  | 0 => ("LeagueOffice$Failures", "book", "LLeagueOffice$Book;", true)
  | 1 => ("LeagueOffice$Failures", "failings", "I", false)
  | 2 => ("LeagueOffice$Failures", "numbers", "LLeagueOffice$Row;", true)
  | 3 => ("LeagueOffice$Failures", "lastChanges", "LLeagueOffice$Row;", true)
  | 4 => ("LeagueOffice$Failures", "wasKinds", "LLeagueOffice$Row;", true)
  | 5 => ("LeagueOffice$Failures", "wasHomes", "LLeagueOffice$Row;", true)
  | _ => ("LeagueOffice$Failures", "wasGuests", "LLeagueOffice$Row;", true)
def tyX2 : Nat → FieldType := fun k => match k with
  | 0 => .object "LeagueOffice$Book"
  | 1 => .int
  | 2 => .object "LeagueOffice$Row"
  | 3 => .object "LeagueOffice$Row"
  | 4 => .object "LeagueOffice$Row"
  | 5 => .object "LeagueOffice$Row"
  | _ => .object "LeagueOffice$Row"
theorem nmX2 : ∀ a, a < 7 → ∀ b, b < 7 → a ≠ b → (TX2 a).2.1 ≠ (TX2 b).2.1 := by decide +kernel
theorem tyX2_ok : ∀ k, k < 7 → parseFieldDescriptor (TX2 k).2.2.1 = some (tyX2 k) := by decide +kernel
def RX3 : String := "LeagueOffice$Plan"
def TX3 : u_T := fun k => match k with
  | 0 => ("LeagueOffice$Plan", "book", "LLeagueOffice$Book;", true)
  | 1 => ("LeagueOffice$Plan", "ones", "LLeagueOffice$Row;", true)
  | 2 => ("LeagueOffice$Plan", "others", "LLeagueOffice$Row;", true)
  | 3 => ("LeagueOffice$Plan", "latest", "LLeagueOffice$Row;", true)
  | 4 => ("LeagueOffice$Plan", "bestBits", "I", false)
  | _ => ("LeagueOffice$Plan", "bestBreaks", "I", false)
def tyX3 : Nat → FieldType := fun k => match k with
  | 0 => .object "LeagueOffice$Book"
  | 1 => .object "LeagueOffice$Row"
  | 2 => .object "LeagueOffice$Row"
  | 3 => .object "LeagueOffice$Row"
  | 4 => .int
  | _ => .int
theorem nmX3 : ∀ a, a < 6 → ∀ b, b < 6 → a ≠ b → (TX3 a).2.1 ≠ (TX3 b).2.1 := by decide +kernel
theorem tyX3_ok : ∀ k, k < 6 → parseFieldDescriptor (TX3 k).2.2.1 = some (tyX3 k) := by decide +kernel
def RX4 : String := "LeagueOffice$Purse"
def TX4 : u_T := fun k => match k with
  | 0 => ("LeagueOffice$Purse", "book", "LLeagueOffice$Book;", true)
  | 1 => ("LeagueOffice$Purse", "tables", "LLeagueOffice$Tables;", true)
  | _ => ("LeagueOffice$Purse", "gateParts", "LLeagueOffice$Row;", true)
def tyX4 : Nat → FieldType := fun k => match k with
  | 0 => .object "LeagueOffice$Book"
  | 1 => .object "LeagueOffice$Tables"
  | _ => .object "LeagueOffice$Row"
theorem nmX4 : ∀ a, a < 3 → ∀ b, b < 3 → a ≠ b → (TX4 a).2.1 ≠ (TX4 b).2.1 := by decide +kernel
theorem tyX4_ok : ∀ k, k < 3 → parseFieldDescriptor (TX4 k).2.2.1 = some (tyX4 k) := by decide +kernel
def RX5 : String := "LeagueOffice$Reader"
def TX5 : u_T := fun k => match k with
  | 0 => ("LeagueOffice$Reader", "texts", "LLeagueOffice$Texts;", true)
  | 1 => ("LeagueOffice$Reader", "tape", "LLeagueOffice$Row;", true)
  | 2 => ("LeagueOffice$Reader", "tokens", "LLeagueOffice$Row;", true)
  | 3 => ("LeagueOffice$Reader", "places", "LLeagueOffice$Row;", true)
  | 4 => ("LeagueOffice$Reader", "values", "LLeagueOffice$Row;", true)
  | _ => ("LeagueOffice$Reader", "at", "I", false)
def tyX5 : Nat → FieldType := fun k => match k with
  | 0 => .object "LeagueOffice$Texts"
  | 1 => .object "LeagueOffice$Row"
  | 2 => .object "LeagueOffice$Row"
  | 3 => .object "LeagueOffice$Row"
  | 4 => .object "LeagueOffice$Row"
  | _ => .int
theorem nmX5 : ∀ a, a < 6 → ∀ b, b < 6 → a ≠ b → (TX5 a).2.1 ≠ (TX5 b).2.1 := by decide +kernel
theorem tyX5_ok : ∀ k, k < 6 → parseFieldDescriptor (TX5 k).2.2.1 = some (tyX5 k) := by decide +kernel
def RX6 : String := "LeagueOffice$Row"
def TX6 : u_T := fun k => match k with
  | 0 => ("LeagueOffice$Row", "items", "[I", true)
  | _ => ("LeagueOffice$Row", "used", "I", false)
def tyX6 : Nat → FieldType := fun k => match k with
  | 0 => .array .int
  | _ => .int
theorem nmX6 : ∀ a, a < 2 → ∀ b, b < 2 → a ≠ b → (TX6 a).2.1 ≠ (TX6 b).2.1 := by decide +kernel
theorem tyX6_ok : ∀ k, k < 2 → parseFieldDescriptor (TX6 k).2.2.1 = some (tyX6 k) := by decide +kernel
def RX7 : String := "LeagueOffice$Sheets"
def TX7 : u_T := fun k => match k with
  | 0 => ("LeagueOffice$Sheets", "sorts", "LLeagueOffice$Row;", true)
  | 1 => ("LeagueOffice$Sheets", "sizes", "LLeagueOffice$Row;", true)
  | _ => ("LeagueOffice$Sheets", "cells", "LLeagueOffice$Row;", true)
def tyX7 : Nat → FieldType := fun k => match k with
  | 0 => .object "LeagueOffice$Row"
  | 1 => .object "LeagueOffice$Row"
  | _ => .object "LeagueOffice$Row"
theorem nmX7 : ∀ a, a < 3 → ∀ b, b < 3 → a ≠ b → (TX7 a).2.1 ≠ (TX7 b).2.1 := by decide +kernel
theorem tyX7_ok : ∀ k, k < 3 → parseFieldDescriptor (TX7 k).2.2.1 = some (tyX7 k) := by decide +kernel
def RX8 : String := "LeagueOffice$Squad"
def TX8 : u_T := fun k => match k with
  | 0 => ("LeagueOffice$Squad", "book", "LLeagueOffice$Book;", true)
  | 1 => ("LeagueOffice$Squad", "texts", "LLeagueOffice$Texts;", true)
  | 2 => ("LeagueOffice$Squad", "players", "I", false)
  | 3 => ("LeagueOffice$Squad", "signedPlayers", "LLeagueOffice$Row;", true)
  | 4 => ("LeagueOffice$Squad", "signedClubs", "LLeagueOffice$Row;", true)
  | 5 => ("LeagueOffice$Squad", "signedFroms", "LLeagueOffice$Row;", true)
  | 6 => ("LeagueOffice$Squad", "cardPlayers", "LLeagueOffice$Row;", true)
  | 7 => ("LeagueOffice$Squad", "cardGames", "LLeagueOffice$Row;", true)
  | 8 => ("LeagueOffice$Squad", "cardKinds", "LLeagueOffice$Row;", true)
  | 9 => ("LeagueOffice$Squad", "playingPlayers", "LLeagueOffice$Row;", true)
  | 10 => ("LeagueOffice$Squad", "playingGames", "LLeagueOffice$Row;", true)
  | 11 => ("LeagueOffice$Squad", "holders", "LLeagueOffice$Row;", true)
  | 12 => ("LeagueOffice$Squad", "marks", "LLeagueOffice$Row;", true)
  | _ => ("LeagueOffice$Squad", "wrongs", "LLeagueOffice$Row;", true)
def tyX8 : Nat → FieldType := fun k => match k with
  | 0 => .object "LeagueOffice$Book"
  | 1 => .object "LeagueOffice$Texts"
  | 2 => .int
  | 3 => .object "LeagueOffice$Row"
  | 4 => .object "LeagueOffice$Row"
  | 5 => .object "LeagueOffice$Row"
  | 6 => .object "LeagueOffice$Row"
  | 7 => .object "LeagueOffice$Row"
  | 8 => .object "LeagueOffice$Row"
  | 9 => .object "LeagueOffice$Row"
  | 10 => .object "LeagueOffice$Row"
  | 11 => .object "LeagueOffice$Row"
  | 12 => .object "LeagueOffice$Row"
  | _ => .object "LeagueOffice$Row"
theorem nmX8 : ∀ a, a < 14 → ∀ b, b < 14 → a ≠ b → (TX8 a).2.1 ≠ (TX8 b).2.1 := by decide +kernel
theorem tyX8_ok : ∀ k, k < 14 → parseFieldDescriptor (TX8 k).2.2.1 = some (tyX8 k) := by decide +kernel
def RX9 : String := "LeagueOffice$Tables"
def TX9 : u_T := fun k => match k with
  | 0 => ("LeagueOffice$Tables", "book", "LLeagueOffice$Book;", true)
  | 1 => ("LeagueOffice$Tables", "texts", "LLeagueOffice$Texts;", true)
  | 2 => ("LeagueOffice$Tables", "takenClubs", "LLeagueOffice$Row;", true)
  | 3 => ("LeagueOffice$Tables", "takenPoints", "LLeagueOffice$Row;", true)
  | 4 => ("LeagueOffice$Tables", "takenFroms", "LLeagueOffice$Row;", true)
  | 5 => ("LeagueOffice$Tables", "points", "[J", true)
  | 6 => ("LeagueOffice$Tables", "goals", "LLeagueOffice$Row;", true)
  | 7 => ("LeagueOffice$Tables", "made", "LLeagueOffice$Row;", true)
  | 8 => ("LeagueOffice$Tables", "won", "LLeagueOffice$Row;", true)
  | 9 => ("LeagueOffice$Tables", "likes", "LLeagueOffice$Row;", true)
  | 10 => ("LeagueOffice$Tables", "asked", "LLeagueOffice$Row;", true)
  | _ => ("LeagueOffice$Tables", "likeDay", "I", false)
def tyX9 : Nat → FieldType := fun k => match k with
  | 0 => .object "LeagueOffice$Book"
  | 1 => .object "LeagueOffice$Texts"
  | 2 => .object "LeagueOffice$Row"
  | 3 => .object "LeagueOffice$Row"
  | 4 => .object "LeagueOffice$Row"
  | 5 => .array .long
  | 6 => .object "LeagueOffice$Row"
  | 7 => .object "LeagueOffice$Row"
  | 8 => .object "LeagueOffice$Row"
  | 9 => .object "LeagueOffice$Row"
  | 10 => .object "LeagueOffice$Row"
  | _ => .int
theorem nmX9 : ∀ a, a < 12 → ∀ b, b < 12 → a ≠ b → (TX9 a).2.1 ≠ (TX9 b).2.1 := by decide +kernel
theorem tyX9_ok : ∀ k, k < 12 → parseFieldDescriptor (TX9 k).2.2.1 = some (tyX9 k) := by decide +kernel
def RX10 : String := "LeagueOffice$Texts"
def TX10 : u_T := fun k => match k with
  | 0 => ("LeagueOffice$Texts", "size", "I", false)
  | 1 => ("LeagueOffice$Texts", "code", "LLeagueOffice$Row;", true)
  | 2 => ("LeagueOffice$Texts", "starts", "LLeagueOffice$Row;", true)
  | 3 => ("LeagueOffice$Texts", "ends", "LLeagueOffice$Row;", true)
  | 4 => ("LeagueOffice$Texts", "names", "LLeagueOffice$Row;", true)
  | 5 => ("LeagueOffice$Texts", "stack", "LLeagueOffice$Row;", true)
  | 6 => ("LeagueOffice$Texts", "ruleTexts", "LLeagueOffice$Row;", true)
  | _ => ("LeagueOffice$Texts", "ruleFroms", "LLeagueOffice$Row;", true)
def tyX10 : Nat → FieldType := fun k => match k with
  | 0 => .int
  | 1 => .object "LeagueOffice$Row"
  | 2 => .object "LeagueOffice$Row"
  | 3 => .object "LeagueOffice$Row"
  | 4 => .object "LeagueOffice$Row"
  | 5 => .object "LeagueOffice$Row"
  | 6 => .object "LeagueOffice$Row"
  | _ => .object "LeagueOffice$Row"
theorem nmX10 : ∀ a, a < 8 → ∀ b, b < 8 → a ≠ b → (TX10 a).2.1 ≠ (TX10 b).2.1 := by decide +kernel
theorem tyX10_ok : ∀ k, k < 8 → parseFieldDescriptor (TX10 k).2.2.1 = some (tyX10 k) := by decide +kernel
def RX11 : String := "LeagueOffice"
def TX11 : u_T := fun k => match k with
  | 0 => ("LeagueOffice", "book", "LLeagueOffice$Book;", true)
  | 1 => ("LeagueOffice", "texts", "LLeagueOffice$Texts;", true)
  | 2 => ("LeagueOffice", "reader", "LLeagueOffice$Reader;", true)
  | 3 => ("LeagueOffice", "tables", "LLeagueOffice$Tables;", true)
  | 4 => ("LeagueOffice", "squad", "LLeagueOffice$Squad;", true)
  | 5 => ("LeagueOffice", "failures", "LLeagueOffice$Failures;", true)
  | 6 => ("LeagueOffice", "chances", "LLeagueOffice$Chances;", true)
  | 7 => ("LeagueOffice", "purse", "LLeagueOffice$Purse;", true)
  | 8 => ("LeagueOffice", "plan", "LLeagueOffice$Plan;", true)
  | _ => ("LeagueOffice", "sheets", "LLeagueOffice$Sheets;", true)
def tyX11 : Nat → FieldType := fun k => match k with
  | 0 => .object "LeagueOffice$Book"
  | 1 => .object "LeagueOffice$Texts"
  | 2 => .object "LeagueOffice$Reader"
  | 3 => .object "LeagueOffice$Tables"
  | 4 => .object "LeagueOffice$Squad"
  | 5 => .object "LeagueOffice$Failures"
  | 6 => .object "LeagueOffice$Chances"
  | 7 => .object "LeagueOffice$Purse"
  | 8 => .object "LeagueOffice$Plan"
  | _ => .object "LeagueOffice$Sheets"
theorem nmX11 : ∀ a, a < 10 → ∀ b, b < 10 → a ≠ b → (TX11 a).2.1 ≠ (TX11 b).2.1 := by decide +kernel
theorem tyX11_ok : ∀ k, k < 10 → parseFieldDescriptor (TX11 k).2.2.1 = some (tyX11 k) := by decide +kernel
def RX12 : String := "LeagueOfficeModel"
def TX12 : u_T := fun k => match k with
  | 0 => ("LeagueOfficeModel", "code", "I", false)
  | 1 => ("LeagueOfficeModel", "today", "I", false)
  | 2 => ("LeagueOfficeModel", "clubs", "I", false)
  | 3 => ("LeagueOfficeModel", "stepOf", "[I", true)
  | 4 => ("LeagueOfficeModel", "townOf", "[I", true)
  | 5 => ("LeagueOfficeModel", "games", "I", false)
  | 6 => ("LeagueOfficeModel", "kind", "[I", true)
  | 7 => ("LeagueOfficeModel", "home", "[I", true)
  | 8 => ("LeagueOfficeModel", "guest", "[I", true)
  | 9 => ("LeagueOfficeModel", "day", "[I", true)
  | 10 => ("LeagueOfficeModel", "results", "I", false)
  | 11 => ("LeagueOfficeModel", "resultGame", "[I", true)
  | 12 => ("LeagueOfficeModel", "resultIs", "[I", true)
  | 13 => ("LeagueOfficeModel", "resultDay", "[I", true)
  | 14 => ("LeagueOfficeModel", "tape", "[B", true)
  | 15 => ("LeagueOfficeModel", "taped", "I", false)
  | 16 => ("LeagueOfficeModel", "texts", "I", false)
  | 17 => ("LeagueOfficeModel", "partEnd", "[I", true)
  | 18 => ("LeagueOfficeModel", "act", "[I", true)
  | 19 => ("LeagueOfficeModel", "with", "[I", true)
  | 20 => ("LeagueOfficeModel", "from", "I", false)
  | 21 => ("LeagueOfficeModel", "upTo", "I", false)
  | 22 => ("LeagueOfficeModel", "token", "I", false)
  | 23 => ("LeagueOfficeModel", "value", "I", false)
  | 24 => ("LeagueOfficeModel", "fault", "I", false)
  | 25 => ("LeagueOfficeModel", "open", "I", false)
  | 26 => ("LeagueOfficeModel", "laid", "I", false)
  | 27 => ("LeagueOfficeModel", "rules", "I", false)
  | 28 => ("LeagueOfficeModel", "ruleText", "[I", true)
  | 29 => ("LeagueOfficeModel", "ruleFrom", "[I", true)
  | 30 => ("LeagueOfficeModel", "facts", "[I", true)
  | 31 => ("LeagueOfficeModel", "pile", "[I", true)
  | 32 => ("LeagueOfficeModel", "takings", "I", false)
  | 33 => ("LeagueOfficeModel", "takenClub", "[I", true)
  | 34 => ("LeagueOfficeModel", "takenPoints", "[I", true)
  | 35 => ("LeagueOfficeModel", "takenFrom", "[I", true)
  | 36 => ("LeagueOfficeModel", "goalsOf", "[I", true)
  | 37 => ("LeagueOfficeModel", "madeOf", "[I", true)
  | 38 => ("LeagueOfficeModel", "wonOf", "[I", true)
  | 39 => ("LeagueOfficeModel", "pointsNow", "[J", true)
  | 40 => ("LeagueOfficeModel", "likeNow", "[J", true)
  | 41 => ("LeagueOfficeModel", "players", "I", false)
  | 42 => ("LeagueOfficeModel", "tellings", "I", false)
  | 43 => ("LeagueOfficeModel", "toldPlayer", "[I", true)
  | 44 => ("LeagueOfficeModel", "toldClub", "[I", true)
  | 45 => ("LeagueOfficeModel", "toldFrom", "[I", true)
  | 46 => ("LeagueOfficeModel", "cards", "I", false)
  | 47 => ("LeagueOfficeModel", "cardPlayer", "[I", true)
  | 48 => ("LeagueOfficeModel", "cardGame", "[I", true)
  | 49 => ("LeagueOfficeModel", "cardKind", "[I", true)
  | 50 => ("LeagueOfficeModel", "playedMany", "I", false)
  | 51 => ("LeagueOfficeModel", "playedPlayer", "[I", true)
  | 52 => ("LeagueOfficeModel", "playedGame", "[I", true)
  | 53 => ("LeagueOfficeModel", "bannedGame", "[I", true)
  | 54 => ("LeagueOfficeModel", "bannedMany", "[I", true)
  | 55 => ("LeagueOfficeModel", "isTaken", "[Z", true)
  | 56 => ("LeagueOfficeModel", "hasFailed", "[Z", true)
  | 57 => ("LeagueOfficeModel", "isChanged", "[Z", true)
  | 58 => ("LeagueOfficeModel", "wasKind", "[I", true)
  | 59 => ("LeagueOfficeModel", "wasHome", "[I", true)
  | 60 => ("LeagueOfficeModel", "wasGuest", "[I", true)
  | 61 => ("LeagueOfficeModel", "wasFail", "[I", true)
  | 62 => ("LeagueOfficeModel", "lastFail", "[I", true)
  | 63 => ("LeagueOfficeModel", "stills", "I", false)
  | 64 => ("LeagueOfficeModel", "still", "[I", true)
  | 65 => ("LeagueOfficeModel", "placeBy", "[I", true)
  | 66 => ("LeagueOfficeModel", "sumBy", "[J", true)
  | 67 => ("LeagueOfficeModel", "pointsBase", "[J", true)
  | 68 => ("LeagueOfficeModel", "goalsBase", "[I", true)
  | 69 => ("LeagueOfficeModel", "madeBase", "[I", true)
  | 70 => ("LeagueOfficeModel", "wonBase", "[I", true)
  | 71 => ("LeagueOfficeModel", "meetings", "I", false)
  | 72 => ("LeagueOfficeModel", "meetOne", "[I", true)
  | 73 => ("LeagueOfficeModel", "meetOther", "[I", true)
  | 74 => ("LeagueOfficeModel", "sheetSort", "[I", true)
  | 75 => ("LeagueOfficeModel", "sheetSize", "[I", true)
  | 76 => ("LeagueOfficeModel", "cells", "[I", true)
  | _ => ("LeagueOfficeModel", "copied", "[I", true)
def tyX12 : Nat → FieldType := fun k => match k with
  | 0 => .int
  | 1 => .int
  | 2 => .int
  | 3 => .array .int
  | 4 => .array .int
  | 5 => .int
  | 6 => .array .int
  | 7 => .array .int
  | 8 => .array .int
  | 9 => .array .int
  | 10 => .int
  | 11 => .array .int
  | 12 => .array .int
  | 13 => .array .int
  | 14 => .array .byte
  | 15 => .int
  | 16 => .int
  | 17 => .array .int
  | 18 => .array .int
  | 19 => .array .int
  | 20 => .int
  | 21 => .int
  | 22 => .int
  | 23 => .int
  | 24 => .int
  | 25 => .int
  | 26 => .int
  | 27 => .int
  | 28 => .array .int
  | 29 => .array .int
  | 30 => .array .int
  | 31 => .array .int
  | 32 => .int
  | 33 => .array .int
  | 34 => .array .int
  | 35 => .array .int
  | 36 => .array .int
  | 37 => .array .int
  | 38 => .array .int
  | 39 => .array .long
  | 40 => .array .long
  | 41 => .int
  | 42 => .int
  | 43 => .array .int
  | 44 => .array .int
  | 45 => .array .int
  | 46 => .int
  | 47 => .array .int
  | 48 => .array .int
  | 49 => .array .int
  | 50 => .int
  | 51 => .array .int
  | 52 => .array .int
  | 53 => .array .int
  | 54 => .array .int
  | 55 => .array .boolean
  | 56 => .array .boolean
  | 57 => .array .boolean
  | 58 => .array .int
  | 59 => .array .int
  | 60 => .array .int
  | 61 => .array .int
  | 62 => .array .int
  | 63 => .int
  | 64 => .array .int
  | 65 => .array .int
  | 66 => .array .long
  | 67 => .array .long
  | 68 => .array .int
  | 69 => .array .int
  | 70 => .array .int
  | 71 => .int
  | 72 => .array .int
  | 73 => .array .int
  | 74 => .array .int
  | 75 => .array .int
  | 76 => .array .int
  | _ => .array .int
theorem nmX12 : ∀ a, a < 78 → ∀ b, b < 78 → a ≠ b → (TX12 a).2.1 ≠ (TX12 b).2.1 := by decide +kernel
theorem tyX12_ok : ∀ k, k < 78 → parseFieldDescriptor (TX12 k).2.2.1 = some (tyX12 k) := by decide +kernel
abbrev vwCl : List vw_C := [(RX0, TX0, 12), (RX1, TX1, 10), (RX2, TX2, 7), (RX3, TX3, 6), (RX4, TX4, 3), (RX5, TX5, 6), (RX6, TX6, 2), (RX7, TX7, 3), (RX8, TX8, 14), (RX9, TX9, 12), (RX10, TX10, 8), (RX11, TX11, 10), (RX12, TX12, 78)]
/-- the words that hold in every frame -/
def mx_GT : List Cond := lw_tbl.filter goodWord
theorem mx_gt {w : Cond} (i : Nat) (h : lw_tbl[i]? = some w) (hg : goodWord w = true) : w ∈ mx_GT := List.mem_filter.mpr ⟨List.mem_of_getElem? h, hg⟩
def mx_NT : List Cond := lw_tbl.filter (fun w => match w with | .fieldLinkNest .. => true | .methodLinkNest .. => true | _ => false)
set_option maxRecDepth 100000 in
theorem mx_w0 : ∀ w ∈ u_ws RX0 TX0 12, w ∈ mx_GT := by
  have h1 : u_ws RX0 TX0 12 = [182, 184, 186, 188, 190, 192, 194, 196, 198, 200, 202, 204].filterMap (fun i => lw_tbl[i]?) := by decide +kernel
  have h2 : (u_ws RX0 TX0 12).all goodWord = true := by decide +kernel
  intro w hw
  have h3 := List.all_eq_true.mp h2 w hw
  rw [h1] at hw
  obtain ⟨i, -, hi⟩ := List.mem_filterMap.mp hw
  exact mx_gt i hi h3
set_option maxRecDepth 100000 in
theorem mx_w1 : ∀ w ∈ u_ws RX1 TX1 10, w ∈ mx_GT := by
  have h1 : u_ws RX1 TX1 10 = [430, 432, 434, 436, 438, 440, 442, 444, 446, 448].filterMap (fun i => lw_tbl[i]?) := by decide +kernel
  have h2 : (u_ws RX1 TX1 10).all goodWord = true := by decide +kernel
  intro w hw
  have h3 := List.all_eq_true.mp h2 w hw
  rw [h1] at hw
  obtain ⟨i, -, hi⟩ := List.mem_filterMap.mp hw
  exact mx_gt i hi h3
set_option maxRecDepth 100000 in
theorem mx_w2 : ∀ w ∈ u_ws RX2 TX2 7, w ∈ mx_GT := by
  have h1 : u_ws RX2 TX2 7 = [397, 399, 401, 403, 405, 407, 409].filterMap (fun i => lw_tbl[i]?) := by decide +kernel
  have h2 : (u_ws RX2 TX2 7).all goodWord = true := by decide +kernel
  intro w hw
  have h3 := List.all_eq_true.mp h2 w hw
  rw [h1] at hw
  obtain ⟨i, -, hi⟩ := List.mem_filterMap.mp hw
  exact mx_gt i hi h3
set_option maxRecDepth 100000 in
theorem mx_w3 : ∀ w ∈ u_ws RX3 TX3 6, w ∈ mx_GT := by
  have h1 : u_ws RX3 TX3 6 = [486, 488, 490, 492, 494, 496].filterMap (fun i => lw_tbl[i]?) := by decide +kernel
  have h2 : (u_ws RX3 TX3 6).all goodWord = true := by decide +kernel
  intro w hw
  have h3 := List.all_eq_true.mp h2 w hw
  rw [h1] at hw
  obtain ⟨i, -, hi⟩ := List.mem_filterMap.mp hw
  exact mx_gt i hi h3
set_option maxRecDepth 100000 in
theorem mx_w4 : ∀ w ∈ u_ws RX4 TX4 3, w ∈ mx_GT := by
  have h1 : u_ws RX4 TX4 3 = [462, 464, 466].filterMap (fun i => lw_tbl[i]?) := by decide +kernel
  have h2 : (u_ws RX4 TX4 3).all goodWord = true := by decide +kernel
  intro w hw
  have h3 := List.all_eq_true.mp h2 w hw
  rw [h1] at hw
  obtain ⟨i, -, hi⟩ := List.mem_filterMap.mp hw
  exact mx_gt i hi h3
set_option maxRecDepth 100000 in
theorem mx_w5 : ∀ w ∈ u_ws RX5 TX5 6, w ∈ mx_GT := by
  have h1 : u_ws RX5 TX5 6 = [259, 261, 263, 265, 267, 269].filterMap (fun i => lw_tbl[i]?) := by decide +kernel
  have h2 : (u_ws RX5 TX5 6).all goodWord = true := by decide +kernel
  intro w hw
  have h3 := List.all_eq_true.mp h2 w hw
  rw [h1] at hw
  obtain ⟨i, -, hi⟩ := List.mem_filterMap.mp hw
  exact mx_gt i hi h3
set_option maxRecDepth 100000 in
theorem mx_w6 : ∀ w ∈ u_ws RX6 TX6 2, w ∈ mx_GT := by
  have h1 : u_ws RX6 TX6 2 = [123, 125].filterMap (fun i => lw_tbl[i]?) := by decide +kernel
  have h2 : (u_ws RX6 TX6 2).all goodWord = true := by decide +kernel
  intro w hw
  have h3 := List.all_eq_true.mp h2 w hw
  rw [h1] at hw
  obtain ⟨i, -, hi⟩ := List.mem_filterMap.mp hw
  exact mx_gt i hi h3
set_option maxRecDepth 100000 in
theorem mx_w7 : ∀ w ∈ u_ws RX7 TX7 3, w ∈ mx_GT := by
  have h1 : u_ws RX7 TX7 3 = [510, 512, 514].filterMap (fun i => lw_tbl[i]?) := by decide +kernel
  have h2 : (u_ws RX7 TX7 3).all goodWord = true := by decide +kernel
  intro w hw
  have h3 := List.all_eq_true.mp h2 w hw
  rw [h1] at hw
  obtain ⟨i, -, hi⟩ := List.mem_filterMap.mp hw
  exact mx_gt i hi h3
set_option maxRecDepth 100000 in
theorem mx_w8 : ∀ w ∈ u_ws RX8 TX8 14, w ∈ mx_GT := by
  have h1 : u_ws RX8 TX8 14 = [353, 355, 357, 359, 361, 363, 365, 367, 369, 371, 373, 375, 377, 379].filterMap (fun i => lw_tbl[i]?) := by decide +kernel
  have h2 : (u_ws RX8 TX8 14).all goodWord = true := by decide +kernel
  intro w hw
  have h3 := List.all_eq_true.mp h2 w hw
  rw [h1] at hw
  obtain ⟨i, -, hi⟩ := List.mem_filterMap.mp hw
  exact mx_gt i hi h3
set_option maxRecDepth 100000 in
theorem mx_w9 : ∀ w ∈ u_ws RX9 TX9 12, w ∈ mx_GT := by
  have h1 : u_ws RX9 TX9 12 = [295, 297, 299, 301, 303, 305, 307, 309, 311, 313, 315, 317].filterMap (fun i => lw_tbl[i]?) := by decide +kernel
  have h2 : (u_ws RX9 TX9 12).all goodWord = true := by decide +kernel
  intro w hw
  have h3 := List.all_eq_true.mp h2 w hw
  rw [h1] at hw
  obtain ⟨i, -, hi⟩ := List.mem_filterMap.mp hw
  exact mx_gt i hi h3
set_option maxRecDepth 100000 in
theorem mx_w10 : ∀ w ∈ u_ws RX10 TX10 8, w ∈ mx_GT := by
  have h1 : u_ws RX10 TX10 8 = [227, 229, 231, 233, 235, 237, 239, 241].filterMap (fun i => lw_tbl[i]?) := by decide +kernel
  have h2 : (u_ws RX10 TX10 8).all goodWord = true := by decide +kernel
  intro w hw
  have h3 := List.all_eq_true.mp h2 w hw
  rw [h1] at hw
  obtain ⟨i, -, hi⟩ := List.mem_filterMap.mp hw
  exact mx_gt i hi h3
set_option maxRecDepth 100000 in
theorem mx_w11 : ∀ w ∈ u_ws RX11 TX11 10, w ∈ mx_GT := by
  have h1 : u_ws RX11 TX11 10 = [706, 708, 710, 712, 714, 716, 718, 720, 722, 724].filterMap (fun i => lw_tbl[i]?) := by decide +kernel
  have h2 : (u_ws RX11 TX11 10).all goodWord = true := by decide +kernel
  intro w hw
  have h3 := List.all_eq_true.mp h2 w hw
  rw [h1] at hw
  obtain ⟨i, -, hi⟩ := List.mem_filterMap.mp hw
  exact mx_gt i hi h3
set_option maxRecDepth 100000 in
theorem mx_w12 : ∀ w ∈ u_ws RX12 TX12 78, w ∈ mx_GT := by
  have h1 : u_ws RX12 TX12 78 = [1530, 1532, 1534, 1536, 1538, 1540, 1542, 1544, 1546, 1548, 1550, 1552, 1554, 1556, 1558, 1560, 1562, 1564, 1566, 1568, 1570, 1572, 1574, 1576, 1578, 1580, 1582, 1584, 1586, 1588, 1590, 1592, 1594, 1596, 1598, 1600, 1602, 1604, 1606, 1608, 1610, 1612, 1614, 1616, 1618, 1620, 1622, 1624, 1626, 1628, 1630, 1632, 1634, 1636, 1638, 1640, 1642, 1644, 1646, 1648, 1650, 1652, 1654, 1656, 1658, 1660, 1662, 1664, 1666, 1668, 1670, 1672, 1674, 1676, 1678, 1680, 1682, 1684].filterMap (fun i => lw_tbl[i]?) := by decide +kernel
  have h2 : (u_ws RX12 TX12 78).all goodWord = true := by decide +kernel
  intro w hw
  have h3 := List.all_eq_true.mp h2 w hw
  rw [h1] at hw
  obtain ⟨i, -, hi⟩ := List.mem_filterMap.mp hw
  exact mx_gt i hi h3
/-- static fields that nobody writes -/
def mx_SF : List (String × String × String × Value) := [("java/lang/String", "COMPACT_STRINGS", "Z", .int 1), ("jdk/internal/util/Preconditions", "SIOOBE_FORMATTER", "Ljava/util/function/BiFunction;", .retAddr 0), ("java/lang/StringUTF16", "$assertionsDisabled", "Z", .int 1), ("java/lang/StringUTF16", "HI_BYTE_SHIFT", "I", .int 0), ("java/lang/StringUTF16", "LO_BYTE_SHIFT", "I", .int 8), ("LeagueOffice", "COUNTS", "[I", .ref 1000), ("LeagueOffice", "SERVES", "[I", .ref 1001), ("LeagueOffice", "GATES", "[I", .ref 1002), ("LeagueOffice", "HOME_PARTS", "[I", .ref 1003), ("LeagueOffice", "UNDER", "[I", .ref 1004), ("LeagueOfficeModel", "FIRST", "[B", .ref 1005), ("LeagueOfficeModel", "PARTS", "[J", .ref 1006), ("LeagueOfficeModel", "NAMES", "[J", .ref 1007)]
/-- string constants -/
def mx_SR : List (String × Nat × String) := [("LeagueOffice", 89, "win 3 ; draw 1 ; like goals * 100 + made ; ban kind = 2 or cards = 5 ;"), ("LeagueOffice$Reader", 111, "goals"), ("LeagueOffice$Reader", 113, "made"), ("LeagueOffice$Reader", 115, "won"), ("LeagueOffice$Reader", 117, "cards"), ("LeagueOffice$Reader", 119, "kind"), ("LeagueOffice$Reader", 121, "late"), ("LeagueOffice$Reader", 123, "win"), ("LeagueOffice$Reader", 125, "draw"), ("LeagueOffice$Reader", 127, "like"), ("LeagueOffice$Reader", 129, "ban"), ("LeagueOffice$Reader", 131, "or"), ("LeagueOffice$Reader", 133, "and"), ("LeagueOffice$Reader", 135, "not")]
/-- what a new object holds -/
def mx_DF : List (List Value) := [[.int 0, .null, .null, .null, .null, .null, .null, .null, .null, .null, .null, .null],
  [.null, .null, .null, .null, .null, .null, .null, .null, .null, .int 0],
  [.null, .int 0, .null, .null, .null, .null, .null],
  [.null, .null, .null, .null, .int 0, .int 0],
  [.null, .null, .null],
  [.null, .null, .null, .null, .null, .int 0],
  [.null, .int 0],
  [.null, .null, .null],
  [.null, .null, .int 0, .null, .null, .null, .null, .null, .null, .null, .null, .null, .null, .null],
  [.null, .null, .null, .null, .null, .null, .null, .null, .null, .null, .null, .int 0],
  [.int 0, .null, .null, .null, .null, .null, .null, .null],
  [.null, .null, .null, .null, .null, .null, .null, .null, .null, .null],
  [.int 0, .int 0, .int 0, .null, .null, .int 0, .null, .null, .null, .null, .int 0, .null, .null, .null, .null, .int 0, .int 0, .null, .null, .null, .int 0, .int 0, .int 0, .int 0, .int 0, .int 0, .int 0, .int 0, .null, .null, .null, .null, .int 0, .null, .null, .null, .null, .null, .null, .null, .null, .int 0, .int 0, .null, .null, .null, .int 0, .null, .null, .null, .int 0, .null, .null, .null, .null, .null, .null, .null, .null, .null, .null, .null, .null, .int 0, .null, .null, .null, .null, .null, .null, .null, .int 0, .null, .null, .null, .null, .null, .null]]
/-- static arrays, by their numbers: kind, contents -/
def mx_SAL : List (Nat × Nat × List Int) := [(0, 0, [1, 0, 1, 1, 1, 0]),
  (1, 0, [1, 0, 1, 0, 1, 0]),
  (2, 0, [300, 150, 240, 0, 480, 0]),
  (3, 0, [100, 50, 100, 100, 80, 100]),
  (4, 0, [-1, 0, 0, 0, 2, 3]),
  (5, 1, [119, 105, 110, 32, 51, 32, 59, 32, 100, 114, 97, 119, 32, 49, 32, 59, 32, 108, 105, 107, 101, 32, 103, 111, 97, 108, 115, 32, 42, 32, 49, 48, 48, 32, 43, 32, 109, 97, 100, 101, 32, 59, 32, 98, 97, 110, 32, 107, 105, 110, 100, 32, 61, 32, 50, 32, 111, 114, 32, 99, 97, 114, 100, 115, 32, 61, 32, 53, 32, 59]),
  (6, 3, [17024, 91904, 243059, 1499]),
  (7, 3, [4016404, 256721, 17186, 1627255, 223456, 237470]),
  (200, 1, [119, 105, 110, 32, 51, 32, 59, 32, 100, 114, 97, 119, 32, 49, 32, 59, 32, 108, 105, 107, 101, 32, 103, 111, 97, 108, 115, 32, 42, 32, 49, 48, 48, 32, 43, 32, 109, 97, 100, 101, 32, 59, 32, 98, 97, 110, 32, 107, 105, 110, 100, 32, 61, 32, 50, 32, 111, 114, 32, 99, 97, 114, 100, 115, 32, 61, 32, 53, 32, 59]),
  (201, 1, [103, 111, 97, 108, 115]),
  (202, 1, [109, 97, 100, 101]),
  (203, 1, [119, 111, 110]),
  (204, 1, [99, 97, 114, 100, 115]),
  (205, 1, [107, 105, 110, 100]),
  (206, 1, [108, 97, 116, 101]),
  (207, 1, [119, 105, 110]),
  (208, 1, [100, 114, 97, 119]),
  (209, 1, [108, 105, 107, 101]),
  (210, 1, [98, 97, 110]),
  (211, 1, [111, 114]),
  (212, 1, [97, 110, 100]),
  (213, 1, [110, 111, 116])]
