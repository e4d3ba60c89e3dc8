section
-- ===== PART A: goes FIRST, ahead of the names: the tables' words, and 'selects' of the private methods out of them =====
/-- a private method of a class that the tables say can be made, by its rows of tables_1 -/
def lw_okq (q : MethodName × Nat) : Prop := (q.1.cls ≠ "java/lang/invoke/MethodHandle" ∧ q.1.cls ≠ "java/lang/invoke/VarHandle") ∧ Cond.instantiable q.1.cls q.2 ∈ tables_1 ∧ Cond.privateMethod q.1 ∈ tables_1 ∧ Cond.instanceMethod q.1 ∈ tables_1
theorem lw_p0 : lw_okq (⟨"LeagueOffice$Reader", "split", "()V"⟩, 6) := ⟨⟨by decide +kernel, by decide +kernel⟩, List.mem_of_getElem? (i := 169) (by decide +kernel), List.mem_of_getElem? (i := 499) (by decide +kernel), List.mem_of_getElem? (i := 500) (by decide +kernel)⟩
theorem lw_p1 : lw_okq (⟨"LeagueOffice$Reader", "behindBlanks", "(I)I"⟩, 6) := ⟨⟨by decide +kernel, by decide +kernel⟩, List.mem_of_getElem? (i := 169) (by decide +kernel), List.mem_of_getElem? (i := 507) (by decide +kernel), List.mem_of_getElem? (i := 508) (by decide +kernel)⟩
theorem lw_p2 : lw_okq (⟨"LeagueOffice$Reader", "addToken", "(III)V"⟩, 6) := ⟨⟨by decide +kernel, by decide +kernel⟩, List.mem_of_getElem? (i := 169) (by decide +kernel), List.mem_of_getElem? (i := 519) (by decide +kernel), List.mem_of_getElem? (i := 520) (by decide +kernel)⟩
theorem lw_p3 : lw_okq (⟨"LeagueOffice$Reader", "behindDigits", "(I)I"⟩, 6) := ⟨⟨by decide +kernel, by decide +kernel⟩, List.mem_of_getElem? (i := 169) (by decide +kernel), List.mem_of_getElem? (i := 527) (by decide +kernel), List.mem_of_getElem? (i := 528) (by decide +kernel)⟩
theorem lw_p4 : lw_okq (⟨"LeagueOffice$Reader", "numberAt", "(II)I"⟩, 6) := ⟨⟨by decide +kernel, by decide +kernel⟩, List.mem_of_getElem? (i := 169) (by decide +kernel), List.mem_of_getElem? (i := 531) (by decide +kernel), List.mem_of_getElem? (i := 532) (by decide +kernel)⟩
theorem lw_p5 : lw_okq (⟨"LeagueOffice$Reader", "behindLetters", "(I)I"⟩, 6) := ⟨⟨by decide +kernel, by decide +kernel⟩, List.mem_of_getElem? (i := 169) (by decide +kernel), List.mem_of_getElem? (i := 538) (by decide +kernel), List.mem_of_getElem? (i := 539) (by decide +kernel)⟩
theorem lw_p6 : lw_okq (⟨"LeagueOffice$Reader", "wordAt", "(II)I"⟩, 6) := ⟨⟨by decide +kernel, by decide +kernel⟩, List.mem_of_getElem? (i := 169) (by decide +kernel), List.mem_of_getElem? (i := 542) (by decide +kernel), List.mem_of_getElem? (i := 543) (by decide +kernel)⟩
theorem lw_p7 : lw_okq (⟨"LeagueOffice$Reader", "isWord", "(Ljava/lang/String;II)Z"⟩, 6) := ⟨⟨by decide +kernel, by decide +kernel⟩, List.mem_of_getElem? (i := 169) (by decide +kernel), List.mem_of_getElem? (i := 562) (by decide +kernel), List.mem_of_getElem? (i := 563) (by decide +kernel)⟩
theorem lw_p8 : lw_okq (⟨"LeagueOffice$Reader", "readPart", "(I)Z"⟩, 6) := ⟨⟨by decide +kernel, by decide +kernel⟩, List.mem_of_getElem? (i := 169) (by decide +kernel), List.mem_of_getElem? (i := 576) (by decide +kernel), List.mem_of_getElem? (i := 577) (by decide +kernel)⟩
theorem lw_p9 : lw_okq (⟨"LeagueOffice$Reader", "readToken", "(I)Z"⟩, 6) := ⟨⟨by decide +kernel, by decide +kernel⟩, List.mem_of_getElem? (i := 169) (by decide +kernel), List.mem_of_getElem? (i := 580) (by decide +kernel), List.mem_of_getElem? (i := 581) (by decide +kernel)⟩
theorem lw_p10 : lw_okq (⟨"LeagueOffice$Reader", "readLevel", "(II)Z"⟩, 6) := ⟨⟨by decide +kernel, by decide +kernel⟩, List.mem_of_getElem? (i := 169) (by decide +kernel), List.mem_of_getElem? (i := 593) (by decide +kernel), List.mem_of_getElem? (i := 594) (by decide +kernel)⟩
theorem lw_p11 : lw_okq (⟨"LeagueOffice$Reader", "readOne", "(I)Z"⟩, 6) := ⟨⟨by decide +kernel, by decide +kernel⟩, List.mem_of_getElem? (i := 169) (by decide +kernel), List.mem_of_getElem? (i := 597) (by decide +kernel), List.mem_of_getElem? (i := 598) (by decide +kernel)⟩
theorem lw_p12 : lw_okq (⟨"LeagueOffice$Reader", "readNot", "(I)Z"⟩, 6) := ⟨⟨by decide +kernel, by decide +kernel⟩, List.mem_of_getElem? (i := 169) (by decide +kernel), List.mem_of_getElem? (i := 610) (by decide +kernel), List.mem_of_getElem? (i := 611) (by decide +kernel)⟩
theorem lw_p13 : lw_okq (⟨"LeagueOffice", "tellResult", "(III)I"⟩, 10) := ⟨⟨by decide +kernel, by decide +kernel⟩, List.mem_of_getElem? (i := 22) (by decide +kernel), List.mem_of_getElem? (i := 723) (by decide +kernel), List.mem_of_getElem? (i := 724) (by decide +kernel)⟩
theorem lw_p14 : lw_okq (⟨"LeagueOffice$Tables", "enter", "(IIII)V"⟩, 12) := ⟨⟨by decide +kernel, by decide +kernel⟩, List.mem_of_getElem? (i := 197) (by decide +kernel), List.mem_of_getElem? (i := 797) (by decide +kernel), List.mem_of_getElem? (i := 798) (by decide +kernel)⟩
theorem lw_p15 : lw_okq (⟨"LeagueOffice$Texts", "value", "(II)I"⟩, 8) := ⟨⟨by decide +kernel, by decide +kernel⟩, List.mem_of_getElem? (i := 132) (by decide +kernel), List.mem_of_getElem? (i := 825) (by decide +kernel), List.mem_of_getElem? (i := 826) (by decide +kernel)⟩
def lw_privs_1 : List (MethodName × Nat) := [(⟨"LeagueOffice$Reader", "split", "()V"⟩, 6), (⟨"LeagueOffice$Reader", "behindBlanks", "(I)I"⟩, 6), (⟨"LeagueOffice$Reader", "addToken", "(III)V"⟩, 6), (⟨"LeagueOffice$Reader", "behindDigits", "(I)I"⟩, 6), (⟨"LeagueOffice$Reader", "numberAt", "(II)I"⟩, 6), (⟨"LeagueOffice$Reader", "behindLetters", "(I)I"⟩, 6), (⟨"LeagueOffice$Reader", "wordAt", "(II)I"⟩, 6), (⟨"LeagueOffice$Reader", "isWord", "(Ljava/lang/String;II)Z"⟩, 6), (⟨"LeagueOffice$Reader", "readPart", "(I)Z"⟩, 6), (⟨"LeagueOffice$Reader", "readToken", "(I)Z"⟩, 6), (⟨"LeagueOffice$Reader", "readLevel", "(II)Z"⟩, 6), (⟨"LeagueOffice$Reader", "readOne", "(I)Z"⟩, 6), (⟨"LeagueOffice$Reader", "readNot", "(I)Z"⟩, 6), (⟨"LeagueOffice", "tellResult", "(III)I"⟩, 10), (⟨"LeagueOffice$Tables", "enter", "(IIII)V"⟩, 12), (⟨"LeagueOffice$Texts", "value", "(II)I"⟩, 8)]
theorem lw_r1 : ∀ q ∈ lw_privs_1, lw_okq q := List.forall_mem_cons.mpr ⟨lw_p0, List.forall_mem_cons.mpr ⟨lw_p1, List.forall_mem_cons.mpr ⟨lw_p2, List.forall_mem_cons.mpr ⟨lw_p3, List.forall_mem_cons.mpr ⟨lw_p4, List.forall_mem_cons.mpr ⟨lw_p5, List.forall_mem_cons.mpr ⟨lw_p6, List.forall_mem_cons.mpr ⟨lw_p7, List.forall_mem_cons.mpr ⟨lw_p8, List.forall_mem_cons.mpr ⟨lw_p9, List.forall_mem_cons.mpr ⟨lw_p10, List.forall_mem_cons.mpr ⟨lw_p11, List.forall_mem_cons.mpr ⟨lw_p12, List.forall_mem_cons.mpr ⟨lw_p13, List.forall_mem_cons.mpr ⟨lw_p14, List.forall_mem_cons.mpr ⟨lw_p15, fun _ h => absurd h List.not_mem_nil⟩⟩⟩⟩⟩⟩⟩⟩⟩⟩⟩⟩⟩⟩⟩⟩
theorem lw_p16 : lw_okq (⟨"LeagueOffice$Squad", "hold", "(II)V"⟩, 14) := ⟨⟨by decide +kernel, by decide +kernel⟩, List.mem_of_getElem? (i := 246) (by decide +kernel), List.mem_of_getElem? (i := 937) (by decide +kernel), List.mem_of_getElem? (i := 938) (by decide +kernel)⟩
theorem lw_p17 : lw_okq (⟨"LeagueOffice$Failures", "changeGames", "(IZ)I"⟩, 7) := ⟨⟨by decide +kernel, by decide +kernel⟩, List.mem_of_getElem? (i := 307) (by decide +kernel), List.mem_of_getElem? (i := 998) (by decide +kernel), List.mem_of_getElem? (i := 999) (by decide +kernel)⟩
theorem lw_p18 : lw_okq (⟨"LeagueOffice$Failures", "keep", "(II)V"⟩, 7) := ⟨⟨by decide +kernel, by decide +kernel⟩, List.mem_of_getElem? (i := 307) (by decide +kernel), List.mem_of_getElem? (i := 1002) (by decide +kernel), List.mem_of_getElem? (i := 1003) (by decide +kernel)⟩
theorem lw_p19 : lw_okq (⟨"LeagueOffice$Failures", "give", "(II)V"⟩, 7) := ⟨⟨by decide +kernel, by decide +kernel⟩, List.mem_of_getElem? (i := 307) (by decide +kernel), List.mem_of_getElem? (i := 1006) (by decide +kernel), List.mem_of_getElem? (i := 1007) (by decide +kernel)⟩
theorem lw_p20 : lw_okq (⟨"LeagueOffice$Failures", "hasChanged", "(II)Z"⟩, 7) := ⟨⟨by decide +kernel, by decide +kernel⟩, List.mem_of_getElem? (i := 307) (by decide +kernel), List.mem_of_getElem? (i := 1019) (by decide +kernel), List.mem_of_getElem? (i := 1020) (by decide +kernel)⟩
theorem lw_p21 : lw_okq (⟨"LeagueOffice$Chances", "enterFirst", "()I"⟩, 10) := ⟨⟨by decide +kernel, by decide +kernel⟩, List.mem_of_getElem? (i := 337) (by decide +kernel), List.mem_of_getElem? (i := 1056) (by decide +kernel), List.mem_of_getElem? (i := 1057) (by decide +kernel)⟩
theorem lw_p22 : lw_okq (⟨"LeagueOffice$Chances", "enter", "(II)V"⟩, 10) := ⟨⟨by decide +kernel, by decide +kernel⟩, List.mem_of_getElem? (i := 337) (by decide +kernel), List.mem_of_getElem? (i := 1063) (by decide +kernel), List.mem_of_getElem? (i := 1064) (by decide +kernel)⟩
theorem lw_p23 : lw_okq (⟨"LeagueOffice$Chances", "enterWin", "(IIII)V"⟩, 10) := ⟨⟨by decide +kernel, by decide +kernel⟩, List.mem_of_getElem? (i := 337) (by decide +kernel), List.mem_of_getElem? (i := 1067) (by decide +kernel), List.mem_of_getElem? (i := 1068) (by decide +kernel)⟩
theorem lw_p24 : lw_okq (⟨"LeagueOffice$Chances", "enterDraw", "(IIII)V"⟩, 10) := ⟨⟨by decide +kernel, by decide +kernel⟩, List.mem_of_getElem? (i := 337) (by decide +kernel), List.mem_of_getElem? (i := 1073) (by decide +kernel), List.mem_of_getElem? (i := 1074) (by decide +kernel)⟩
theorem lw_p25 : lw_okq (⟨"LeagueOffice$Chances", "enterNext", "()V"⟩, 10) := ⟨⟨by decide +kernel, by decide +kernel⟩, List.mem_of_getElem? (i := 337) (by decide +kernel), List.mem_of_getElem? (i := 1078) (by decide +kernel), List.mem_of_getElem? (i := 1079) (by decide +kernel)⟩
theorem lw_p26 : lw_okq (⟨"LeagueOffice$Chances", "sumOf", "(I)J"⟩, 10) := ⟨⟨by decide +kernel, by decide +kernel⟩, List.mem_of_getElem? (i := 337) (by decide +kernel), List.mem_of_getElem? (i := 1104) (by decide +kernel), List.mem_of_getElem? (i := 1105) (by decide +kernel)⟩
theorem lw_p27 : lw_okq (⟨"LeagueOffice$Purse", "sumGates", "()V"⟩, 3) := ⟨⟨by decide +kernel, by decide +kernel⟩, List.mem_of_getElem? (i := 376) (by decide +kernel), List.mem_of_getElem? (i := 1119) (by decide +kernel), List.mem_of_getElem? (i := 1120) (by decide +kernel)⟩
theorem lw_p28 : lw_okq (⟨"LeagueOffice$Plan", "look", "(I)V"⟩, 6) := ⟨⟨by decide +kernel, by decide +kernel⟩, List.mem_of_getElem? (i := 394) (by decide +kernel), List.mem_of_getElem? (i := 1165) (by decide +kernel), List.mem_of_getElem? (i := 1166) (by decide +kernel)⟩
theorem lw_p29 : lw_okq (⟨"LeagueOffice$Plan", "breaksOf", "(I)I"⟩, 6) := ⟨⟨by decide +kernel, by decide +kernel⟩, List.mem_of_getElem? (i := 394) (by decide +kernel), List.mem_of_getElem? (i := 1171) (by decide +kernel), List.mem_of_getElem? (i := 1172) (by decide +kernel)⟩
theorem lw_p30 : lw_okq (⟨"LeagueOfficeModel", "isClub", "(I)Z"⟩, 78) := ⟨⟨by decide +kernel, by decide +kernel⟩, List.mem_of_getElem? (i := 1259) (by decide +kernel), List.mem_of_getElem? (i := 1257) (by decide +kernel), List.mem_of_getElem? (i := 1258) (by decide +kernel)⟩
theorem lw_p31 : lw_okq (⟨"LeagueOfficeModel", "isGame", "(I)Z"⟩, 78) := ⟨⟨by decide +kernel, by decide +kernel⟩, List.mem_of_getElem? (i := 1259) (by decide +kernel), List.mem_of_getElem? (i := 1273) (by decide +kernel), List.mem_of_getElem? (i := 1274) (by decide +kernel)⟩
def lw_privs_2 : List (MethodName × Nat) := [(⟨"LeagueOffice$Squad", "hold", "(II)V"⟩, 14), (⟨"LeagueOffice$Failures", "changeGames", "(IZ)I"⟩, 7), (⟨"LeagueOffice$Failures", "keep", "(II)V"⟩, 7), (⟨"LeagueOffice$Failures", "give", "(II)V"⟩, 7), (⟨"LeagueOffice$Failures", "hasChanged", "(II)Z"⟩, 7), (⟨"LeagueOffice$Chances", "enterFirst", "()I"⟩, 10), (⟨"LeagueOffice$Chances", "enter", "(II)V"⟩, 10), (⟨"LeagueOffice$Chances", "enterWin", "(IIII)V"⟩, 10), (⟨"LeagueOffice$Chances", "enterDraw", "(IIII)V"⟩, 10), (⟨"LeagueOffice$Chances", "enterNext", "()V"⟩, 10), (⟨"LeagueOffice$Chances", "sumOf", "(I)J"⟩, 10), (⟨"LeagueOffice$Purse", "sumGates", "()V"⟩, 3), (⟨"LeagueOffice$Plan", "look", "(I)V"⟩, 6), (⟨"LeagueOffice$Plan", "breaksOf", "(I)I"⟩, 6), (⟨"LeagueOfficeModel", "isClub", "(I)Z"⟩, 78), (⟨"LeagueOfficeModel", "isGame", "(I)Z"⟩, 78)]
theorem lw_r2 : ∀ q ∈ lw_privs_2, lw_okq q := List.forall_mem_cons.mpr ⟨lw_p16, List.forall_mem_cons.mpr ⟨lw_p17, List.forall_mem_cons.mpr ⟨lw_p18, List.forall_mem_cons.mpr ⟨lw_p19, List.forall_mem_cons.mpr ⟨lw_p20, List.forall_mem_cons.mpr ⟨lw_p21, List.forall_mem_cons.mpr ⟨lw_p22, List.forall_mem_cons.mpr ⟨lw_p23, List.forall_mem_cons.mpr ⟨lw_p24, List.forall_mem_cons.mpr ⟨lw_p25, List.forall_mem_cons.mpr ⟨lw_p26, List.forall_mem_cons.mpr ⟨lw_p27, List.forall_mem_cons.mpr ⟨lw_p28, List.forall_mem_cons.mpr ⟨lw_p29, List.forall_mem_cons.mpr ⟨lw_p30, List.forall_mem_cons.mpr ⟨lw_p31, fun _ h => absurd h List.not_mem_nil⟩⟩⟩⟩⟩⟩⟩⟩⟩⟩⟩⟩⟩⟩⟩⟩
theorem lw_p32 : lw_okq (⟨"LeagueOfficeModel", "knownIn", "(II)I"⟩, 78) := ⟨⟨by decide +kernel, by decide +kernel⟩, List.mem_of_getElem? (i := 1259) (by decide +kernel), List.mem_of_getElem? (i := 1297) (by decide +kernel), List.mem_of_getElem? (i := 1298) (by decide +kernel)⟩
theorem lw_p33 : lw_okq (⟨"LeagueOfficeModel", "readText", "()I"⟩, 78) := ⟨⟨by decide +kernel, by decide +kernel⟩, List.mem_of_getElem? (i := 1259) (by decide +kernel), List.mem_of_getElem? (i := 1308) (by decide +kernel), List.mem_of_getElem? (i := 1309) (by decide +kernel)⟩
theorem lw_p34 : lw_okq (⟨"LeagueOfficeModel", "nextToken", "()V"⟩, 78) := ⟨⟨by decide +kernel, by decide +kernel⟩, List.mem_of_getElem? (i := 1259) (by decide +kernel), List.mem_of_getElem? (i := 1312) (by decide +kernel), List.mem_of_getElem? (i := 1313) (by decide +kernel)⟩
theorem lw_p35 : lw_okq (⟨"LeagueOfficeModel", "isWord", "(J)Z"⟩, 78) := ⟨⟨by decide +kernel, by decide +kernel⟩, List.mem_of_getElem? (i := 1259) (by decide +kernel), List.mem_of_getElem? (i := 1327) (by decide +kernel), List.mem_of_getElem? (i := 1328) (by decide +kernel)⟩
theorem lw_p36 : lw_okq (⟨"LeagueOfficeModel", "faultHere", "()V"⟩, 78) := ⟨⟨by decide +kernel, by decide +kernel⟩, List.mem_of_getElem? (i := 1259) (by decide +kernel), List.mem_of_getElem? (i := 1333) (by decide +kernel), List.mem_of_getElem? (i := 1334) (by decide +kernel)⟩
theorem lw_p37 : lw_okq (⟨"LeagueOfficeModel", "either", "()V"⟩, 78) := ⟨⟨by decide +kernel, by decide +kernel⟩, List.mem_of_getElem? (i := 1259) (by decide +kernel), List.mem_of_getElem? (i := 1337) (by decide +kernel), List.mem_of_getElem? (i := 1338) (by decide +kernel)⟩
theorem lw_p38 : lw_okq (⟨"LeagueOfficeModel", "and", "()V"⟩, 78) := ⟨⟨by decide +kernel, by decide +kernel⟩, List.mem_of_getElem? (i := 1259) (by decide +kernel), List.mem_of_getElem? (i := 1341) (by decide +kernel), List.mem_of_getElem? (i := 1342) (by decide +kernel)⟩
theorem lw_p39 : lw_okq (⟨"LeagueOfficeModel", "not", "()V"⟩, 78) := ⟨⟨by decide +kernel, by decide +kernel⟩, List.mem_of_getElem? (i := 1259) (by decide +kernel), List.mem_of_getElem? (i := 1345) (by decide +kernel), List.mem_of_getElem? (i := 1346) (by decide +kernel)⟩
theorem lw_p40 : lw_okq (⟨"LeagueOfficeModel", "opens", "()Z"⟩, 78) := ⟨⟨by decide +kernel, by decide +kernel⟩, List.mem_of_getElem? (i := 1259) (by decide +kernel), List.mem_of_getElem? (i := 1350) (by decide +kernel), List.mem_of_getElem? (i := 1351) (by decide +kernel)⟩
theorem lw_p41 : lw_okq (⟨"LeagueOfficeModel", "lay", "(II)V"⟩, 78) := ⟨⟨by decide +kernel, by decide +kernel⟩, List.mem_of_getElem? (i := 1259) (by decide +kernel), List.mem_of_getElem? (i := 1354) (by decide +kernel), List.mem_of_getElem? (i := 1355) (by decide +kernel)⟩
theorem lw_p42 : lw_okq (⟨"LeagueOfficeModel", "sum", "()V"⟩, 78) := ⟨⟨by decide +kernel, by decide +kernel⟩, List.mem_of_getElem? (i := 1259) (by decide +kernel), List.mem_of_getElem? (i := 1358) (by decide +kernel), List.mem_of_getElem? (i := 1359) (by decide +kernel)⟩
theorem lw_p43 : lw_okq (⟨"LeagueOfficeModel", "term", "()V"⟩, 78) := ⟨⟨by decide +kernel, by decide +kernel⟩, List.mem_of_getElem? (i := 1259) (by decide +kernel), List.mem_of_getElem? (i := 1362) (by decide +kernel), List.mem_of_getElem? (i := 1363) (by decide +kernel)⟩
theorem lw_p44 : lw_okq (⟨"LeagueOfficeModel", "one", "()V"⟩, 78) := ⟨⟨by decide +kernel, by decide +kernel⟩, List.mem_of_getElem? (i := 1259) (by decide +kernel), List.mem_of_getElem? (i := 1366) (by decide +kernel), List.mem_of_getElem? (i := 1367) (by decide +kernel)⟩
theorem lw_p45 : lw_okq (⟨"LeagueOfficeModel", "nameOf", "()I"⟩, 78) := ⟨⟨by decide +kernel, by decide +kernel⟩, List.mem_of_getElem? (i := 1259) (by decide +kernel), List.mem_of_getElem? (i := 1370) (by decide +kernel), List.mem_of_getElem? (i := 1371) (by decide +kernel)⟩
theorem lw_p46 : lw_okq (⟨"LeagueOfficeModel", "textOn", "(I)I"⟩, 78) := ⟨⟨by decide +kernel, by decide +kernel⟩, List.mem_of_getElem? (i := 1259) (by decide +kernel), List.mem_of_getElem? (i := 1629) (by decide +kernel), List.mem_of_getElem? (i := 1630) (by decide +kernel)⟩
theorem lw_p47 : lw_okq (⟨"LeagueOfficeModel", "pointsOf", "(II)J"⟩, 78) := ⟨⟨by decide +kernel, by decide +kernel⟩, List.mem_of_getElem? (i := 1259) (by decide +kernel), List.mem_of_getElem? (i := 1641) (by decide +kernel), List.mem_of_getElem? (i := 1642) (by decide +kernel)⟩
def lw_privs_3 : List (MethodName × Nat) := [(⟨"LeagueOfficeModel", "knownIn", "(II)I"⟩, 78), (⟨"LeagueOfficeModel", "readText", "()I"⟩, 78), (⟨"LeagueOfficeModel", "nextToken", "()V"⟩, 78), (⟨"LeagueOfficeModel", "isWord", "(J)Z"⟩, 78), (⟨"LeagueOfficeModel", "faultHere", "()V"⟩, 78), (⟨"LeagueOfficeModel", "either", "()V"⟩, 78), (⟨"LeagueOfficeModel", "and", "()V"⟩, 78), (⟨"LeagueOfficeModel", "not", "()V"⟩, 78), (⟨"LeagueOfficeModel", "opens", "()Z"⟩, 78), (⟨"LeagueOfficeModel", "lay", "(II)V"⟩, 78), (⟨"LeagueOfficeModel", "sum", "()V"⟩, 78), (⟨"LeagueOfficeModel", "term", "()V"⟩, 78), (⟨"LeagueOfficeModel", "one", "()V"⟩, 78), (⟨"LeagueOfficeModel", "nameOf", "()I"⟩, 78), (⟨"LeagueOfficeModel", "textOn", "(I)I"⟩, 78), (⟨"LeagueOfficeModel", "pointsOf", "(II)J"⟩, 78)]
theorem lw_r3 : ∀ q ∈ lw_privs_3, lw_okq q := List.forall_mem_cons.mpr ⟨lw_p32, List.forall_mem_cons.mpr ⟨lw_p33, List.forall_mem_cons.mpr ⟨lw_p34, List.forall_mem_cons.mpr ⟨lw_p35, List.forall_mem_cons.mpr ⟨lw_p36, List.forall_mem_cons.mpr ⟨lw_p37, List.forall_mem_cons.mpr ⟨lw_p38, List.forall_mem_cons.mpr ⟨lw_p39, List.forall_mem_cons.mpr ⟨lw_p40, List.forall_mem_cons.mpr ⟨lw_p41, List.forall_mem_cons.mpr ⟨lw_p42, List.forall_mem_cons.mpr ⟨lw_p43, List.forall_mem_cons.mpr ⟨lw_p44, List.forall_mem_cons.mpr ⟨lw_p45, List.forall_mem_cons.mpr ⟨lw_p46, List.forall_mem_cons.mpr ⟨lw_p47, fun _ h => absurd h List.not_mem_nil⟩⟩⟩⟩⟩⟩⟩⟩⟩⟩⟩⟩⟩⟩⟩⟩
theorem lw_p48 : lw_okq (⟨"LeagueOfficeModel", "isIn", "(II)Z"⟩, 78) := ⟨⟨by decide +kernel, by decide +kernel⟩, List.mem_of_getElem? (i := 1259) (by decide +kernel), List.mem_of_getElem? (i := 1645) (by decide +kernel), List.mem_of_getElem? (i := 1646) (by decide +kernel)⟩
theorem lw_p49 : lw_okq (⟨"LeagueOfficeModel", "endOf", "(II)I"⟩, 78) := ⟨⟨by decide +kernel, by decide +kernel⟩, List.mem_of_getElem? (i := 1259) (by decide +kernel), List.mem_of_getElem? (i := 1649) (by decide +kernel), List.mem_of_getElem? (i := 1650) (by decide +kernel)⟩
theorem lw_p50 : lw_okq (⟨"LeagueOfficeModel", "pointsIn", "(III)I"⟩, 78) := ⟨⟨by decide +kernel, by decide +kernel⟩, List.mem_of_getElem? (i := 1259) (by decide +kernel), List.mem_of_getElem? (i := 1653) (by decide +kernel), List.mem_of_getElem? (i := 1654) (by decide +kernel)⟩
theorem lw_p51 : lw_okq (⟨"LeagueOfficeModel", "setFacts", "(IIIIII)V"⟩, 78) := ⟨⟨by decide +kernel, by decide +kernel⟩, List.mem_of_getElem? (i := 1259) (by decide +kernel), List.mem_of_getElem? (i := 1660) (by decide +kernel), List.mem_of_getElem? (i := 1661) (by decide +kernel)⟩
theorem lw_p52 : lw_okq (⟨"LeagueOfficeModel", "says", "(II)I"⟩, 78) := ⟨⟨by decide +kernel, by decide +kernel⟩, List.mem_of_getElem? (i := 1259) (by decide +kernel), List.mem_of_getElem? (i := 1664) (by decide +kernel), List.mem_of_getElem? (i := 1665) (by decide +kernel)⟩
theorem lw_p53 : lw_okq (⟨"LeagueOfficeModel", "likeOf", "(II)J"⟩, 78) := ⟨⟨by decide +kernel, by decide +kernel⟩, List.mem_of_getElem? (i := 1259) (by decide +kernel), List.mem_of_getElem? (i := 1676) (by decide +kernel), List.mem_of_getElem? (i := 1677) (by decide +kernel)⟩
theorem lw_p54 : lw_okq (⟨"LeagueOfficeModel", "tally", "(III)V"⟩, 78) := ⟨⟨by decide +kernel, by decide +kernel⟩, List.mem_of_getElem? (i := 1259) (by decide +kernel), List.mem_of_getElem? (i := 1680) (by decide +kernel), List.mem_of_getElem? (i := 1681) (by decide +kernel)⟩
theorem lw_p55 : lw_okq (⟨"LeagueOfficeModel", "likeBy", "(II)J"⟩, 78) := ⟨⟨by decide +kernel, by decide +kernel⟩, List.mem_of_getElem? (i := 1259) (by decide +kernel), List.mem_of_getElem? (i := 1684) (by decide +kernel), List.mem_of_getElem? (i := 1685) (by decide +kernel)⟩
theorem lw_p56 : lw_okq (⟨"LeagueOfficeModel", "findAll", "(II)V"⟩, 78) := ⟨⟨by decide +kernel, by decide +kernel⟩, List.mem_of_getElem? (i := 1259) (by decide +kernel), List.mem_of_getElem? (i := 1692) (by decide +kernel), List.mem_of_getElem? (i := 1693) (by decide +kernel)⟩
theorem lw_p57 : lw_okq (⟨"LeagueOfficeModel", "placeNow", "(I)I"⟩, 78) := ⟨⟨by decide +kernel, by decide +kernel⟩, List.mem_of_getElem? (i := 1259) (by decide +kernel), List.mem_of_getElem? (i := 1696) (by decide +kernel), List.mem_of_getElem? (i := 1697) (by decide +kernel)⟩
theorem lw_p58 : lw_okq (⟨"LeagueOfficeModel", "isAhead", "(II)Z"⟩, 78) := ⟨⟨by decide +kernel, by decide +kernel⟩, List.mem_of_getElem? (i := 1259) (by decide +kernel), List.mem_of_getElem? (i := 1700) (by decide +kernel), List.mem_of_getElem? (i := 1701) (by decide +kernel)⟩
theorem lw_p59 : lw_okq (⟨"LeagueOfficeModel", "isPlayer", "(I)Z"⟩, 78) := ⟨⟨by decide +kernel, by decide +kernel⟩, List.mem_of_getElem? (i := 1259) (by decide +kernel), List.mem_of_getElem? (i := 1716) (by decide +kernel), List.mem_of_getElem? (i := 1717) (by decide +kernel)⟩
theorem lw_p60 : lw_okq (⟨"LeagueOfficeModel", "clubFor", "(II)I"⟩, 78) := ⟨⟨by decide +kernel, by decide +kernel⟩, List.mem_of_getElem? (i := 1259) (by decide +kernel), List.mem_of_getElem? (i := 1724) (by decide +kernel), List.mem_of_getElem? (i := 1725) (by decide +kernel)⟩
theorem lw_p61 : lw_okq (⟨"LeagueOfficeModel", "bansOf", "(I)I"⟩, 78) := ⟨⟨by decide +kernel, by decide +kernel⟩, List.mem_of_getElem? (i := 1259) (by decide +kernel), List.mem_of_getElem? (i := 1736) (by decide +kernel), List.mem_of_getElem? (i := 1737) (by decide +kernel)⟩
theorem lw_p62 : lw_okq (⟨"LeagueOfficeModel", "findBanned", "(I)V"⟩, 78) := ⟨⟨by decide +kernel, by decide +kernel⟩, List.mem_of_getElem? (i := 1259) (by decide +kernel), List.mem_of_getElem? (i := 1744) (by decide +kernel), List.mem_of_getElem? (i := 1745) (by decide +kernel)⟩
theorem lw_p63 : lw_okq (⟨"LeagueOfficeModel", "isBehind", "(II)Z"⟩, 78) := ⟨⟨by decide +kernel, by decide +kernel⟩, List.mem_of_getElem? (i := 1259) (by decide +kernel), List.mem_of_getElem? (i := 1748) (by decide +kernel), List.mem_of_getElem? (i := 1749) (by decide +kernel)⟩
def lw_privs_4 : List (MethodName × Nat) := [(⟨"LeagueOfficeModel", "isIn", "(II)Z"⟩, 78), (⟨"LeagueOfficeModel", "endOf", "(II)I"⟩, 78), (⟨"LeagueOfficeModel", "pointsIn", "(III)I"⟩, 78), (⟨"LeagueOfficeModel", "setFacts", "(IIIIII)V"⟩, 78), (⟨"LeagueOfficeModel", "says", "(II)I"⟩, 78), (⟨"LeagueOfficeModel", "likeOf", "(II)J"⟩, 78), (⟨"LeagueOfficeModel", "tally", "(III)V"⟩, 78), (⟨"LeagueOfficeModel", "likeBy", "(II)J"⟩, 78), (⟨"LeagueOfficeModel", "findAll", "(II)V"⟩, 78), (⟨"LeagueOfficeModel", "placeNow", "(I)I"⟩, 78), (⟨"LeagueOfficeModel", "isAhead", "(II)Z"⟩, 78), (⟨"LeagueOfficeModel", "isPlayer", "(I)Z"⟩, 78), (⟨"LeagueOfficeModel", "clubFor", "(II)I"⟩, 78), (⟨"LeagueOfficeModel", "bansOf", "(I)I"⟩, 78), (⟨"LeagueOfficeModel", "findBanned", "(I)V"⟩, 78), (⟨"LeagueOfficeModel", "isBehind", "(II)Z"⟩, 78)]
theorem lw_r4 : ∀ q ∈ lw_privs_4, lw_okq q := List.forall_mem_cons.mpr ⟨lw_p48, List.forall_mem_cons.mpr ⟨lw_p49, List.forall_mem_cons.mpr ⟨lw_p50, List.forall_mem_cons.mpr ⟨lw_p51, List.forall_mem_cons.mpr ⟨lw_p52, List.forall_mem_cons.mpr ⟨lw_p53, List.forall_mem_cons.mpr ⟨lw_p54, List.forall_mem_cons.mpr ⟨lw_p55, List.forall_mem_cons.mpr ⟨lw_p56, List.forall_mem_cons.mpr ⟨lw_p57, List.forall_mem_cons.mpr ⟨lw_p58, List.forall_mem_cons.mpr ⟨lw_p59, List.forall_mem_cons.mpr ⟨lw_p60, List.forall_mem_cons.mpr ⟨lw_p61, List.forall_mem_cons.mpr ⟨lw_p62, List.forall_mem_cons.mpr ⟨lw_p63, fun _ h => absurd h List.not_mem_nil⟩⟩⟩⟩⟩⟩⟩⟩⟩⟩⟩⟩⟩⟩⟩⟩
theorem lw_p64 : lw_okq (⟨"LeagueOfficeModel", "mayPlay", "(II)Z"⟩, 78) := ⟨⟨by decide +kernel, by decide +kernel⟩, List.mem_of_getElem? (i := 1259) (by decide +kernel), List.mem_of_getElem? (i := 1756) (by decide +kernel), List.mem_of_getElem? (i := 1757) (by decide +kernel)⟩
theorem lw_p65 : lw_okq (⟨"LeagueOfficeModel", "isWrong", "(I)Z"⟩, 78) := ⟨⟨by decide +kernel, by decide +kernel⟩, List.mem_of_getElem? (i := 1259) (by decide +kernel), List.mem_of_getElem? (i := 1768) (by decide +kernel), List.mem_of_getElem? (i := 1769) (by decide +kernel)⟩
theorem lw_p66 : lw_okq (⟨"LeagueOfficeModel", "change", "(IIIII)V"⟩, 78) := ⟨⟨by decide +kernel, by decide +kernel⟩, List.mem_of_getElem? (i := 1259) (by decide +kernel), List.mem_of_getElem? (i := 1776) (by decide +kernel), List.mem_of_getElem? (i := 1777) (by decide +kernel)⟩
theorem lw_p67 : lw_okq (⟨"LeagueOfficeModel", "findStill", "(I)V"⟩, 78) := ⟨⟨by decide +kernel, by decide +kernel⟩, List.mem_of_getElem? (i := 1259) (by decide +kernel), List.mem_of_getElem? (i := 1788) (by decide +kernel), List.mem_of_getElem? (i := 1789) (by decide +kernel)⟩
theorem lw_p68 : lw_okq (⟨"LeagueOfficeModel", "canHave", "(IZ)I"⟩, 78) := ⟨⟨by decide +kernel, by decide +kernel⟩, List.mem_of_getElem? (i := 1259) (by decide +kernel), List.mem_of_getElem? (i := 1796) (by decide +kernel), List.mem_of_getElem? (i := 1797) (by decide +kernel)⟩
theorem lw_p69 : lw_okq (⟨"LeagueOfficeModel", "goThrough", "(I)I"⟩, 78) := ⟨⟨by decide +kernel, by decide +kernel⟩, List.mem_of_getElem? (i := 1259) (by decide +kernel), List.mem_of_getElem? (i := 1800) (by decide +kernel), List.mem_of_getElem? (i := 1801) (by decide +kernel)⟩
theorem lw_p70 : lw_okq (⟨"LeagueOfficeModel", "findBase", "(I)V"⟩, 78) := ⟨⟨by decide +kernel, by decide +kernel⟩, List.mem_of_getElem? (i := 1259) (by decide +kernel), List.mem_of_getElem? (i := 1804) (by decide +kernel), List.mem_of_getElem? (i := 1805) (by decide +kernel)⟩
theorem lw_p71 : lw_okq (⟨"LeagueOfficeModel", "addEnds", "(III)V"⟩, 78) := ⟨⟨by decide +kernel, by decide +kernel⟩, List.mem_of_getElem? (i := 1259) (by decide +kernel), List.mem_of_getElem? (i := 1811) (by decide +kernel), List.mem_of_getElem? (i := 1812) (by decide +kernel)⟩
theorem lw_p72 : lw_okq (⟨"LeagueOfficeModel", "gatePart", "(I)I"⟩, 78) := ⟨⟨by decide +kernel, by decide +kernel⟩, List.mem_of_getElem? (i := 1259) (by decide +kernel), List.mem_of_getElem? (i := 1831) (by decide +kernel), List.mem_of_getElem? (i := 1832) (by decide +kernel)⟩
theorem lw_p73 : lw_okq (⟨"LeagueOfficeModel", "hasMeeting", "(I)Z"⟩, 78) := ⟨⟨by decide +kernel, by decide +kernel⟩, List.mem_of_getElem? (i := 1259) (by decide +kernel), List.mem_of_getElem? (i := 1840) (by decide +kernel), List.mem_of_getElem? (i := 1841) (by decide +kernel)⟩
theorem lw_p74 : lw_okq (⟨"LeagueOfficeModel", "breaksBy", "(II)I"⟩, 78) := ⟨⟨by decide +kernel, by decide +kernel⟩, List.mem_of_getElem? (i := 1259) (by decide +kernel), List.mem_of_getElem? (i := 1848) (by decide +kernel), List.mem_of_getElem? (i := 1849) (by decide +kernel)⟩
theorem lw_p75 : lw_okq (⟨"LeagueOfficeModel", "was", "(II)I"⟩, 78) := ⟨⟨by decide +kernel, by decide +kernel⟩, List.mem_of_getElem? (i := 1259) (by decide +kernel), List.mem_of_getElem? (i := 1852) (by decide +kernel), List.mem_of_getElem? (i := 1853) (by decide +kernel)⟩
def lw_privs_5 : List (MethodName × Nat) := [(⟨"LeagueOfficeModel", "mayPlay", "(II)Z"⟩, 78), (⟨"LeagueOfficeModel", "isWrong", "(I)Z"⟩, 78), (⟨"LeagueOfficeModel", "change", "(IIIII)V"⟩, 78), (⟨"LeagueOfficeModel", "findStill", "(I)V"⟩, 78), (⟨"LeagueOfficeModel", "canHave", "(IZ)I"⟩, 78), (⟨"LeagueOfficeModel", "goThrough", "(I)I"⟩, 78), (⟨"LeagueOfficeModel", "findBase", "(I)V"⟩, 78), (⟨"LeagueOfficeModel", "addEnds", "(III)V"⟩, 78), (⟨"LeagueOfficeModel", "gatePart", "(I)I"⟩, 78), (⟨"LeagueOfficeModel", "hasMeeting", "(I)Z"⟩, 78), (⟨"LeagueOfficeModel", "breaksBy", "(II)I"⟩, 78), (⟨"LeagueOfficeModel", "was", "(II)I"⟩, 78)]
theorem lw_r5 : ∀ q ∈ lw_privs_5, lw_okq q := List.forall_mem_cons.mpr ⟨lw_p64, List.forall_mem_cons.mpr ⟨lw_p65, List.forall_mem_cons.mpr ⟨lw_p66, List.forall_mem_cons.mpr ⟨lw_p67, List.forall_mem_cons.mpr ⟨lw_p68, List.forall_mem_cons.mpr ⟨lw_p69, List.forall_mem_cons.mpr ⟨lw_p70, List.forall_mem_cons.mpr ⟨lw_p71, List.forall_mem_cons.mpr ⟨lw_p72, List.forall_mem_cons.mpr ⟨lw_p73, List.forall_mem_cons.mpr ⟨lw_p74, List.forall_mem_cons.mpr ⟨lw_p75, fun _ h => absurd h List.not_mem_nil⟩⟩⟩⟩⟩⟩⟩⟩⟩⟩⟩⟩
def lw_privs : List (MethodName × Nat) := lw_privs_1 ++ (lw_privs_2 ++ (lw_privs_3 ++ (lw_privs_4 ++ (lw_privs_5))))
def lw_tbl : List Cond := k2_sels lw_privs ++ tables_1
theorem lw_privs_ok : ∀ q ∈ lw_privs, lw_okq q := by
  show ∀ q ∈ lw_privs_1 ++ (lw_privs_2 ++ (lw_privs_3 ++ (lw_privs_4 ++ (lw_privs_5)))), lw_okq q
  exact List.forall_mem_append.mpr ⟨lw_r1, List.forall_mem_append.mpr ⟨lw_r2, List.forall_mem_append.mpr ⟨lw_r3, List.forall_mem_append.mpr ⟨lw_r4, lw_r5⟩⟩⟩⟩

-- the classes: printed with the claim
def RX0 : String := "LeagueOffice$Book"
def TX0 : u_T := fun k => match k with
  | 0 => ("LeagueOffice$Book", "today", "I", false)
  | 1 => ("LeagueOffice$Book", "steps", "LLeagueOffice$Row;", true)
  | 2 => ("LeagueOffice$Book", "towns", "LLeagueOffice$Row;", true)
  | 3 => ("LeagueOffice$Book", "kinds", "LLeagueOffice$Row;", true)
  | 4 => ("LeagueOffice$Book", "homes", "LLeagueOffice$Row;", true)
  | 5 => ("LeagueOffice$Book", "guests", "LLeagueOffice$Row;", true)
  | 6 => ("LeagueOffice$Book", "days", "LLeagueOffice$Row;", true)
  | 7 => ("LeagueOffice$Book", "byDay", "LLeagueOffice$Row;", true)
  | 8 => ("LeagueOffice$Book", "toldGames", "LLeagueOffice$Row;", true)
  | 9 => ("LeagueOffice$Book", "toldScores", "LLeagueOffice$Row;", true)
  | 10 => ("LeagueOffice$Book", "toldDays", "LLeagueOffice$Row;", true)
  | _ => ("LeagueOffice$Book", "scores", "LLeagueOffice$Row;", true)
def tyX0 : Nat → FieldType := fun k => match k with
  | 0 => .int
  | 1 => .object "LeagueOffice$Row"
  | 2 => .object "LeagueOffice$Row"
  | 3 => .object "LeagueOffice$Row"
  | 4 => .object "LeagueOffice$Row"
  | 5 => .object "LeagueOffice$Row"
  | 6 => .object "LeagueOffice$Row"
  | 7 => .object "LeagueOffice$Row"
  | 8 => .object "LeagueOffice$Row"
  | 9 => .object "LeagueOffice$Row"
  | 10 => .object "LeagueOffice$Row"
  | _ => .object "LeagueOffice$Row"
theorem nmX0 : ∀ a, a < 12 → ∀ b, b < 12 → a ≠ b → (TX0 a).2.1 ≠ (TX0 b).2.1 := by decide +kernel
theorem tyX0_ok : ∀ k, k < 12 → parseFieldDescriptor (TX0 k).2.2.1 = some (tyX0 k) := by decide +kernel
def RX1 : String := "LeagueOffice$Chances"
def TX1 : u_T := fun k => match k with
  | 0 => ("LeagueOffice$Chances", "book", "LLeagueOffice$Book;", true)
  | 1 => ("LeagueOffice$Chances", "texts", "LLeagueOffice$Texts;", true)
  | 2 => ("LeagueOffice$Chances", "tables", "LLeagueOffice$Tables;", true)
  | 3 => ("LeagueOffice$Chances", "games", "LLeagueOffice$Row;", true)
  | 4 => ("LeagueOffice$Chances", "wins", "LLeagueOffice$Row;", true)
  | 5 => ("LeagueOffice$Chances", "draws", "LLeagueOffice$Row;", true)
  | 6 => ("LeagueOffice$Chances", "hows", "LLeagueOffice$Row;", true)
  | 7 => ("LeagueOffice$Chances", "places", "LLeagueOffice$Row;", true)
  | 8 => ("LeagueOffice$Chances", "sums", "[J", true)
  | _ => ("LeagueOffice$Chances", "ends", "I", false)
def tyX1 : Nat → FieldType := fun k => match k with
  | 0 => .object "LeagueOffice$Book"
  | 1 => .object "LeagueOffice$Texts"
  | 2 => .object "LeagueOffice$Tables"
  | 3 => .object "LeagueOffice$Row"
  | 4 => .object "LeagueOffice$Row"
  | 5 => .object "LeagueOffice$Row"
  | 6 => .object "LeagueOffice$Row"
  | 7 => .object "LeagueOffice$Row"
  | 8 => .array .long
  | _ => .int
theorem nmX1 : ∀ a, a < 10 → ∀ b, b < 10 → a ≠ b → (TX1 a).2.1 ≠ (TX1 b).2.1 := by decide +kernel
theorem tyX1_ok : ∀ k, k < 10 → parseFieldDescriptor (TX1 k).2.2.1 = some (tyX1 k) := by decide +kernel
def RX2 : String := "LeagueOffice$Failures"
def TX2 : u_T := fun k => match k with
  | 0 => ("LeagueOffice$Failures", "book", "LLeagueOffice$Book;", true)
  | 1 => ("LeagueOffice$Failures", "failings", "I", false)
  | 2 => ("LeagueOffice$Failures", "numbers", "LLeagueOffice$Row;", true)
  | 3 => ("LeagueOffice$Failures", "lastChanges", "LLeagueOffice$Row;", true)
  | 4 => ("LeagueOffice$Failures", "wasKinds", "LLeagueOffice$Row;", true)
  | 5 => ("LeagueOffice$Failures", "wasHomes", "LLeagueOffice$Row;", true)
  | _ => ("LeagueOffice$Failures", "wasGuests", "LLeagueOffice$Row;", true)
def tyX2 : Nat → FieldType := fun k => match k with
  | 0 => .object "LeagueOffice$Book"
  | 1 => .int
  | 2 => .object "LeagueOffice$Row"
  | 3 => .object "LeagueOffice$Row"
  | 4 => .object "LeagueOffice$Row"
  | 5 => .object "LeagueOffice$Row"
  | _ => .object "LeagueOffice$Row"
theorem nmX2 : ∀ a, a < 7 → ∀ b, b < 7 → a ≠ b → (TX2 a).2.1 ≠ (TX2 b).2.1 := by decide +kernel
theorem tyX2_ok : ∀ k, k < 7 → parseFieldDescriptor (TX2 k).2.2.1 = some (tyX2 k) := by decide +kernel
def RX3 : String := "LeagueOffice$Plan"
def TX3 : u_T := fun k => match k with
  | 0 => ("LeagueOffice$Plan", "book", "LLeagueOffice$Book;", true)
  | 1 => ("LeagueOffice$Plan", "ones", "LLeagueOffice$Row;", true)
  | 2 => ("LeagueOffice$Plan", "others", "LLeagueOffice$Row;", true)
  | 3 => ("LeagueOffice$Plan", "latest", "LLeagueOffice$Row;", true)
  | 4 => ("LeagueOffice$Plan", "bestBits", "I", false)
  | _ => ("LeagueOffice$Plan", "bestBreaks", "I", false)
def tyX3 : Nat → FieldType := fun k => match k with
  | 0 => .object "LeagueOffice$Book"
  | 1 => .object "LeagueOffice$Row"
  | 2 => .object "LeagueOffice$Row"
  | 3 => .object "LeagueOffice$Row"
  | 4 => .int
  | _ => .int
theorem nmX3 : ∀ a, a < 6 → ∀ b, b < 6 → a ≠ b → (TX3 a).2.1 ≠ (TX3 b).2.1 := by decide +kernel
theorem tyX3_ok : ∀ k, k < 6 → parseFieldDescriptor (TX3 k).2.2.1 = some (tyX3 k) := by decide +kernel
def RX4 : String := "LeagueOffice$Purse"
def TX4 : u_T := fun k => match k with
  | 0 => ("LeagueOffice$Purse", "book", "LLeagueOffice$Book;", true)
  | 1 => ("LeagueOffice$Purse", "tables", "LLeagueOffice$Tables;", true)
  | _ => ("LeagueOffice$Purse", "gateParts", "LLeagueOffice$Row;", true)
def tyX4 : Nat → FieldType := fun k => match k with
  | 0 => .object "LeagueOffice$Book"
  | 1 => .object "LeagueOffice$Tables"
  | _ => .object "LeagueOffice$Row"
theorem nmX4 : ∀ a, a < 3 → ∀ b, b < 3 → a ≠ b → (TX4 a).2.1 ≠ (TX4 b).2.1 := by decide +kernel
theorem tyX4_ok : ∀ k, k < 3 → parseFieldDescriptor (TX4 k).2.2.1 = some (tyX4 k) := by decide +kernel
def RX5 : String := "LeagueOffice$Reader"
def TX5 : u_T := fun k => match k with
  | 0 => ("LeagueOffice$Reader", "texts", "LLeagueOffice$Texts;", true)
  | 1 => ("LeagueOffice$Reader", "tape", "LLeagueOffice$Row;", true)
  | 2 => ("LeagueOffice$Reader", "tokens", "LLeagueOffice$Row;", true)
  | 3 => ("LeagueOffice$Reader", "places", "LLeagueOffice$Row;", true)
  | 4 => ("LeagueOffice$Reader", "values", "LLeagueOffice$Row;", true)
  | _ => ("LeagueOffice$Reader", "at", "I", false)
def tyX5 : Nat → FieldType := fun k => match k with
  | 0 => .object "LeagueOffice$Texts"
  | 1 => .object "LeagueOffice$Row"
  | 2 => .object "LeagueOffice$Row"
  | 3 => .object "LeagueOffice$Row"
  | 4 => .object "LeagueOffice$Row"
  | _ => .int
theorem nmX5 : ∀ a, a < 6 → ∀ b, b < 6 → a ≠ b → (TX5 a).2.1 ≠ (TX5 b).2.1 := by decide +kernel
theorem tyX5_ok : ∀ k, k < 6 → parseFieldDescriptor (TX5 k).2.2.1 = some (tyX5 k) := by decide +kernel
def RX6 : String := "LeagueOffice$Row"
def TX6 : u_T := fun k => match k with
  | 0 => ("LeagueOffice$Row", "items", "[I", true)
  | _ => ("LeagueOffice$Row", "used", "I", false)
def tyX6 : Nat → FieldType := fun k => match k with
  | 0 => .array .int
  | _ => .int
theorem nmX6 : ∀ a, a < 2 → ∀ b, b < 2 → a ≠ b → (TX6 a).2.1 ≠ (TX6 b).2.1 := by decide +kernel
theorem tyX6_ok : ∀ k, k < 2 → parseFieldDescriptor (TX6 k).2.2.1 = some (tyX6 k) := by decide +kernel
def RX7 : String := "LeagueOffice$Sheets"
def TX7 : u_T := fun k => match k with
  | 0 => ("LeagueOffice$Sheets", "sorts", "LLeagueOffice$Row;", true)
  | 1 => ("LeagueOffice$Sheets", "sizes", "LLeagueOffice$Row;", true)
  | _ => ("LeagueOffice$Sheets", "cells", "LLeagueOffice$Row;", true)
def tyX7 : Nat → FieldType := fun k => match k with
  | 0 => .object "LeagueOffice$Row"
  | 1 => .object "LeagueOffice$Row"
  | _ => .object "LeagueOffice$Row"
theorem nmX7 : ∀ a, a < 3 → ∀ b, b < 3 → a ≠ b → (TX7 a).2.1 ≠ (TX7 b).2.1 := by decide +kernel
theorem tyX7_ok : ∀ k, k < 3 → parseFieldDescriptor (TX7 k).2.2.1 = some (tyX7 k) := by decide +kernel
def RX8 : String := "LeagueOffice$Squad"
def TX8 : u_T := fun k => match k with
  | 0 => ("LeagueOffice$Squad", "book", "LLeagueOffice$Book;", true)
  | 1 => ("LeagueOffice$Squad", "texts", "LLeagueOffice$Texts;", true)
  | 2 => ("LeagueOffice$Squad", "players", "I", false)
  | 3 => ("LeagueOffice$Squad", "signedPlayers", "LLeagueOffice$Row;", true)
  | 4 => ("LeagueOffice$Squad", "signedClubs", "LLeagueOffice$Row;", true)
  | 5 => ("LeagueOffice$Squad", "signedFroms", "LLeagueOffice$Row;", true)
  | 6 => ("LeagueOffice$Squad", "cardPlayers", "LLeagueOffice$Row;", true)
  | 7 => ("LeagueOffice$Squad", "cardGames", "LLeagueOffice$Row;", true)
  | 8 => ("LeagueOffice$Squad", "cardKinds", "LLeagueOffice$Row;", true)
  | 9 => ("LeagueOffice$Squad", "playingPlayers", "LLeagueOffice$Row;", true)
  | 10 => ("LeagueOffice$Squad", "playingGames", "LLeagueOffice$Row;", true)
  | 11 => ("LeagueOffice$Squad", "holders", "LLeagueOffice$Row;", true)
  | 12 => ("LeagueOffice$Squad", "marks", "LLeagueOffice$Row;", true)
  | _ => ("LeagueOffice$Squad", "wrongs", "LLeagueOffice$Row;", true)
def tyX8 : Nat → FieldType := fun k => match k with
  | 0 => .object "LeagueOffice$Book"
  | 1 => .object "LeagueOffice$Texts"
  | 2 => .int
  | 3 => .object "LeagueOffice$Row"
  | 4 => .object "LeagueOffice$Row"
  | 5 => .object "LeagueOffice$Row"
  | 6 => .object "LeagueOffice$Row"
  | 7 => .object "LeagueOffice$Row"
  | 8 => .object "LeagueOffice$Row"
  | 9 => .object "LeagueOffice$Row"
  | 10 => .object "LeagueOffice$Row"
  | 11 => .object "LeagueOffice$Row"
  | 12 => .object "LeagueOffice$Row"
  | _ => .object "LeagueOffice$Row"
theorem nmX8 : ∀ a, a < 14 → ∀ b, b < 14 → a ≠ b → (TX8 a).2.1 ≠ (TX8 b).2.1 := by decide +kernel
theorem tyX8_ok : ∀ k, k < 14 → parseFieldDescriptor (TX8 k).2.2.1 = some (tyX8 k) := by decide +kernel
def RX9 : String := "LeagueOffice$Tables"
def TX9 : u_T := fun k => match k with
  | 0 => ("LeagueOffice$Tables", "book", "LLeagueOffice$Book;", true)
  | 1 => ("LeagueOffice$Tables", "texts", "LLeagueOffice$Texts;", true)
  | 2 => ("LeagueOffice$Tables", "takenClubs", "LLeagueOffice$Row;", true)
  | 3 => ("LeagueOffice$Tables", "takenPoints", "LLeagueOffice$Row;", true)
  | 4 => ("LeagueOffice$Tables", "takenFroms", "LLeagueOffice$Row;", true)
  | 5 => ("LeagueOffice$Tables", "points", "[J", true)
  | 6 => ("LeagueOffice$Tables", "goals", "LLeagueOffice$Row;", true)
  | 7 => ("LeagueOffice$Tables", "made", "LLeagueOffice$Row;", true)
  | 8 => ("LeagueOffice$Tables", "won", "LLeagueOffice$Row;", true)
  | 9 => ("LeagueOffice$Tables", "likes", "LLeagueOffice$Row;", true)
  | 10 => ("LeagueOffice$Tables", "asked", "LLeagueOffice$Row;", true)
  | _ => ("LeagueOffice$Tables", "likeDay", "I", false)
def tyX9 : Nat → FieldType := fun k => match k with
  | 0 => .object "LeagueOffice$Book"
  | 1 => .object "LeagueOffice$Texts"
  | 2 => .object "LeagueOffice$Row"
  | 3 => .object "LeagueOffice$Row"
  | 4 => .object "LeagueOffice$Row"
  | 5 => .array .long
  | 6 => .object "LeagueOffice$Row"
  | 7 => .object "LeagueOffice$Row"
  | 8 => .object "LeagueOffice$Row"
  | 9 => .object "LeagueOffice$Row"
  | 10 => .object "LeagueOffice$Row"
  | _ => .int
theorem nmX9 : ∀ a, a < 12 → ∀ b, b < 12 → a ≠ b → (TX9 a).2.1 ≠ (TX9 b).2.1 := by decide +kernel
theorem tyX9_ok : ∀ k, k < 12 → parseFieldDescriptor (TX9 k).2.2.1 = some (tyX9 k) := by decide +kernel
def RX10 : String := "LeagueOffice$Texts"
def TX10 : u_T := fun k => match k with
  | 0 => ("LeagueOffice$Texts", "size", "I", false)
  | 1 => ("LeagueOffice$Texts", "code", "LLeagueOffice$Row;", true)
  | 2 => ("LeagueOffice$Texts", "starts", "LLeagueOffice$Row;", true)
  | 3 => ("LeagueOffice$Texts", "ends", "LLeagueOffice$Row;", true)
  | 4 => ("LeagueOffice$Texts", "names", "LLeagueOffice$Row;", true)
  | 5 => ("LeagueOffice$Texts", "stack", "LLeagueOffice$Row;", true)
  | 6 => ("LeagueOffice$Texts", "ruleTexts", "LLeagueOffice$Row;", true)
  | _ => ("LeagueOffice$Texts", "ruleFroms", "LLeagueOffice$Row;", true)
def tyX10 : Nat → FieldType := fun k => match k with
  | 0 => .int
  | 1 => .object "LeagueOffice$Row"
  | 2 => .object "LeagueOffice$Row"
  | 3 => .object "LeagueOffice$Row"
  | 4 => .object "LeagueOffice$Row"
  | 5 => .object "LeagueOffice$Row"
  | 6 => .object "LeagueOffice$Row"
  | _ => .object "LeagueOffice$Row"
theorem nmX10 : ∀ a, a < 8 → ∀ b, b < 8 → a ≠ b → (TX10 a).2.1 ≠ (TX10 b).2.1 := by decide +kernel
theorem tyX10_ok : ∀ k, k < 8 → parseFieldDescriptor (TX10 k).2.2.1 = some (tyX10 k) := by decide +kernel
def RX11 : String := "LeagueOffice"
def TX11 : u_T := fun k => match k with
  | 0 => ("LeagueOffice", "book", "LLeagueOffice$Book;", true)
  | 1 => ("LeagueOffice", "texts", "LLeagueOffice$Texts;", true)
  | 2 => ("LeagueOffice", "reader", "LLeagueOffice$Reader;", true)
  | 3 => ("LeagueOffice", "tables", "LLeagueOffice$Tables;", true)
  | 4 => ("LeagueOffice", "squad", "LLeagueOffice$Squad;", true)
  | 5 => ("LeagueOffice", "failures", "LLeagueOffice$Failures;", true)
  | 6 => ("LeagueOffice", "chances", "LLeagueOffice$Chances;", true)
  | 7 => ("LeagueOffice", "purse", "LLeagueOffice$Purse;", true)
  | 8 => ("LeagueOffice", "plan", "LLeagueOffice$Plan;", true)
  | _ => ("LeagueOffice", "sheets", "LLeagueOffice$Sheets;", true)
def tyX11 : Nat → FieldType := fun k => match k with
  | 0 => .object "LeagueOffice$Book"
  | 1 => .object "LeagueOffice$Texts"
  | 2 => .object "LeagueOffice$Reader"
  | 3 => .object "LeagueOffice$Tables"
  | 4 => .object "LeagueOffice$Squad"
  | 5 => .object "LeagueOffice$Failures"
  | 6 => .object "LeagueOffice$Chances"
  | 7 => .object "LeagueOffice$Purse"
  | 8 => .object "LeagueOffice$Plan"
  | _ => .object "LeagueOffice$Sheets"
theorem nmX11 : ∀ a, a < 10 → ∀ b, b < 10 → a ≠ b → (TX11 a).2.1 ≠ (TX11 b).2.1 := by decide +kernel
theorem tyX11_ok : ∀ k, k < 10 → parseFieldDescriptor (TX11 k).2.2.1 = some (tyX11 k) := by decide +kernel
def RX12 : String := "LeagueOfficeModel"
def TX12 : u_T := fun k => match k with
  | 0 => ("LeagueOfficeModel", "code", "I", false)
  | 1 => ("LeagueOfficeModel", "today", "I", false)
  | 2 => ("LeagueOfficeModel", "clubs", "I", false)
  | 3 => ("LeagueOfficeModel", "stepOf", "[I", true)
  | 4 => ("LeagueOfficeModel", "townOf", "[I", true)
  | 5 => ("LeagueOfficeModel", "games", "I", false)
  | 6 => ("LeagueOfficeModel", "kind", "[I", true)
  | 7 => ("LeagueOfficeModel", "home", "[I", true)
  | 8 => ("LeagueOfficeModel", "guest", "[I", true)
  | 9 => ("LeagueOfficeModel", "day", "[I", true)
  | 10 => ("LeagueOfficeModel", "results", "I", false)
  | 11 => ("LeagueOfficeModel", "resultGame", "[I", true)
  | 12 => ("LeagueOfficeModel", "resultIs", "[I", true)
  | 13 => ("LeagueOfficeModel", "resultDay", "[I", true)
  | 14 => ("LeagueOfficeModel", "tape", "[B", true)
  | 15 => ("LeagueOfficeModel", "taped", "I", false)
  | 16 => ("LeagueOfficeModel", "texts", "I", false)
  | 17 => ("LeagueOfficeModel", "partEnd", "[I", true)
  | 18 => ("LeagueOfficeModel", "act", "[I", true)
  | 19 => ("LeagueOfficeModel", "with", "[I", true)
  | 20 => ("LeagueOfficeModel", "from", "I", false)
  | 21 => ("LeagueOfficeModel", "upTo", "I", false)
  | 22 => ("LeagueOfficeModel", "token", "I", false)
  | 23 => ("LeagueOfficeModel", "value", "I", false)
  | 24 => ("LeagueOfficeModel", "fault", "I", false)
  | 25 => ("LeagueOfficeModel", "open", "I", false)
  | 26 => ("LeagueOfficeModel", "laid", "I", false)
  | 27 => ("LeagueOfficeModel", "rules", "I", false)
  | 28 => ("LeagueOfficeModel", "ruleText", "[I", true)
  | 29 => ("LeagueOfficeModel", "ruleFrom", "[I", true)
  | 30 => ("LeagueOfficeModel", "facts", "[I", true)
  | 31 => ("LeagueOfficeModel", "pile", "[I", true)
  | 32 => ("LeagueOfficeModel", "takings", "I", false)
  | 33 => ("LeagueOfficeModel", "takenClub", "[I", true)
  | 34 => ("LeagueOfficeModel", "takenPoints", "[I", true)
  | 35 => ("LeagueOfficeModel", "takenFrom", "[I", true)
  | 36 => ("LeagueOfficeModel", "goalsOf", "[I", true)
  | 37 => ("LeagueOfficeModel", "madeOf", "[I", true)
  | 38 => ("LeagueOfficeModel", "wonOf", "[I", true)
  | 39 => ("LeagueOfficeModel", "pointsNow", "[J", true)
  | 40 => ("LeagueOfficeModel", "likeNow", "[J", true)
  | 41 => ("LeagueOfficeModel", "players", "I", false)
  | 42 => ("LeagueOfficeModel", "tellings", "I", false)
  | 43 => ("LeagueOfficeModel", "toldPlayer", "[I", true)
  | 44 => ("LeagueOfficeModel", "toldClub", "[I", true)
  | 45 => ("LeagueOfficeModel", "toldFrom", "[I", true)
  | 46 => ("LeagueOfficeModel", "cards", "I", false)
  | 47 => ("LeagueOfficeModel", "cardPlayer", "[I", true)
  | 48 => ("LeagueOfficeModel", "cardGame", "[I", true)
  | 49 => ("LeagueOfficeModel", "cardKind", "[I", true)
  | 50 => ("LeagueOfficeModel", "playedMany", "I", false)
  | 51 => ("LeagueOfficeModel", "playedPlayer", "[I", true)
  | 52 => ("LeagueOfficeModel", "playedGame", "[I", true)
  | 53 => ("LeagueOfficeModel", "bannedGame", "[I", true)
  | 54 => ("LeagueOfficeModel", "bannedMany", "[I", true)
  | 55 => ("LeagueOfficeModel", "isTaken", "[Z", true)
  | 56 => ("LeagueOfficeModel", "hasFailed", "[Z", true)
  | 57 => ("LeagueOfficeModel", "isChanged", "[Z", true)
  | 58 => ("LeagueOfficeModel", "wasKind", "[I", true)
  | 59 => ("LeagueOfficeModel", "wasHome", "[I", true)
  | 60 => ("LeagueOfficeModel", "wasGuest", "[I", true)
  | 61 => ("LeagueOfficeModel", "wasFail", "[I", true)
  | 62 => ("LeagueOfficeModel", "lastFail", "[I", true)
  | 63 => ("LeagueOfficeModel", "stills", "I", false)
  | 64 => ("LeagueOfficeModel", "still", "[I", true)
  | 65 => ("LeagueOfficeModel", "placeBy", "[I", true)
  | 66 => ("LeagueOfficeModel", "sumBy", "[J", true)
  | 67 => ("LeagueOfficeModel", "pointsBase", "[J", true)
  | 68 => ("LeagueOfficeModel", "goalsBase", "[I", true)
  | 69 => ("LeagueOfficeModel", "madeBase", "[I", true)
  | 70 => ("LeagueOfficeModel", "wonBase", "[I", true)
  | 71 => ("LeagueOfficeModel", "meetings", "I", false)
  | 72 => ("LeagueOfficeModel", "meetOne", "[I", true)
  | 73 => ("LeagueOfficeModel", "meetOther", "[I", true)
  | 74 => ("LeagueOfficeModel", "sheetSort", "[I", true)
  | 75 => ("LeagueOfficeModel", "sheetSize", "[I", true)
  | 76 => ("LeagueOfficeModel", "cells", "[I", true)
  | _ => ("LeagueOfficeModel", "copied", "[I", true)
def tyX12 : Nat → FieldType := fun k => match k with
  | 0 => .int
  | 1 => .int
  | 2 => .int
  | 3 => .array .int
  | 4 => .array .int
  | 5 => .int
  | 6 => .array .int
  | 7 => .array .int
  | 8 => .array .int
  | 9 => .array .int
  | 10 => .int
  | 11 => .array .int
  | 12 => .array .int
  | 13 => .array .int
  | 14 => .array .byte
  | 15 => .int
  | 16 => .int
  | 17 => .array .int
  | 18 => .array .int
  | 19 => .array .int
  | 20 => .int
  | 21 => .int
  | 22 => .int
  | 23 => .int
  | 24 => .int
  | 25 => .int
  | 26 => .int
  | 27 => .int
  | 28 => .array .int
  | 29 => .array .int
  | 30 => .array .int
  | 31 => .array .int
  | 32 => .int
  | 33 => .array .int
  | 34 => .array .int
  | 35 => .array .int
  | 36 => .array .int
  | 37 => .array .int
  | 38 => .array .int
  | 39 => .array .long
  | 40 => .array .long
  | 41 => .int
  | 42 => .int
  | 43 => .array .int
  | 44 => .array .int
  | 45 => .array .int
  | 46 => .int
  | 47 => .array .int
  | 48 => .array .int
  | 49 => .array .int
  | 50 => .int
  | 51 => .array .int
  | 52 => .array .int
  | 53 => .array .int
  | 54 => .array .int
  | 55 => .array .boolean
  | 56 => .array .boolean
  | 57 => .array .boolean
  | 58 => .array .int
  | 59 => .array .int
  | 60 => .array .int
  | 61 => .array .int
  | 62 => .array .int
  | 63 => .int
  | 64 => .array .int
  | 65 => .array .int
  | 66 => .array .long
  | 67 => .array .long
  | 68 => .array .int
  | 69 => .array .int
  | 70 => .array .int
  | 71 => .int
  | 72 => .array .int
  | 73 => .array .int
  | 74 => .array .int
  | 75 => .array .int
  | 76 => .array .int
  | _ => .array .int
theorem nmX12 : ∀ a, a < 78 → ∀ b, b < 78 → a ≠ b → (TX12 a).2.1 ≠ (TX12 b).2.1 := by decide +kernel
theorem tyX12_ok : ∀ k, k < 78 → parseFieldDescriptor (TX12 k).2.2.1 = some (tyX12 k) := by decide +kernel
abbrev vwCl : List vw_C := [(RX0, TX0, 12), (RX1, TX1, 10), (RX2, TX2, 7), (RX3, TX3, 6), (RX4, TX4, 3), (RX5, TX5, 6), (RX6, TX6, 2), (RX7, TX7, 3), (RX8, TX8, 14), (RX9, TX9, 12), (RX10, TX10, 8), (RX11, TX11, 10), (RX12, TX12, 78)]
/-- the words that hold in every frame -/
def mx_GT : List Cond := lw_tbl.filter goodWord
theorem mx_gt {w : Cond} (i : Nat) (h : lw_tbl[i]? = some w) (hg : goodWord w = true) : w ∈ mx_GT := List.mem_filter.mpr ⟨List.mem_of_getElem? h, hg⟩
def mx_NT : List Cond := lw_tbl.filter (fun w => match w with | .fieldLinkNest .. => true | .methodLinkNest .. => true | _ => false)
set_option maxRecDepth 100000 in
theorem mx_w0 : ∀ w ∈ u_ws RX0 TX0 12, w ∈ mx_GT := by
  have h1 : u_ws RX0 TX0 12 = [182, 184, 186, 188, 190, 192, 194, 196, 198, 200, 202, 204].filterMap (fun i => lw_tbl[i]?) := by decide +kernel
  have h2 : (u_ws RX0 TX0 12).all goodWord = true := by decide +kernel
  intro w hw
  have h3 := List.all_eq_true.mp h2 w hw
  rw [h1] at hw
  obtain ⟨i, -, hi⟩ := List.mem_filterMap.mp hw
  exact mx_gt i hi h3
set_option maxRecDepth 100000 in
theorem mx_w1 : ∀ w ∈ u_ws RX1 TX1 10, w ∈ mx_GT := by
  have h1 : u_ws RX1 TX1 10 = [430, 432, 434, 436, 438, 440, 442, 444, 446, 448].filterMap (fun i => lw_tbl[i]?) := by decide +kernel
  have h2 : (u_ws RX1 TX1 10).all goodWord = true := by decide +kernel
  intro w hw
  have h3 := List.all_eq_true.mp h2 w hw
  rw [h1] at hw
  obtain ⟨i, -, hi⟩ := List.mem_filterMap.mp hw
  exact mx_gt i hi h3
set_option maxRecDepth 100000 in
theorem mx_w2 : ∀ w ∈ u_ws RX2 TX2 7, w ∈ mx_GT := by
  have h1 : u_ws RX2 TX2 7 = [397, 399, 401, 403, 405, 407, 409].filterMap (fun i => lw_tbl[i]?) := by decide +kernel
  have h2 : (u_ws RX2 TX2 7).all goodWord = true := by decide +kernel
  intro w hw
  have h3 := List.all_eq_true.mp h2 w hw
  rw [h1] at hw
  obtain ⟨i, -, hi⟩ := List.mem_filterMap.mp hw
  exact mx_gt i hi h3
set_option maxRecDepth 100000 in
theorem mx_w3 : ∀ w ∈ u_ws RX3 TX3 6, w ∈ mx_GT := by
  have h1 : u_ws RX3 TX3 6 = [486, 488, 490, 492, 494, 496].filterMap (fun i => lw_tbl[i]?) := by decide +kernel
  have h2 : (u_ws RX3 TX3 6).all goodWord = true := by decide +kernel
  intro w hw
  have h3 := List.all_eq_true.mp h2 w hw
  rw [h1] at hw
  obtain ⟨i, -, hi⟩ := List.mem_filterMap.mp hw
  exact mx_gt i hi h3
set_option maxRecDepth 100000 in
theorem mx_w4 : ∀ w ∈ u_ws RX4 TX4 3, w ∈ mx_GT := by
  have h1 : u_ws RX4 TX4 3 = [462, 464, 466].filterMap (fun i => lw_tbl[i]?) := by decide +kernel
  have h2 : (u_ws RX4 TX4 3).all goodWord = true := by decide +kernel
  intro w hw
  have h3 := List.all_eq_true.mp h2 w hw
  rw [h1] at hw
  obtain ⟨i, -, hi⟩ := List.mem_filterMap.mp hw
  exact mx_gt i hi h3
set_option maxRecDepth 100000 in
theorem mx_w5 : ∀ w ∈ u_ws RX5 TX5 6, w ∈ mx_GT := by
  have h1 : u_ws RX5 TX5 6 = [259, 261, 263, 265, 267, 269].filterMap (fun i => lw_tbl[i]?) := by decide +kernel
  have h2 : (u_ws RX5 TX5 6).all goodWord = true := by decide +kernel
  intro w hw
  have h3 := List.all_eq_true.mp h2 w hw
  rw [h1] at hw
  obtain ⟨i, -, hi⟩ := List.mem_filterMap.mp hw
  exact mx_gt i hi h3
set_option maxRecDepth 100000 in
theorem mx_w6 : ∀ w ∈ u_ws RX6 TX6 2, w ∈ mx_GT := by
  have h1 : u_ws RX6 TX6 2 = [123, 125].filterMap (fun i => lw_tbl[i]?) := by decide +kernel
  have h2 : (u_ws RX6 TX6 2).all goodWord = true := by decide +kernel
  intro w hw
  have h3 := List.all_eq_true.mp h2 w hw
  rw [h1] at hw
  obtain ⟨i, -, hi⟩ := List.mem_filterMap.mp hw
  exact mx_gt i hi h3
set_option maxRecDepth 100000 in
theorem mx_w7 : ∀ w ∈ u_ws RX7 TX7 3, w ∈ mx_GT := by
  have h1 : u_ws RX7 TX7 3 = [510, 512, 514].filterMap (fun i => lw_tbl[i]?) := by decide +kernel
  have h2 : (u_ws RX7 TX7 3).all goodWord = true := by decide +kernel
  intro w hw
  have h3 := List.all_eq_true.mp h2 w hw
  rw [h1] at hw
  obtain ⟨i, -, hi⟩ := List.mem_filterMap.mp hw
  exact mx_gt i hi h3
set_option maxRecDepth 100000 in
theorem mx_w8 : ∀ w ∈ u_ws RX8 TX8 14, w ∈ mx_GT := by
  have h1 : u_ws RX8 TX8 14 = [353, 355, 357, 359, 361, 363, 365, 367, 369, 371, 373, 375, 377, 379].filterMap (fun i => lw_tbl[i]?) := by decide +kernel
  have h2 : (u_ws RX8 TX8 14).all goodWord = true := by decide +kernel
  intro w hw
  have h3 := List.all_eq_true.mp h2 w hw
  rw [h1] at hw
  obtain ⟨i, -, hi⟩ := List.mem_filterMap.mp hw
  exact mx_gt i hi h3
set_option maxRecDepth 100000 in
theorem mx_w9 : ∀ w ∈ u_ws RX9 TX9 12, w ∈ mx_GT := by
  have h1 : u_ws RX9 TX9 12 = [295, 297, 299, 301, 303, 305, 307, 309, 311, 313, 315, 317].filterMap (fun i => lw_tbl[i]?) := by decide +kernel
  have h2 : (u_ws RX9 TX9 12).all goodWord = true := by decide +kernel
  intro w hw
  have h3 := List.all_eq_true.mp h2 w hw
  rw [h1] at hw
  obtain ⟨i, -, hi⟩ := List.mem_filterMap.mp hw
  exact mx_gt i hi h3
set_option maxRecDepth 100000 in
theorem mx_w10 : ∀ w ∈ u_ws RX10 TX10 8, w ∈ mx_GT := by
  have h1 : u_ws RX10 TX10 8 = [227, 229, 231, 233, 235, 237, 239, 241].filterMap (fun i => lw_tbl[i]?) := by decide +kernel
  have h2 : (u_ws RX10 TX10 8).all goodWord = true := by decide +kernel
  intro w hw
  have h3 := List.all_eq_true.mp h2 w hw
  rw [h1] at hw
  obtain ⟨i, -, hi⟩ := List.mem_filterMap.mp hw
  exact mx_gt i hi h3
set_option maxRecDepth 100000 in
theorem mx_w11 : ∀ w ∈ u_ws RX11 TX11 10, w ∈ mx_GT := by
  have h1 : u_ws RX11 TX11 10 = [706, 708, 710, 712, 714, 716, 718, 720, 722, 724].filterMap (fun i => lw_tbl[i]?) := by decide +kernel
  have h2 : (u_ws RX11 TX11 10).all goodWord = true := by decide +kernel
  intro w hw
  have h3 := List.all_eq_true.mp h2 w hw
  rw [h1] at hw
  obtain ⟨i, -, hi⟩ := List.mem_filterMap.mp hw
  exact mx_gt i hi h3
set_option maxRecDepth 100000 in
theorem mx_w12 : ∀ w ∈ u_ws RX12 TX12 78, w ∈ mx_GT := by
  have h1 : u_ws RX12 TX12 78 = [1530, 1532, 1534, 1536, 1538, 1540, 1542, 1544, 1546, 1548, 1550, 1552, 1554, 1556, 1558, 1560, 1562, 1564, 1566, 1568, 1570, 1572, 1574, 1576, 1578, 1580, 1582, 1584, 1586, 1588, 1590, 1592, 1594, 1596, 1598, 1600, 1602, 1604, 1606, 1608, 1610, 1612, 1614, 1616, 1618, 1620, 1622, 1624, 1626, 1628, 1630, 1632, 1634, 1636, 1638, 1640, 1642, 1644, 1646, 1648, 1650, 1652, 1654, 1656, 1658, 1660, 1662, 1664, 1666, 1668, 1670, 1672, 1674, 1676, 1678, 1680, 1682, 1684].filterMap (fun i => lw_tbl[i]?) := by decide +kernel
  have h2 : (u_ws RX12 TX12 78).all goodWord = true := by decide +kernel
  intro w hw
  have h3 := List.all_eq_true.mp h2 w hw
  rw [h1] at hw
  obtain ⟨i, -, hi⟩ := List.mem_filterMap.mp hw
  exact mx_gt i hi h3
/-- static fields that nobody writes -/
def mx_SF : List (String × String × String × Value) := [("java/lang/String", "COMPACT_STRINGS", "Z", .int 1), ("jdk/internal/util/Preconditions", "SIOOBE_FORMATTER", "Ljava/util/function/BiFunction;", .ref 1050), ("java/lang/StringUTF16", "$assertionsDisabled", "Z", .int 1), ("java/lang/StringUTF16", "HI_BYTE_SHIFT", "I", .int 0), ("java/lang/StringUTF16", "LO_BYTE_SHIFT", "I", .int 8), ("LeagueOffice", "COUNTS", "[I", .ref 1000), ("LeagueOffice", "SERVES", "[I", .ref 1001), ("LeagueOffice", "GATES", "[I", .ref 1002), ("LeagueOffice", "HOME_PARTS", "[I", .ref 1003), ("LeagueOffice", "UNDER", "[I", .ref 1004), ("LeagueOfficeModel", "FIRST", "[B", .ref 1005), ("LeagueOfficeModel", "PARTS", "[J", .ref 1006), ("LeagueOfficeModel", "NAMES", "[J", .ref 1007)]
/-- string constants -/
def mx_SR : List (String × Nat × String) := [("LeagueOffice", 89, "win 3 ; draw 1 ; like goals * 100 + made ; ban kind = 2 or cards = 5 ;"), ("LeagueOffice$Reader", 111, "goals"), ("LeagueOffice$Reader", 113, "made"), ("LeagueOffice$Reader", 115, "won"), ("LeagueOffice$Reader", 117, "cards"), ("LeagueOffice$Reader", 119, "kind"), ("LeagueOffice$Reader", 121, "late"), ("LeagueOffice$Reader", 123, "win"), ("LeagueOffice$Reader", 125, "draw"), ("LeagueOffice$Reader", 127, "like"), ("LeagueOffice$Reader", 129, "ban"), ("LeagueOffice$Reader", 131, "or"), ("LeagueOffice$Reader", 133, "and"), ("LeagueOffice$Reader", 135, "not")]
/-- what a new object holds -/
def mx_DF : List (List Value) := [[.int 0, .null, .null, .null, .null, .null, .null, .null, .null, .null, .null, .null],
  [.null, .null, .null, .null, .null, .null, .null, .null, .null, .int 0],
  [.null, .int 0, .null, .null, .null, .null, .null],
  [.null, .null, .null, .null, .int 0, .int 0],
  [.null, .null, .null],
  [.null, .null, .null, .null, .null, .int 0],
  [.null, .int 0],
  [.null, .null, .null],
  [.null, .null, .int 0, .null, .null, .null, .null, .null, .null, .null, .null, .null, .null, .null],
  [.null, .null, .null, .null, .null, .null, .null, .null, .null, .null, .null, .int 0],
  [.int 0, .null, .null, .null, .null, .null, .null, .null],
  [.null, .null, .null, .null, .null, .null, .null, .null, .null, .null],
  [.int 0, .int 0, .int 0, .null, .null, .int 0, .null, .null, .null, .null, .int 0, .null, .null, .null, .null, .int 0, .int 0, .null, .null, .null, .int 0, .int 0, .int 0, .int 0, .int 0, .int 0, .int 0, .int 0, .null, .null, .null, .null, .int 0, .null, .null, .null, .null, .null, .null, .null, .null, .int 0, .int 0, .null, .null, .null, .int 0, .null, .null, .null, .int 0, .null, .null, .null, .null, .null, .null, .null, .null, .null, .null, .null, .null, .int 0, .null, .null, .null, .null, .null, .null, .null, .int 0, .null, .null, .null, .null, .null, .null]]
/-- static arrays, by their numbers: kind, contents -/
def mx_SAL : List (Nat × Nat × List Int) := [(0, 0, [1, 0, 1, 1, 1, 0]),
  (1, 0, [1, 0, 1, 0, 1, 0]),
  (2, 0, [300, 150, 240, 0, 480, 0]),
  (3, 0, [100, 50, 100, 100, 80, 100]),
  (4, 0, [-1, 0, 0, 0, 2, 3]),
  (5, 1, [119, 105, 110, 32, 51, 32, 59, 32, 100, 114, 97, 119, 32, 49, 32, 59, 32, 108, 105, 107, 101, 32, 103, 111, 97, 108, 115, 32, 42, 32, 49, 48, 48, 32, 43, 32, 109, 97, 100, 101, 32, 59, 32, 98, 97, 110, 32, 107, 105, 110, 100, 32, 61, 32, 50, 32, 111, 114, 32, 99, 97, 114, 100, 115, 32, 61, 32, 53, 32, 59]),
  (6, 3, [17024, 91904, 243059, 1499]),
  (7, 3, [4016404, 256721, 17186, 1627255, 223456, 237470]),
  (200, 1, [119, 105, 110, 32, 51, 32, 59, 32, 100, 114, 97, 119, 32, 49, 32, 59, 32, 108, 105, 107, 101, 32, 103, 111, 97, 108, 115, 32, 42, 32, 49, 48, 48, 32, 43, 32, 109, 97, 100, 101, 32, 59, 32, 98, 97, 110, 32, 107, 105, 110, 100, 32, 61, 32, 50, 32, 111, 114, 32, 99, 97, 114, 100, 115, 32, 61, 32, 53, 32, 59]),
  (201, 1, [103, 111, 97, 108, 115]),
  (202, 1, [109, 97, 100, 101]),
  (203, 1, [119, 111, 110]),
  (204, 1, [99, 97, 114, 100, 115]),
  (205, 1, [107, 105, 110, 100]),
  (206, 1, [108, 97, 116, 101]),
  (207, 1, [119, 105, 110]),
  (208, 1, [100, 114, 97, 119]),
  (209, 1, [108, 105, 107, 101]),
  (210, 1, [98, 97, 110]),
  (211, 1, [111, 114]),
  (212, 1, [97, 110, 100]),
  (213, 1, [110, 111, 116])]
end
section
/-! THE SMALL MACHINE: a method's frame is (pc, locals, stack, memory); the memory is a list of cells, a reference is a cell's place in it (from 1000 on: a thing that nobody writes). An instruction is (what, a, b, list). -/
abbrev mx_E : Type := (Nat × List Value) ⊕ (Nat × vp_A)
abbrev mx_M : Type := List mx_E
abbrev mx_L : Type := List (Nat × Value)
abbrev mx_C : Type := Nat × mx_L × List Value × mx_M
abbrev mx_I : Type := Nat × Nat × Nat × List Nat
abbrev mx_G : Type := Nat × (Nat → Nat) × (Nat → ClassId) × va_G
abbrev mx_S : Type := Nat → Option (Nat × vp_A)
def mx_nth {α : Type} : List α → Nat → Option α
  | [], _ => none
  | a :: _, 0 => some a
  | _ :: l, n + 1 => mx_nth l n
theorem mx_nth_eq {α : Type} : ∀ (l : List α) (n : Nat), mx_nth l n = l[n]?
  | [], n => by simp [mx_nth]
  | a :: l, 0 => by simp [mx_nth]
  | a :: l, n + 1 => by simp [mx_nth, mx_nth_eq l n]
def mx_lk (i : Nat) : mx_L → Option Value
  | [] => none
  | (j, v) :: l => bif Nat.beq j i then some v else mx_lk i l
theorem mx_lk_mem {i : Nat} {v : Value} : ∀ {l : mx_L}, mx_lk i l = some v → (i, v) ∈ l
  | [], h => by simp [mx_lk] at h
  | (j, w) :: l, h => by
    unfold mx_lk at h
    cases hb : Nat.beq j i with
    | true =>
      rw [hb] at h
      simp only [cond_true, Option.some.injEq] at h
      have := Nat.eq_of_beq_eq_true hb
      subst this; subst h
      exact List.mem_cons_self
    | false =>
      rw [hb] at h
      simp only [cond_false] at h
      exact List.mem_cons_of_mem _ (mx_lk_mem h)
def mx_sto (i : Nat) (v : Value) (lv : mx_L) : mx_L := (i, v) :: lv.filter (fun q => !(q.1 == i) && !(q.1 + 1 == i && q.2.category == 2))
def mx_sto2 (i : Nat) (v : Value) (lv : mx_L) : mx_L := (i, v) :: lv.filter (fun q => !(q.1 == i) && (!(q.1 == i + 1) && !(q.1 + 1 == i && q.2.category == 2)))
/-- a reference's address -/
def mx_ad (G : mx_G) (q : Nat) : Nat := if q < 1000 then G.1 + q else G.2.1 (q - 1000)
def mx_tr (G : mx_G) : Value → Value
  | .ref q => .ref (mx_ad G q)
  | v => v
def mx_tq (G : mx_G) (q : Nat × Value) : Nat × Value := (q.1, mx_tr G q.2)
def mx_tE (G : mx_G) : mx_E → va_E
  | .inl (ci, fs) => .inr (ci, fs.map (mx_tr G))
  | .inr (t, x) => .inl (G.2.2.1 t, x)
def mx_W (G : mx_G) (M : mx_M) : va_W := M.mapIdx fun k e => (G.1 + k, mx_tE G e)
def mx_A (G : mx_G) : Nat → Prop := fun q => G.1 ≤ q
theorem mx_tr_cat (G : mx_G) (v : Value) : (mx_tr G v).category = v.category := by cases v <;> rfl
theorem mx_ad_lt {G : mx_G} {q : Nat} (h : q < 1000) : mx_ad G q = G.1 + q := if_pos h
theorem mx_ad_ge {G : mx_G} {q : Nat} : mx_ad G (1000 + q) = G.2.1 q := by
  unfold mx_ad
  rw [if_neg (by omega), Nat.add_sub_cancel_left]
theorem mx_W_get {G : mx_G} {M : mx_M} {k : Nat} {e : mx_E} (h : M[k]? = some e) : (mx_W G M)[k]? = some (G.1 + k, mx_tE G e) := by
  simp [mx_W, List.getElem?_mapIdx, h]
theorem mx_W_of {G : mx_G} {M : mx_M} {k : Nat} {q : Nat × va_E} (h : (mx_W G M)[k]? = some q) : ∃ e, M[k]? = some e ∧ q = (G.1 + k, mx_tE G e) := by
  simp only [mx_W, List.getElem?_mapIdx] at h
  cases hm : M[k]? with
  | none => rw [hm] at h; cases h
  | some e => rw [hm] at h; exact ⟨e, rfl, (Option.some.inj h).symm⟩
theorem mx_W_set {G : mx_G} {M : mx_M} {k : Nat} {e : mx_E} : (mx_W G M).set k (G.1 + k, mx_tE G e) = mx_W G (M.set k e) := by
  apply List.ext_getElem?
  intro i
  simp only [mx_W, List.getElem?_set, List.getElem?_mapIdx, List.length_mapIdx]
  by_cases h : k = i
  · subst h
    by_cases h2 : k < M.length <;> simp [h2]
  · simp [h]
theorem mx_W_app {G : mx_G} {M : mx_M} {e : mx_E} : mx_W G (M ++ [e]) = mx_W G M ++ [(G.1 + M.length, mx_tE G e)] := by
  simp [mx_W, List.mapIdx_append]
theorem mx_W_D (G : mx_G) (M : mx_M) : va_D (mx_A G) (mx_W G M) := by
  refine ⟨fun i j p q hi hj h => ?_, fun k q hk => ?_⟩
  · obtain ⟨e1, -, rfl⟩ := mx_W_of hi
    obtain ⟨e2, -, rfl⟩ := mx_W_of hj
    have h : G.1 + i = G.1 + j := h
    omega
  · obtain ⟨e1, -, rfl⟩ := mx_W_of hk
    show G.1 ≤ G.1 + k
    omega
def mx_ty : Nat → FieldType
  | 0 => .int
  | 1 => .byte
  | 2 => .boolean
  | _ => .long
def mx_tys (G : mx_G) : List (ClassId × FieldType) := [(G.2.2.1 0, .int), (G.2.2.1 1, .byte), (G.2.2.1 2, .boolean), (G.2.2.1 3, .long)]
theorem mx_tys_at (G : mx_G) {t : Nat} (h : t < 4) : (mx_tys G)[t]? = some (G.2.2.1 t, mx_ty t) := by
  match t, h with
  | 0, _ => rfl
  | 1, _ => rfl
  | 2, _ => rfl
  | 3, _ => rfl
def mx_con (x : vp_A) (j : Nat) : Value := match x.2 with
  | .inl f => .int (f j)
  | .inr (.inl f) => .long (f j)
  | _ => .null
theorem mx_con_tr (G : mx_G) (x : vp_A) (j : Nat) : mx_tr G (mx_con x j) = mx_con x j := by
  obtain ⟨n, f | f | f | f | f⟩ := x <;> rfl
def mx_szE : mx_E → Nat
  | .inl (_, fs) => fs.length
  | .inr (_, x) => x.1
def mx_sz : mx_M → Nat
  | [] => 0
  | e :: M => mx_szE e + mx_sz M
theorem mx_sz_app (M : mx_M) (e : mx_E) : mx_sz (M ++ [e]) = mx_sz M + mx_szE e := by
  induction M with
  | nil => simp [mx_sz]
  | cons a M ih => simp only [List.cons_append, mx_sz, ih]; omega
theorem mx_sz_set : ∀ {M : mx_M} {k : Nat} {e e' : mx_E}, M[k]? = some e → mx_szE e' = mx_szE e → mx_sz (M.set k e') = mx_sz M
  | [], k, e, e', h, _ => by simp at h
  | a :: M, 0, e, e', h, hs => by
    simp at h
    subst h
    simp [mx_sz, hs]
  | a :: M, k + 1, e, e', h, hs => by
    simp at h
    simp only [List.set_cons_succ, mx_sz]
    rw [mx_sz_set h hs]
/-- static fields: class, name, descriptor, what it holds -/
abbrev mx_F : Type := String × String × String × Value
/-- what holds of all that nobody writes: the tables, static fields, static arrays, strings -/
def mx_Env (G : mx_G) (SA : mx_S) (SF : List mx_F) (SR : List (String × Nat × String)) (U : State) (H : Heap) : Prop :=
  va_K G.2.2.2 vwCl (mx_tys G) U ∧ (∀ w ∈ mx_NT, va_Nw w U) ∧
  (∀ (j t : Nat) (x : vp_A), SA j = some (t, x) → t < 4 ∧ va_T (mx_ty t) (G.2.1 j) x.1 (mx_con x) (mx_A G) U H) ∧
  (∀ q ∈ SF, va_Z q.1 q.2.1 q.2.2.1 (mx_tr G q.2.2.2) (mx_A G) U H) ∧
  ∀ (i : Nat) (q : String × Nat × String), SR[i]? = some q → vk_R q.1 q.2.1 q.2.2 (G.2.1 (100 + i)) U ∧ va_O "java/lang/String" (G.2.1 (100 + i)) (mx_A G) U H ∧ va_OF "java/lang/String" "coder" "B" (.int 0) (G.2.1 (100 + i)) (mx_A G) U H ∧ va_OF "java/lang/String" "value" "[B" (.ref (G.2.1 (200 + i))) (G.2.1 (100 + i)) (mx_A G) U H
theorem mx_nt_kept {w : Cond} (hw : w ∈ mx_NT) {s U : State} (hW : s.WarmedH U.vm) (h : va_Nw w s) : va_Nw w U := by
  have h2 := (List.mem_filter.mp hw).2
  cases w <;> first
    | exact va_Nw.warmF hW h
    | exact va_Nw.warmM hW h
    | cases h2
theorem mx_nt_same {w : Cond} (hw : w ∈ mx_NT) {s U : State} (hv : s.vm = U.vm) (h : va_Nw w s) : va_Nw w U := by
  have h2 := (List.mem_filter.mp hw).2
  cases w <;> first
    | exact va_Nw.same rfl hv h
    | cases h2
theorem mx_Env_kept {G : mx_G} {SA : mx_S} {SF : List mx_F} {SR : List (String × Nat × String)} {s U : State} {H1 : Heap} (h : mx_Env G SA SF SR s s.heap) (hW : s.WarmedH U.vm) (hq : ∀ a : Nat, a < s.heap.size → ¬ mx_A G a → H1[a]? = s.heap[a]?) : mx_Env G SA SF SR U H1 :=
  ⟨va_K.moved hW.alike h.1, fun w hw => mx_nt_kept hw hW (h.2.1 w hw), fun j t x hx => ⟨(h.2.2.1 j t x hx).1, ((h.2.2.1 j t x hx).2.kept hq).moved hW.alike⟩, fun q hx => ((h.2.2.2.1 q hx).kept hq).moved hW.alike,
    fun i q hx => ⟨vk_R.warm hW (h.2.2.2.2 i q hx).1, ((h.2.2.2.2 i q hx).2.1.kept hq).moved hW.alike, ((h.2.2.2.2 i q hx).2.2.1.kept hq).moved hW.alike, ((h.2.2.2.2 i q hx).2.2.2.kept hq).moved hW.alike⟩⟩
theorem mx_Env_same {G : mx_G} {SA : mx_S} {SF : List mx_F} {SR : List (String × Nat × String)} {s U : State} {H : Heap} (h : mx_Env G SA SF SR s H) (hv : s.vm = U.vm) : mx_Env G SA SF SR U H := by
  have ha : s.vm.Alike U.vm := by rw [hv]; exact Vm.Alike.refl _
  exact ⟨va_K.moved ha h.1, fun w hw => mx_nt_same hw hv (h.2.1 w hw), fun j t x hx => ⟨(h.2.2.1 j t x hx).1, (h.2.2.1 j t x hx).2.moved ha⟩, fun q hx => (h.2.2.2.1 q hx).moved ha,
    fun i q hx => ⟨vk_R.same hv.symm (h.2.2.2.2 i q hx).1, (h.2.2.2.2 i q hx).2.1.moved ha, (h.2.2.2.2 i q hx).2.2.1.moved ha, (h.2.2.2.2 i q hx).2.2.2.moved ha⟩⟩
end
section
/-! THE SMALL MACHINE: its instructions -/
def mx_push (v : Value) (n : Nat) (c : mx_C) : Option mx_C := some (c.1 + n, c.2.1, v :: c.2.2.1, c.2.2.2)
def mx_ldi (a n : Nat) (c : mx_C) : Option mx_C := match mx_lk a c.2.1 with
  | some (.int x) => some (c.1 + n, c.2.1, .int x :: c.2.2.1, c.2.2.2)
  | _ => none
def mx_ldl (a n : Nat) (c : mx_C) : Option mx_C := match mx_lk a c.2.1 with
  | some (.long x) => some (c.1 + n, c.2.1, .long x :: c.2.2.1, c.2.2.2)
  | _ => none
def mx_lda (a n : Nat) (c : mx_C) : Option mx_C := match mx_lk a c.2.1 with
  | some (.ref x) => some (c.1 + n, c.2.1, .ref x :: c.2.2.1, c.2.2.2)
  | _ => none
def mx_sti (a n : Nat) (c : mx_C) : Option mx_C := match c.2.2.1 with
  | .int x :: st => some (c.1 + n, mx_sto a (.int x) c.2.1, st, c.2.2.2)
  | _ => none
def mx_stl (a n : Nat) (c : mx_C) : Option mx_C := match c.2.2.1 with
  | .long x :: st => some (c.1 + n, mx_sto2 a (.long x) c.2.1, st, c.2.2.2)
  | _ => none
def mx_sta (a n : Nat) (c : mx_C) : Option mx_C := match c.2.2.1 with
  | .ref x :: st => some (c.1 + n, mx_sto a (.ref x) c.2.1, st, c.2.2.2)
  | _ => none
def mx_inc (a d : Nat) (c : mx_C) : Option mx_C := match mx_lk a c.2.1 with
  | some (.int x) => some (c.1 + 3, mx_sto a (.int (x + Int32.ofNat d)) c.2.1, c.2.2.1, c.2.2.2)
  | _ => none
def mx_ii (f : Int32 → Int32 → Option Value) (c : mx_C) : Option mx_C := match c.2.2.1 with
  | .int y :: .int x :: st => (match f x y with
    | some v => some (c.1 + 1, c.2.1, v :: st, c.2.2.2)
    | none => none)
  | _ => none
def mx_ll (f : Int64 → Int64 → Option Value) (c : mx_C) : Option mx_C := match c.2.2.1 with
  | .long y :: .long x :: st => (match f x y with
    | some v => some (c.1 + 1, c.2.1, v :: st, c.2.2.2)
    | none => none)
  | _ => none
def mx_li (f : Int64 → Int32 → Value) (c : mx_C) : Option mx_C := match c.2.2.1 with
  | .int y :: .long x :: st => some (c.1 + 1, c.2.1, f x y :: st, c.2.2.2)
  | _ => none
def mx_i1 (f : Int32 → Value) (c : mx_C) : Option mx_C := match c.2.2.1 with
  | .int x :: st => some (c.1 + 1, c.2.1, f x :: st, c.2.2.2)
  | _ => none
def mx_l1 (f : Int64 → Value) (c : mx_C) : Option mx_C := match c.2.2.1 with
  | .long x :: st => some (c.1 + 1, c.2.1, f x :: st, c.2.2.2)
  | _ => none
def mx_is2 : Value → Bool
  | .long _ => true
  | .double _ => true
  | _ => false
theorem mx_is2_cat {v : Value} (h : mx_is2 v = false) : v.category = 1 := by cases v <;> first | rfl | cases h
def mx_dup (c : mx_C) : Option mx_C := match c.2.2.1 with
  | v :: st => bif mx_is2 v then none else some (c.1 + 1, c.2.1, v :: v :: st, c.2.2.2)
  | _ => none
def mx_pop (c : mx_C) : Option mx_C := match c.2.2.1 with
  | v :: st => bif mx_is2 v then none else some (c.1 + 1, c.2.1, st, c.2.2.2)
  | _ => none
def mx_dup2 (c : mx_C) : Option mx_C := match c.2.2.1 with
  | v :: w :: st => bif mx_is2 v || mx_is2 w then none else some (c.1 + 1, c.2.1, v :: w :: v :: w :: st, c.2.2.2)
  | _ => none
def mx_if (p : Int32 → Bool) (t : Nat) (c : mx_C) : Option mx_C := match c.2.2.1 with
  | .int x :: st => some (bif p x then t else c.1 + 3, c.2.1, st, c.2.2.2)
  | _ => none
def mx_if2 (p : Int32 → Int32 → Bool) (t : Nat) (c : mx_C) : Option mx_C := match c.2.2.1 with
  | .int y :: .int x :: st => some (bif p x y then t else c.1 + 3, c.2.1, st, c.2.2.2)
  | _ => none
/-- a table switch's target -/
def mx_tsw (d : Nat) (lo : Int) (ts : List Nat) (x : Int) : Nat := match x - lo with
  | .ofNat k => (match mx_nth ts k with
    | some t => t
    | none => d)
  | .negSucc _ => d
/-- a lookup switch's target: keys and targets -/
def mx_lsw (d : Nat) (x : Int32) : List Nat → Nat
  | k :: t :: r => bif x == Int32.ofNat k then t else mx_lsw d x r
  | _ => d
def mx_sw (f : Int32 → Nat) (c : mx_C) : Option mx_C := match c.2.2.1 with
  | .int x :: st => some (f x, c.2.1, st, c.2.2.2)
  | _ => none
def mx_get (ci k : Nat) (c : mx_C) : Option mx_C := match c.2.2.1 with
  | .ref q :: st => (match mx_nth c.2.2.2 q with
    | some (.inl (cj, fs)) => bif Nat.beq cj ci then (match mx_nth fs k with
      | some v => some (c.1 + 3, c.2.1, v :: st, c.2.2.2)
      | none => none) else none
    | _ => none)
  | _ => none
/-- the fields of a string: its bytes, its coder -/
def mx_gstr (k N : Nat) (c : mx_C) : Option mx_C := match c.2.2.1 with
  | .ref q :: st => bif Nat.ble 1100 q && Nat.blt q (1100 + N) then some (c.1 + 3, c.2.1, (bif Nat.beq k 0 then .ref (q + 100) else .int 0) :: st, c.2.2.2) else none
  | _ => none
def mx_put (ci k : Nat) (c : mx_C) : Option mx_C := match c.2.2.1 with
  | .int v :: .ref q :: st => (match mx_nth c.2.2.2 q with
    | some (.inl (cj, fs)) => bif Nat.beq cj ci && Nat.blt k fs.length then some (c.1 + 3, c.2.1, st, c.2.2.2.set q (.inl (cj, fs.set k (.int v)))) else none
    | _ => none)
  | _ => none
def mx_putF (ci k : Nat) (c : mx_C) : Option mx_C := match c.2.2.1 with
  | .ref v :: .ref q :: st => (match mx_nth c.2.2.2 q with
    | some (.inl (cj, fs)) => bif Nat.beq cj ci && Nat.blt k fs.length then some (c.1 + 3, c.2.1, st, c.2.2.2.set q (.inl (cj, fs.set k (.ref v)))) else none
    | _ => none)
  | _ => none
/-- contents of an array's kind -/
def mx_kd (t : Nat) (x : vp_A) : Bool := match x.2 with
  | .inl _ => Nat.blt t 3
  | .inr (.inl _) => Nat.beq t 3
  | _ => false
/-- an array that can be read -/
def mx_ar (SA : mx_S) (M : mx_M) (q : Nat) : Option (Nat × vp_A) := bif Nat.ble 1000 q then SA (q - 1000) else match mx_nth M q with
  | some (.inr (t, x)) => bif mx_kd t x then some (t, x) else none
  | _ => none
def mx_alen (SA : mx_S) (c : mx_C) : Option mx_C := match c.2.2.1 with
  | .ref q :: st => (match mx_ar SA c.2.2.2 q with
    | some (_, x) => some (c.1 + 1, c.2.1, .int (Int32.ofNat x.1) :: st, c.2.2.2)
    | _ => none)
  | _ => none
def mx_inb (i : Int32) (n : Nat) : Bool := match i.toInt with
  | .ofNat k => Nat.blt k n
  | .negSucc _ => false
def mx_ald (SA : mx_S) (t : Nat) (c : mx_C) : Option mx_C := match c.2.2.1 with
  | .int i :: .ref q :: st => (match mx_ar SA c.2.2.2 q with
    | some (u, x) => bif Nat.beq u t && mx_inb i x.1 then some (c.1 + 1, c.2.1, mx_con x i.toNatClampNeg :: st, c.2.2.2) else none
    | _ => none)
  | _ => none
/-- what an array of ints, bytes, booleans holds of a number -/
def mx_nar (t : Nat) (v : Int32) : Int32 := match t with
  | 0 => v
  | 1 => vp_nar .byte v
  | _ => vp_nar .boolean v
def mx_ast (t : Nat) (c : mx_C) : Option mx_C := match c.2.2.1 with
  | .int v :: .int i :: .ref q :: st => (match mx_nth c.2.2.2 q with
    | some (.inr (u, n, .inl f)) => bif Nat.beq u t && mx_inb i n then some (c.1 + 1, c.2.1, st, c.2.2.2.set q (.inr (u, n, .inl (upd f i.toNatClampNeg (mx_nar t v))))) else none
    | _ => none)
  | _ => none
def mx_last (c : mx_C) : Option mx_C := match c.2.2.1 with
  | .long v :: .int i :: .ref q :: st => (match mx_nth c.2.2.2 q with
    | some (.inr (u, n, .inr (.inl f))) => bif Nat.beq u 3 && mx_inb i n then some (c.1 + 1, c.2.1, st, c.2.2.2.set q (.inr (u, n, .inr (.inl (vp_updL f i.toNatClampNeg v))))) else none
    | _ => none)
  | _ => none
def mx_new (ci : Nat) (fs : List Value) (c : mx_C) : Option mx_C := bif Nat.blt c.2.2.2.length 999 then some (c.1 + 3, c.2.1, .ref c.2.2.2.length :: c.2.2.1, c.2.2.2 ++ [.inl (ci, fs)]) else none
/-- a new array's cells -/
def mx_zero (t n : Nat) : vp_A := match t with
  | 3 => (n, .inr (.inl (fun _ => 0)))
  | _ => (n, .inl (fun _ => 0))
def mx_newa (t : Nat) (c : mx_C) : Option mx_C := match c.2.2.1 with
  | .int n :: st => bif mx_inb n 2000 && Nat.blt c.2.2.2.length 999 then some (c.1 + 2, c.2.1, .ref c.2.2.2.length :: st, c.2.2.2 ++ [.inr (t, mx_zero t n.toNatClampNeg)]) else none
  | _ => none
def mx_cat : List Value → Nat
  | [] => 0
  | v :: l => (bif mx_is2 v then 2 else 1) + mx_cat l
def mx_obj (c : mx_C) : Option mx_C := match c.2.2.1 with
  | .ref _ :: st => bif Nat.ble (mx_cat st) 8 then some (c.1 + 3, c.2.1, st, c.2.2.2) else none
  | _ => none
/-- an array of ints -/
def mx_ia (M : mx_M) (q : Nat) : Option (Nat × (Nat → Int32)) := match mx_nth M q with
  | some (.inr (t, n, .inl f)) => bif Nat.beq t 0 then some (n, f) else none
  | _ => none
def mx_copy (c : mx_C) : Option mx_C := match c.2.2.1 with
  | .int n :: .int dp :: .ref q1 :: .int sp :: .ref q0 :: st => (match mx_ia c.2.2.2 q0 with
    | some f => (match mx_ia c.2.2.2 q1 with
      | some g => bif mx_inb sp 2000 && (mx_inb dp 2000 && (mx_inb n 2000 && (Nat.ble (sp.toNatClampNeg + n.toNatClampNeg) f.1 && (Nat.ble (dp.toNatClampNeg + n.toNatClampNeg) g.1 && Nat.ble (mx_cat st) 8)))) then some (c.1 + 3, c.2.1, st, c.2.2.2.set q1 (.inr (0, g.1, .inl (va_cpy f.2 g.2 sp.toNatClampNeg dp.toNatClampNeg n.toNatClampNeg)))) else none
      | none => none)
    | none => none)
  | _ => none
def mx_div (x y : Int32) : Option Value := if y = 0 then none else some (.int (x / y))
def mx_rem (x y : Int32) : Option Value := if y = 0 then none else some (.int (x - x / y * y))
def mx_ldiv (x y : Int64) : Option Value := if y = 0 then none else some (.long (x / y))
/-- one instruction that is no call and no end -/
def mx_op (SA : mx_S) (SF : List mx_F) (DF : List (List Value)) (N : Nat) (i : mx_I) (c : mx_C) : Option mx_C := match i.1 with
  | 0 => mx_push (.int (Int32.ofNat i.2.1)) i.2.2.1 c
  | 1 => mx_push (.long (Int64.ofNat i.2.1)) i.2.2.1 c
  | 2 => mx_ldi i.2.1 i.2.2.1 c
  | 3 => mx_ldl i.2.1 i.2.2.1 c
  | 4 => mx_lda i.2.1 i.2.2.1 c
  | 5 => mx_sti i.2.1 i.2.2.1 c
  | 6 => mx_stl i.2.1 i.2.2.1 c
  | 7 => mx_sta i.2.1 i.2.2.1 c
  | 8 => mx_inc i.2.1 i.2.2.1 c
  | 9 => mx_ii (fun x y => some (.int (x + y))) c
  | 10 => mx_ii (fun x y => some (.int (x - y))) c
  | 11 => mx_ii (fun x y => some (.int (x * y))) c
  | 12 => mx_ii (fun x y => some (.int (x &&& y))) c
  | 13 => mx_ii (fun x y => some (.int (x ||| y))) c
  | 14 => mx_ii mx_div c
  | 15 => mx_ii mx_rem c
  | 16 => mx_i1 (fun x => .int (-x)) c
  | 17 => mx_ii (fun x y => some (.int (x <<< (y &&& 31)))) c
  | 18 => mx_ii (fun x y => some (.int (x >>> (y &&& 31)))) c
  | 19 => mx_ll (fun x y => some (.long (x + y))) c
  | 20 => mx_ll (fun x y => some (.long (x - y))) c
  | 21 => mx_ll (fun x y => some (.long (x * y))) c
  | 22 => mx_ll mx_ldiv c
  | 23 => mx_ll (fun x y => some (.long (x &&& y))) c
  | 24 => mx_ll (fun x y => some (.long (x ||| y))) c
  | 25 => mx_li (fun x y => .long (x <<< (y.toInt64 &&& 63))) c
  | 26 => mx_li (fun x y => .long (x >>> (y.toInt64 &&& 63))) c
  | 27 => mx_ll (fun x y => some (.int (lg_cmp x y))) c
  | 28 => mx_i1 (fun x => .long x.toInt64) c
  | 29 => mx_l1 (fun x => .int x.toInt32) c
  | 30 => mx_i1 (fun x => .int x.toInt8.toInt32) c
  | 31 => mx_i1 (fun x => .int x.toInt16.toInt32) c
  | 32 => mx_i1 (fun x => .int (x.toUInt32 % 65536).toInt32) c
  | 33 => mx_dup c
  | 34 => mx_pop c
  | 35 => mx_dup2 c
  | 36 => mx_if (fun x => decide (x = 0)) i.2.1 c
  | 37 => mx_if (fun x => !decide (x = 0)) i.2.1 c
  | 38 => mx_if (fun x => decide (x < 0)) i.2.1 c
  | 39 => mx_if (fun x => decide (0 ≤ x)) i.2.1 c
  | 40 => mx_if (fun x => decide (0 < x)) i.2.1 c
  | 41 => mx_if (fun x => decide (x ≤ 0)) i.2.1 c
  | 42 => mx_if2 (fun x y => decide (x = y)) i.2.1 c
  | 43 => mx_if2 (fun x y => !decide (x = y)) i.2.1 c
  | 44 => mx_if2 (fun x y => decide (x < y)) i.2.1 c
  | 45 => mx_if2 (fun x y => decide (y ≤ x)) i.2.1 c
  | 46 => mx_if2 (fun x y => decide (y < x)) i.2.1 c
  | 47 => mx_if2 (fun x y => decide (x ≤ y)) i.2.1 c
  | 48 => some (i.2.1, c.2.1, c.2.2.1, c.2.2.2)
  | 49 => mx_sw (fun x => mx_tsw i.2.1 (Int32.ofNat i.2.2.1).toInt i.2.2.2 x.toInt) c
  | 50 => mx_sw (fun x => mx_lsw i.2.1 x i.2.2.2) c
  | 51 => mx_get i.2.1 i.2.2.1 c
  | 52 => mx_gstr i.2.1 N c
  | 53 => mx_put i.2.1 i.2.2.1 c
  | 54 => mx_putF i.2.1 i.2.2.1 c
  | 55 => (match mx_nth SF i.2.1 with
    | some q => mx_push q.2.2.2 3 c
    | none => none)
  | 56 => bif Nat.blt i.2.1 N then mx_push (.ref (1100 + i.2.1)) 2 c else none
  | 57 => mx_alen SA c
  | 58 => mx_ald SA i.2.1 c
  | 59 => mx_ast i.2.1 c
  | 60 => mx_last c
  | 61 => (match mx_nth DF i.2.1 with
    | some fs => mx_new i.2.1 fs c
    | none => none)
  | 62 => mx_newa i.2.1 c
  | 63 => mx_obj c
  | 64 => mx_copy c
  | _ => none
end
section
/-! THE SMALL MACHINE'S INSTRUCTIONS ARE THE MACHINE'S -/
def mx_Ctx (bytes : ByteArray) (nL : Nat) (y : MethodName) (G : mx_G) (SA : mx_S) (p : Program) (R : Room) (s : State) (m : MethodId) (args : Array Value) (meth : Method) (c0 : Code) : Prop :=
  p.tables.exec = Jvm.exec ∧ c0.code = bytes ∧ c0.maxLocals = nL ∧ s.vm.findClass y.cls = some m.cls ∧ (∀ w ∈ mx_GT, w.before args s = true) ∧ (y.name = "<init>" → meth.name = "<init>") ∧ mx_Env G SA mx_SF mx_SR s s.heap ∧ G.1 ≤ s.heap.size ∧ 1 ≤ R.frames ∧ 40 ≤ R.locals
/-- from here the frame comes to its end -/
def mx_Go (nL : Nat) (G : mx_G) (p : Program) (l : Launch) (e : Env) (R : Room) (s : State) (m : MethodId) (args : Array Value) (below : List Frame) (meth : Method) (c0 : Code) (Q : State → Prop) (L0 S0 : Nat) (c : mx_C) : Prop :=
  ∀ (H : Heap) (locs : List Loc) (ls : Array Slot), c.2.2.2.length ≤ 1000 → H.size = G.1 + c.2.2.2.length → va_P G.2.2.2 vwCl (mx_W G c.2.2.2) H → va_S (mx_A G) s.heap H locs → lv_has ls nL (c.2.1.map (mx_tq G)) → W p l e R s m args below meth c0 H locs (c.2.2.2.length - L0) (mx_sz c.2.2.2 - S0) Q (F0 m c.1 ls (c.2.2.1.map (mx_tr G)))
def mx_Snd (bytes : ByteArray) (nL : Nat) (y : MethodName) (pc : Nat) (i : mx_I) : Prop :=
  ∀ (G : mx_G) (SA : mx_S) (p : Program) (l : Launch) (e : Env) (R : Room) (s : State) (m : MethodId) (args : Array Value) (below : List Frame) (meth : Method) (c0 : Code) (Q : State → Prop) (L0 S0 : Nat), mx_Ctx bytes nL y G SA p R s m args meth c0 →
    ∀ c c' : mx_C, c.1 = pc → L0 ≤ c.2.2.2.length → S0 ≤ mx_sz c.2.2.2 → c'.2.2.2.length ≤ R.cells + L0 → mx_sz c'.2.2.2 ≤ R.slots + S0 → mx_op SA mx_SF mx_DF 14 i c = some c' → mx_Go nL G p l e R s m args below meth c0 Q L0 S0 c' → mx_Go nL G p l e R s m args below meth c0 Q L0 S0 c
/-- a row that changes the top of the stack alone -/
def mx_Row (bytes : ByteArray) (pc pc' : Nat) (top top' : List Value) : Prop :=
  ∀ (p : Program) (l : Launch) (e : Env) (R : Room) (s : State) (m : MethodId) (args : Array Value) (below : List Frame) (meth : Method) (c0 : Code) (Q : State → Prop) (H : Heap) (locs : List Loc) (cells slots : Nat) (ls : Array Slot) (rest : List Value), p.tables.exec = Jvm.exec → c0.code = bytes →
    W p l e R s m args below meth c0 H locs cells slots Q (F0 m pc' ls (top' ++ rest)) → W p l e R s m args below meth c0 H locs cells slots Q (F0 m pc ls (top ++ rest))
theorem ms_plain {bytes : ByteArray} {nL : Nat} {y : MethodName} {pc : Nat} {i : mx_I}
    (h : ∀ (SA : mx_S) (c c' : mx_C), mx_op SA mx_SF mx_DF 14 i c = some c' → c.1 = pc → ∃ top top' rest : List Value, c.2.2.1 = top ++ rest ∧ c'.2.2.1 = top' ++ rest ∧ c'.2.1 = c.2.1 ∧ c'.2.2.2 = c.2.2.2 ∧ ∀ G : mx_G, mx_Row bytes pc c'.1 (top.map (mx_tr G)) (top'.map (mx_tr G))) : mx_Snd bytes nL y pc i := by
  intro G SA p l e R s m args below meth c0 Q L0 S0 K c c' hpc _ _ _ _ hop hgo H locs ls h1 h2 hP hS hv
  obtain ⟨top, top', rest, e1, e2, e3, e4, row⟩ := h SA c c' hop hpc
  rw [hpc, e1, List.map_append]
  refine row G p l e R s m args below meth c0 Q H locs _ _ ls _ K.1 K.2.1 ?_
  have g := hgo H locs ls
  rw [e2, e3, e4, List.map_append] at g
  exact g h1 h2 hP hS hv
section MSV
variable {bytes : ByteArray} {nL : Nat} {y : MethodName} {pc : Nat}
/-- a push -/
theorem ms_push {i : mx_I} {v : Value} {n : Nat} (hi : ∀ (SA : mx_S) (c : mx_C), mx_op SA mx_SF mx_DF 14 i c = mx_push v n c) (row : ∀ G : mx_G, mx_Row bytes pc (pc + n) [] [mx_tr G v]) : mx_Snd bytes nL y pc i := by
  refine ms_plain fun SA c c' hop hpc => ⟨[], [v], c.2.2.1, rfl, ?_, ?_, ?_, fun G => ?_⟩ <;> (rw [hi] at hop; have h := Option.some.inj hop; subst h)
  · rfl
  · rfl
  · rfl
  · subst hpc
    exact row G
theorem ms_iconst {a : Nat} {L : List Nat} {n : Int} (hd : decode bytes pc = .ok (.iconst n, 1)) (hv : Int32.ofInt n = Int32.ofNat a) : mx_Snd bytes nL y pc (0, a, 1, L) :=
  ms_push (v := .int (Int32.ofNat a)) (n := 1) (fun _ _ => rfl) fun _ _ _ _ _ _ _ _ _ _ _ _ _ _ _ _ _ _ hx hb k => lv_iconst hx hb hd hv k
theorem ms_bipush {a : Nat} {L : List Nat} {n : Int} (hd : decode bytes pc = .ok (.bipush n, 2)) (hv : (Int8.ofInt n).toInt32 = Int32.ofNat a) : mx_Snd bytes nL y pc (0, a, 2, L) :=
  ms_push (v := .int (Int32.ofNat a)) (n := 2) (fun _ _ => rfl) fun _ _ _ _ _ _ _ _ _ _ _ _ _ _ _ _ _ _ hx hb k => lv_bipush hx hb hd hv k
theorem ms_sipush {a : Nat} {L : List Nat} {n : Int} (hd : decode bytes pc = .ok (.sipush n, 3)) (hv : (Int16.ofInt n).toInt32 = Int32.ofNat a) : mx_Snd bytes nL y pc (0, a, 3, L) :=
  ms_push (v := .int (Int32.ofNat a)) (n := 3) (fun _ _ => rfl) fun _ _ _ _ _ _ _ _ _ _ _ _ _ _ _ _ _ _ hx hb k => lv_sipush hx hb hd hv k
theorem ms_lconst {a : Nat} {L : List Nat} {n : Fin 2} (hd : decode bytes pc = .ok (.lconst n, 1)) (hv : Int64.ofNat (n : Nat) = Int64.ofNat a) : mx_Snd bytes nL y pc (1, a, 1, L) :=
  ms_push (v := .long (Int64.ofNat a)) (n := 1) (fun _ _ => rfl) fun _ _ _ _ _ _ _ _ _ _ _ _ _ _ _ _ _ _ hx hb k => lv_lconst hx hb hd hv k
/-- a constant of the pool -/
theorem ms_pool {i : mx_I} {v : Value} {n : Nat} (hi : ∀ (SA : mx_S) (c : mx_C), mx_op SA mx_SF mx_DF 14 i c = mx_push v n c) (hv : ∀ G : mx_G, mx_tr G v = v)
    (row : ∀ (p : Program) (l : Launch) (e : Env) (R : Room) (s : State) (m : MethodId) (args : Array Value) (below : List Frame) (meth : Method) (c0 : Code) (Q : State → Prop) (H : Heap) (locs : List Loc) (cells slots : Nat) (ls : Array Slot) (rest : List Value), p.tables.exec = Jvm.exec → c0.code = bytes → s.vm.findClass y.cls = some m.cls → (∀ w ∈ mx_GT, w.before args s = true) →
      W p l e R s m args below meth c0 H locs cells slots Q (F0 m (pc + n) ls (v :: rest)) → W p l e R s m args below meth c0 H locs cells slots Q (F0 m pc ls rest)) : mx_Snd bytes nL y pc i := by
  intro G SA p l e R s m args below meth c0 Q L0 S0 K c c' hpc _ _ _ _ hop hgo H locs ls h1 h2 hP hS hl
  rw [hi] at hop
  have h := Option.some.inj hop
  subst h
  rw [hpc]
  refine row p l e R s m args below meth c0 Q H locs _ _ ls _ K.1 K.2.1 K.2.2.2.1 K.2.2.2.2.1 ?_
  have g := hgo H locs ls h1 h2 hP hS hl
  rw [← hpc, ← hv G]
  exact g
theorem ms_ldc {a : Nat} {L : List Nat} {idx : Nat} (w : Nat) (hd : decode bytes pc = .ok (.ldc idx, 2)) (hw : lw_tbl[w]? = some (.constant y.cls idx (Int32.ofNat a))) : mx_Snd bytes nL y pc (0, a, 2, L) :=
  ms_pool (v := .int (Int32.ofNat a)) (n := 2) (fun _ _ => rfl) (fun _ => rfl) fun _ _ _ _ _ _ _ _ _ _ _ _ _ _ _ _ _ hx hb ho ht k => lv_ldc hx hb ho (ht _ (mx_gt w hw rfl)) hd k
theorem ms_ldcw {a : Nat} {L : List Nat} {idx : Nat} (w : Nat) (hd : decode bytes pc = .ok (.ldc_w idx, 3)) (hw : lw_tbl[w]? = some (.constant y.cls idx (Int32.ofNat a))) : mx_Snd bytes nL y pc (0, a, 3, L) :=
  ms_pool (v := .int (Int32.ofNat a)) (n := 3) (fun _ _ => rfl) (fun _ => rfl) fun _ _ _ _ _ _ _ _ _ _ _ _ _ _ _ _ _ hx hb ho ht k => lv_ldcw hx hb ho (ht _ (mx_gt w hw rfl)) hd k
theorem ms_ldc2 {a : Nat} {L : List Nat} {idx : Nat} (w : Nat) (hd : decode bytes pc = .ok (.ldc2_w idx, 3)) (hw : lw_tbl[w]? = some (.constantLong y.cls idx (Int64.ofNat a))) : mx_Snd bytes nL y pc (1, a, 3, L) :=
  ms_pool (v := .long (Int64.ofNat a)) (n := 3) (fun _ _ => rfl) (fun _ => rfl) fun _ _ _ _ _ _ _ _ _ _ _ _ _ _ _ _ _ hx hb ho ht k => lv_ldc2 hx hb ho (ht _ (mx_gt w hw rfl)) hd k
/-- loads -/
theorem ms_load {i : mx_I} {a n : Nat} (ty : Value → Prop) (hi : ∀ (SA : mx_S) (c c' : mx_C), mx_op SA mx_SF mx_DF 14 i c = some c' → ∃ v, ty v ∧ mx_lk a c.2.1 = some v ∧ c' = (c.1 + n, c.2.1, v :: c.2.2.1, c.2.2.2))
    (row : ∀ (G : mx_G) (v : Value), ty v → ∀ (p : Program) (l : Launch) (e : Env) (R : Room) (s : State) (m : MethodId) (args : Array Value) (below : List Frame) (meth : Method) (c0 : Code) (Q : State → Prop) (H : Heap) (locs : List Loc) (cells slots : Nat) (ls : Array Slot) (rest : List Value), p.tables.exec = Jvm.exec → c0.code = bytes → ls[a]? = some (.val (mx_tr G v)) →
      W p l e R s m args below meth c0 H locs cells slots Q (F0 m (pc + n) ls (mx_tr G v :: rest)) → W p l e R s m args below meth c0 H locs cells slots Q (F0 m pc ls rest)) : mx_Snd bytes nL y pc i := by
  intro G SA p l e R s m args below meth c0 Q L0 S0 K c c' hpc _ _ _ _ hop hgo H locs ls h1 h2 hP hS hl
  obtain ⟨v, hty, hlk, rfl⟩ := hi SA c c' hop
  rw [hpc]
  refine row G v hty p l e R s m args below meth c0 Q H locs _ _ ls _ K.1 K.2.1 (hl.2.2 (a, mx_tr G v) (List.mem_map.mpr ⟨(a, v), mx_lk_mem hlk, rfl⟩)) ?_
  rw [← hpc]
  exact hgo H locs ls h1 h2 hP hS hl
def mx_isI (v : Value) : Prop := ∃ x, v = .int x
def mx_isL (v : Value) : Prop := ∃ x, v = .long x
def mx_isA (v : Value) : Prop := ∃ x, v = .ref x
theorem mx_ldi_inv {a n : Nat} {c c' : mx_C} (h : mx_ldi a n c = some c') : ∃ v, mx_isI v ∧ mx_lk a c.2.1 = some v ∧ c' = (c.1 + n, c.2.1, v :: c.2.2.1, c.2.2.2) := by
  unfold mx_ldi at h
  split at h
  · next x hx => exact ⟨_, ⟨x, rfl⟩, hx, (Option.some.inj h).symm⟩
  · cases h
theorem mx_ldl_inv {a n : Nat} {c c' : mx_C} (h : mx_ldl a n c = some c') : ∃ v, mx_isL v ∧ mx_lk a c.2.1 = some v ∧ c' = (c.1 + n, c.2.1, v :: c.2.2.1, c.2.2.2) := by
  unfold mx_ldl at h
  split at h
  · next x hx => exact ⟨_, ⟨x, rfl⟩, hx, (Option.some.inj h).symm⟩
  · cases h
theorem mx_lda_inv {a n : Nat} {c c' : mx_C} (h : mx_lda a n c = some c') : ∃ v, mx_isA v ∧ mx_lk a c.2.1 = some v ∧ c' = (c.1 + n, c.2.1, v :: c.2.2.1, c.2.2.2) := by
  unfold mx_lda at h
  split at h
  · next x hx => exact ⟨_, ⟨x, rfl⟩, hx, (Option.some.inj h).symm⟩
  · cases h
theorem ms_iload_n {a : Nat} {L : List Nat} {k : Fin 4} (hd : decode bytes pc = .ok (.iload_n k, 1)) (hk : (k : Nat) = a) : mx_Snd bytes nL y pc (2, a, 1, L) :=
  ms_load mx_isI (fun _ _ _ h => mx_ldi_inv h) fun G v hv p l e R s m args below meth c0 Q H locs cells slots ls rest hx hb hl kk => by
    obtain ⟨x, rfl⟩ := hv
    exact lv_iload_n hx hb hd hk hl kk
theorem ms_iload {a : Nat} {L : List Nat} (hd : decode bytes pc = .ok (.iload a, 2)) : mx_Snd bytes nL y pc (2, a, 2, L) :=
  ms_load mx_isI (fun _ _ _ h => mx_ldi_inv h) fun G v hv p l e R s m args below meth c0 Q H locs cells slots ls rest hx hb hl kk => by
    obtain ⟨x, rfl⟩ := hv
    exact lv_iload hx hb hd hl kk
theorem ms_lload_n {a : Nat} {L : List Nat} {k : Fin 4} (hd : decode bytes pc = .ok (.lload_n k, 1)) (hk : (k : Nat) = a) : mx_Snd bytes nL y pc (3, a, 1, L) :=
  ms_load mx_isL (fun _ _ _ h => mx_ldl_inv h) fun G v hv p l e R s m args below meth c0 Q H locs cells slots ls rest hx hb hl kk => by
    obtain ⟨x, rfl⟩ := hv
    exact lv_lload_n hx hb hd hk hl kk
theorem ms_lload {a : Nat} {L : List Nat} (hd : decode bytes pc = .ok (.lload a, 2)) : mx_Snd bytes nL y pc (3, a, 2, L) :=
  ms_load mx_isL (fun _ _ _ h => mx_ldl_inv h) fun G v hv p l e R s m args below meth c0 Q H locs cells slots ls rest hx hb hl kk => by
    obtain ⟨x, rfl⟩ := hv
    exact lv_lload hx hb hd hl kk
theorem ms_aload_n {a : Nat} {L : List Nat} {k : Fin 4} (hd : decode bytes pc = .ok (.aload_n k, 1)) (hk : (k : Nat) = a) : mx_Snd bytes nL y pc (4, a, 1, L) :=
  ms_load mx_isA (fun _ _ _ h => mx_lda_inv h) fun G v hv p l e R s m args below meth c0 Q H locs cells slots ls rest hx hb hl kk => by
    obtain ⟨x, rfl⟩ := hv
    exact lv_aload_n hx hb hd hk hl kk
theorem ms_aload {a : Nat} {L : List Nat} (hd : decode bytes pc = .ok (.aload a, 2)) : mx_Snd bytes nL y pc (4, a, 2, L) :=
  ms_load mx_isA (fun _ _ _ h => mx_lda_inv h) fun G v hv p l e R s m args below meth c0 Q H locs cells slots ls rest hx hb hl kk => by
    obtain ⟨x, rfl⟩ := hv
    exact lv_aload hx hb hd hl kk
/-- stores -/
theorem mx_sto_tr (G : mx_G) (i : Nat) (v : Value) (lv : mx_L) : (mx_sto i v lv).map (mx_tq G) = (i, mx_tr G v) :: (lv.map (mx_tq G)).filter (fun q => !(q.1 == i) && !(q.1 + 1 == i && q.2.category == 2)) := by
  unfold mx_sto
  rw [List.map_cons, List.filter_map]
  have : ((fun q : Nat × Value => !(q.1 == i) && !(q.1 + 1 == i && q.2.category == 2)) ∘ mx_tq G) = (fun q : Nat × Value => !(q.1 == i) && !(q.1 + 1 == i && q.2.category == 2)) := by
    funext q
    simp only [Function.comp, mx_tq, mx_tr_cat]
  rw [this]
  rfl
theorem mx_sto2_tr (G : mx_G) (i : Nat) (v : Value) (lv : mx_L) : (mx_sto2 i v lv).map (mx_tq G) = (i, mx_tr G v) :: (lv.map (mx_tq G)).filter (fun q => !(q.1 == i) && (!(q.1 == i + 1) && !(q.1 + 1 == i && q.2.category == 2))) := by
  unfold mx_sto2
  rw [List.map_cons, List.filter_map]
  have : ((fun q : Nat × Value => !(q.1 == i) && (!(q.1 == i + 1) && !(q.1 + 1 == i && q.2.category == 2))) ∘ mx_tq G) = (fun q : Nat × Value => !(q.1 == i) && (!(q.1 == i + 1) && !(q.1 + 1 == i && q.2.category == 2))) := by
    funext q
    simp only [Function.comp, mx_tq, mx_tr_cat]
  rw [this]
  rfl
theorem ms_store {i : mx_I} {n : Nat} (ty : Value → Prop) (f : Value → mx_L → mx_L) (hi : ∀ (SA : mx_S) (c c' : mx_C), mx_op SA mx_SF mx_DF 14 i c = some c' → ∃ v st, ty v ∧ c.2.2.1 = v :: st ∧ c' = (c.1 + n, f v c.2.1, st, c.2.2.2))
    (row : ∀ (G : mx_G) (v : Value) (lv : mx_L), ty v → ∀ (p : Program) (l : Launch) (e : Env) (R : Room) (s : State) (m : MethodId) (args : Array Value) (below : List Frame) (meth : Method) (c0 : Code) (Q : State → Prop) (H : Heap) (locs : List Loc) (cells slots : Nat) (ls : Array Slot) (rest : List Value), p.tables.exec = Jvm.exec → c0.code = bytes → lv_has ls nL (lv.map (mx_tq G)) →
      (∀ ls' : Array Slot, lv_has ls' nL ((f v lv).map (mx_tq G)) → W p l e R s m args below meth c0 H locs cells slots Q (F0 m (pc + n) ls' rest)) → W p l e R s m args below meth c0 H locs cells slots Q (F0 m pc ls (mx_tr G v :: rest))) : mx_Snd bytes nL y pc i := by
  intro G SA p l e R s m args below meth c0 Q L0 S0 K c c' hpc _ _ _ _ hop hgo H locs ls h1 h2 hP hS hl
  obtain ⟨v, st, hty, hst, rfl⟩ := hi SA c c' hop
  rw [hpc, hst]
  refine row G v c.2.1 hty p l e R s m args below meth c0 Q H locs _ _ ls _ K.1 K.2.1 hl fun ls' hl' => ?_
  rw [← hpc]
  exact hgo H locs ls' h1 h2 hP hS hl'
theorem mx_sti_inv {a n : Nat} {c c' : mx_C} (h : mx_sti a n c = some c') : ∃ v st, mx_isI v ∧ c.2.2.1 = v :: st ∧ c' = (c.1 + n, mx_sto a v c.2.1, st, c.2.2.2) := by
  unfold mx_sti at h
  split at h
  · next x st hx => exact ⟨_, st, ⟨x, rfl⟩, hx, (Option.some.inj h).symm⟩
  · cases h
theorem mx_stl_inv {a n : Nat} {c c' : mx_C} (h : mx_stl a n c = some c') : ∃ v st, mx_isL v ∧ c.2.2.1 = v :: st ∧ c' = (c.1 + n, mx_sto2 a v c.2.1, st, c.2.2.2) := by
  unfold mx_stl at h
  split at h
  · next x st hx => exact ⟨_, st, ⟨x, rfl⟩, hx, (Option.some.inj h).symm⟩
  · cases h
theorem mx_sta_inv {a n : Nat} {c c' : mx_C} (h : mx_sta a n c = some c') : ∃ v st, mx_isA v ∧ c.2.2.1 = v :: st ∧ c' = (c.1 + n, mx_sto a v c.2.1, st, c.2.2.2) := by
  unfold mx_sta at h
  split at h
  · next x st hx => exact ⟨_, st, ⟨x, rfl⟩, hx, (Option.some.inj h).symm⟩
  · cases h
theorem ms_istore_n {a : Nat} {L : List Nat} {k : Fin 4} (hd : decode bytes pc = .ok (.istore_n k, 1)) (hk : (k : Nat) = a) (hn : a < nL) : mx_Snd bytes nL y pc (5, a, 1, L) :=
  ms_store mx_isI (fun v lv => mx_sto a v lv) (fun _ _ _ h => mx_sti_inv h) fun G v lv hv p l e R s m args below meth c0 Q H locs cells slots ls rest hx hb hl kk => by
    obtain ⟨x, rfl⟩ := hv
    exact lv_istore_n hx hb hd hk hl hn (mx_sto_tr G a (.int x) lv).symm kk
theorem ms_istore {a : Nat} {L : List Nat} (hd : decode bytes pc = .ok (.istore a, 2)) (hn : a < nL) : mx_Snd bytes nL y pc (5, a, 2, L) :=
  ms_store mx_isI (fun v lv => mx_sto a v lv) (fun _ _ _ h => mx_sti_inv h) fun G v lv hv p l e R s m args below meth c0 Q H locs cells slots ls rest hx hb hl kk => by
    obtain ⟨x, rfl⟩ := hv
    exact lv_istore hx hb hd hl hn (mx_sto_tr G a (.int x) lv).symm kk
theorem ms_lstore_n {a : Nat} {L : List Nat} {k : Fin 4} (hd : decode bytes pc = .ok (.lstore_n k, 1)) (hk : (k : Nat) = a) (hn : a + 1 < nL) : mx_Snd bytes nL y pc (6, a, 1, L) :=
  ms_store mx_isL (fun v lv => mx_sto2 a v lv) (fun _ _ _ h => mx_stl_inv h) fun G v lv hv p l e R s m args below meth c0 Q H locs cells slots ls rest hx hb hl kk => by
    obtain ⟨x, rfl⟩ := hv
    exact lv_lstore_n hx hb hd hk hl hn (mx_sto2_tr G a (.long x) lv).symm kk
theorem ms_lstore {a : Nat} {L : List Nat} (hd : decode bytes pc = .ok (.lstore a, 2)) (hn : a + 1 < nL) : mx_Snd bytes nL y pc (6, a, 2, L) :=
  ms_store mx_isL (fun v lv => mx_sto2 a v lv) (fun _ _ _ h => mx_stl_inv h) fun G v lv hv p l e R s m args below meth c0 Q H locs cells slots ls rest hx hb hl kk => by
    obtain ⟨x, rfl⟩ := hv
    exact lv_lstore hx hb hd hl hn (mx_sto2_tr G a (.long x) lv).symm kk
theorem ms_astore_n {a : Nat} {L : List Nat} {k : Fin 4} (hd : decode bytes pc = .ok (.astore_n k, 1)) (hk : (k : Nat) = a) (hn : a < nL) : mx_Snd bytes nL y pc (7, a, 1, L) :=
  ms_store mx_isA (fun v lv => mx_sto a v lv) (fun _ _ _ h => mx_sta_inv h) fun G v lv hv p l e R s m args below meth c0 Q H locs cells slots ls rest hx hb hl kk => by
    obtain ⟨x, rfl⟩ := hv
    exact lv_astore_n hx hb hd hk hl hn (mx_sto_tr G a (.ref x) lv).symm kk
theorem ms_iinc {a d : Nat} {L : List Nat} {n : Int} (hd : decode bytes pc = .ok (.iinc a n, 3)) (hv : Int32.ofInt n = Int32.ofNat d) (hn : a < nL) : mx_Snd bytes nL y pc (8, a, d, L) := by
  intro G SA p l e R s m args below meth c0 Q L0 S0 K c c' hpc _ _ _ _ hop hgo H locs ls h1 h2 hP hS hl
  have hop : mx_inc a d c = some c' := hop
  unfold mx_inc at hop
  split at hop
  · next x hx =>
    have h := Option.some.inj hop
    subst h
    rw [hpc]
    obtain ⟨k, hk⟩ := List.getElem?_of_mem (List.mem_map.mpr ⟨(a, Value.int x), mx_lk_mem hx, rfl⟩ : mx_tq G (a, Value.int x) ∈ c.2.1.map (mx_tq G))
    refine lv_iinc (v := x + Int32.ofNat d) K.1 K.2.1 hd hl hk (by rw [hv]) hn (mx_sto_tr G a (.int (x + Int32.ofNat d)) c.2.1).symm fun ls' hl' => ?_
    rw [← hpc]
    exact hgo H locs ls' h1 h2 hP hS hl'
  · cases hop
/-- arithmetic -/
theorem mx_ii_inv {f : Int32 → Int32 → Option Value} {c c' : mx_C} (h : mx_ii f c = some c') : ∃ x y v st, c.2.2.1 = .int y :: .int x :: st ∧ f x y = some v ∧ c' = (c.1 + 1, c.2.1, v :: st, c.2.2.2) := by
  unfold mx_ii at h
  split at h
  · next y x st hst =>
    split at h
    · next v hv => exact ⟨x, y, v, st, hst, hv, (Option.some.inj h).symm⟩
    · cases h
  · cases h
theorem mx_ll_inv {f : Int64 → Int64 → Option Value} {c c' : mx_C} (h : mx_ll f c = some c') : ∃ x y v st, c.2.2.1 = .long y :: .long x :: st ∧ f x y = some v ∧ c' = (c.1 + 1, c.2.1, v :: st, c.2.2.2) := by
  unfold mx_ll at h
  split at h
  · next y x st hst =>
    split at h
    · next v hv => exact ⟨x, y, v, st, hst, hv, (Option.some.inj h).symm⟩
    · cases h
  · cases h
theorem mx_li_inv {f : Int64 → Int32 → Value} {c c' : mx_C} (h : mx_li f c = some c') : ∃ x y st, c.2.2.1 = .int y :: .long x :: st ∧ c' = (c.1 + 1, c.2.1, f x y :: st, c.2.2.2) := by
  unfold mx_li at h
  split at h
  · next y x st hst => exact ⟨x, y, st, hst, (Option.some.inj h).symm⟩
  · cases h
theorem mx_i1_inv {f : Int32 → Value} {c c' : mx_C} (h : mx_i1 f c = some c') : ∃ x st, c.2.2.1 = .int x :: st ∧ c' = (c.1 + 1, c.2.1, f x :: st, c.2.2.2) := by
  unfold mx_i1 at h
  split at h
  · next x st hst => exact ⟨x, st, hst, (Option.some.inj h).symm⟩
  · cases h
theorem mx_l1_inv {f : Int64 → Value} {c c' : mx_C} (h : mx_l1 f c = some c') : ∃ x st, c.2.2.1 = .long x :: st ∧ c' = (c.1 + 1, c.2.1, f x :: st, c.2.2.2) := by
  unfold mx_l1 at h
  split at h
  · next x st hst => exact ⟨x, st, hst, (Option.some.inj h).symm⟩
  · cases h
theorem ms_ii {i : mx_I} {f : Int32 → Int32 → Option Value} (hi : ∀ (SA : mx_S) (c : mx_C), mx_op SA mx_SF mx_DF 14 i c = mx_ii f c) (hf : ∀ x y v, f x y = some v → ∀ G : mx_G, mx_tr G v = v) (row : ∀ x y v, f x y = some v → mx_Row bytes pc (pc + 1) [.int y, .int x] [v]) : mx_Snd bytes nL y pc i :=
  ms_plain fun SA c c' hop hpc => by
    rw [hi] at hop
    obtain ⟨x, y, v, st, e1, e2, rfl⟩ := mx_ii_inv hop
    refine ⟨[.int y, .int x], [v], st, e1, rfl, rfl, rfl, fun G => ?_⟩
    show mx_Row bytes pc (c.1 + 1) [.int y, .int x] [mx_tr G v]
    rw [hpc, hf x y v e2 G]
    exact row x y v e2
theorem ms_ll {i : mx_I} {f : Int64 → Int64 → Option Value} (hi : ∀ (SA : mx_S) (c : mx_C), mx_op SA mx_SF mx_DF 14 i c = mx_ll f c) (hf : ∀ x y v, f x y = some v → ∀ G : mx_G, mx_tr G v = v) (row : ∀ x y v, f x y = some v → mx_Row bytes pc (pc + 1) [.long y, .long x] [v]) : mx_Snd bytes nL y pc i :=
  ms_plain fun SA c c' hop hpc => by
    rw [hi] at hop
    obtain ⟨x, y, v, st, e1, e2, rfl⟩ := mx_ll_inv hop
    refine ⟨[.long y, .long x], [v], st, e1, rfl, rfl, rfl, fun G => ?_⟩
    show mx_Row bytes pc (c.1 + 1) [.long y, .long x] [mx_tr G v]
    rw [hpc, hf x y v e2 G]
    exact row x y v e2
theorem ms_li {i : mx_I} {f : Int64 → Int32 → Value} (hi : ∀ (SA : mx_S) (c : mx_C), mx_op SA mx_SF mx_DF 14 i c = mx_li f c) (hf : ∀ x y, ∀ G : mx_G, mx_tr G (f x y) = f x y) (row : ∀ x y, mx_Row bytes pc (pc + 1) [.int y, .long x] [f x y]) : mx_Snd bytes nL y pc i :=
  ms_plain fun SA c c' hop hpc => by
    rw [hi] at hop
    obtain ⟨x, y, st, e1, rfl⟩ := mx_li_inv hop
    refine ⟨[.int y, .long x], [f x y], st, e1, rfl, rfl, rfl, fun G => ?_⟩
    show mx_Row bytes pc (c.1 + 1) [.int y, .long x] [mx_tr G (f x y)]
    rw [hpc, hf x y G]
    exact row x y
theorem ms_i1 {i : mx_I} {f : Int32 → Value} (hi : ∀ (SA : mx_S) (c : mx_C), mx_op SA mx_SF mx_DF 14 i c = mx_i1 f c) (hf : ∀ x, ∀ G : mx_G, mx_tr G (f x) = f x) (row : ∀ x, mx_Row bytes pc (pc + 1) [.int x] [f x]) : mx_Snd bytes nL y pc i :=
  ms_plain fun SA c c' hop hpc => by
    rw [hi] at hop
    obtain ⟨x, st, e1, rfl⟩ := mx_i1_inv hop
    refine ⟨[.int x], [f x], st, e1, rfl, rfl, rfl, fun G => ?_⟩
    show mx_Row bytes pc (c.1 + 1) [.int x] [mx_tr G (f x)]
    rw [hpc, hf x G]
    exact row x
theorem ms_l1 {i : mx_I} {f : Int64 → Value} (hi : ∀ (SA : mx_S) (c : mx_C), mx_op SA mx_SF mx_DF 14 i c = mx_l1 f c) (hf : ∀ x, ∀ G : mx_G, mx_tr G (f x) = f x) (row : ∀ x, mx_Row bytes pc (pc + 1) [.long x] [f x]) : mx_Snd bytes nL y pc i :=
  ms_plain fun SA c c' hop hpc => by
    rw [hi] at hop
    obtain ⟨x, st, e1, rfl⟩ := mx_l1_inv hop
    refine ⟨[.long x], [f x], st, e1, rfl, rfl, rfl, fun G => ?_⟩
    show mx_Row bytes pc (c.1 + 1) [.long x] [mx_tr G (f x)]
    rw [hpc, hf x G]
    exact row x
end MSV
end
section
section MSW
variable {bytes : ByteArray} {nL : Nat} {y : MethodName} {pc a b : Nat} {L : List Nat}
theorem ms_iadd (hd : decode bytes pc = .ok (.iadd, 1)) : mx_Snd bytes nL y pc (9, a, b, L) :=
  ms_ii (f := fun x y => some (.int (x + y))) (fun _ _ => rfl) (fun _ _ _ h _ => by cases h; rfl) fun _ _ _ h _ _ _ _ _ _ _ _ _ _ _ _ _ _ _ _ _ hx hb k => by cases h; exact lv_iadd hx hb hd k
theorem ms_isub (hd : decode bytes pc = .ok (.isub, 1)) : mx_Snd bytes nL y pc (10, a, b, L) :=
  ms_ii (f := fun x y => some (.int (x - y))) (fun _ _ => rfl) (fun _ _ _ h _ => by cases h; rfl) fun _ _ _ h _ _ _ _ _ _ _ _ _ _ _ _ _ _ _ _ _ hx hb k => by cases h; exact lv_isub hx hb hd k
theorem ms_imul (hd : decode bytes pc = .ok (.imul, 1)) : mx_Snd bytes nL y pc (11, a, b, L) :=
  ms_ii (f := fun x y => some (.int (x * y))) (fun _ _ => rfl) (fun _ _ _ h _ => by cases h; rfl) fun _ _ _ h _ _ _ _ _ _ _ _ _ _ _ _ _ _ _ _ _ hx hb k => by cases h; exact lv_imul hx hb hd k
theorem ms_iand (hd : decode bytes pc = .ok (.iand, 1)) : mx_Snd bytes nL y pc (12, a, b, L) :=
  ms_ii (f := fun x y => some (.int (x &&& y))) (fun _ _ => rfl) (fun _ _ _ h _ => by cases h; rfl) fun _ _ _ h _ _ _ _ _ _ _ _ _ _ _ _ _ _ _ _ _ hx hb k => by cases h; exact lv_iand hx hb hd k
theorem ms_ior (hd : decode bytes pc = .ok (.ior, 1)) : mx_Snd bytes nL y pc (13, a, b, L) :=
  ms_ii (f := fun x y => some (.int (x ||| y))) (fun _ _ => rfl) (fun _ _ _ h _ => by cases h; rfl) fun _ _ _ h _ _ _ _ _ _ _ _ _ _ _ _ _ _ _ _ _ hx hb k => by cases h; exact lv_ior hx hb hd k
theorem mx_div_inv {x y : Int32} {v : Value} (h : mx_div x y = some v) : ¬ y = 0 ∧ v = .int (x / y) := by
  unfold mx_div at h
  split at h
  · cases h
  · next hy => exact ⟨hy, (Option.some.inj h).symm⟩
theorem mx_rem_inv {x y : Int32} {v : Value} (h : mx_rem x y = some v) : ¬ y = 0 ∧ v = .int (x - x / y * y) := by
  unfold mx_rem at h
  split at h
  · cases h
  · next hy => exact ⟨hy, (Option.some.inj h).symm⟩
theorem mx_ldiv_inv {x y : Int64} {v : Value} (h : mx_ldiv x y = some v) : ¬ y = 0 ∧ v = .long (x / y) := by
  unfold mx_ldiv at h
  split at h
  · cases h
  · next hy => exact ⟨hy, (Option.some.inj h).symm⟩
theorem ms_idiv (hd : decode bytes pc = .ok (.idiv, 1)) : mx_Snd bytes nL y pc (14, a, b, L) :=
  ms_ii (f := mx_div) (fun _ _ => rfl) (fun _ _ _ h _ => by obtain ⟨-, rfl⟩ := mx_div_inv h; rfl) fun _ _ _ h _ _ _ _ _ _ _ _ _ _ _ _ _ _ _ _ _ hx hb k => by obtain ⟨h1, rfl⟩ := mx_div_inv h; exact lv_idiv hx hb hd h1 k
theorem ms_irem (hd : decode bytes pc = .ok (.irem, 1)) : mx_Snd bytes nL y pc (15, a, b, L) :=
  ms_ii (f := mx_rem) (fun _ _ => rfl) (fun _ _ _ h _ => by obtain ⟨-, rfl⟩ := mx_rem_inv h; rfl) fun _ _ _ h _ _ _ _ _ _ _ _ _ _ _ _ _ _ _ _ _ hx hb k => by obtain ⟨h1, rfl⟩ := mx_rem_inv h; exact lv_irem hx hb hd h1 k
theorem ms_ineg (hd : decode bytes pc = .ok (.ineg, 1)) : mx_Snd bytes nL y pc (16, a, b, L) :=
  ms_i1 (f := fun x => .int (-x)) (fun _ _ => rfl) (fun _ _ => rfl) fun _ _ _ _ _ _ _ _ _ _ _ _ _ _ _ _ _ _ hx hb k => lv_ineg hx hb hd k
theorem ms_ishl (hd : decode bytes pc = .ok (.ishl, 1)) : mx_Snd bytes nL y pc (17, a, b, L) :=
  ms_ii (f := fun x y => some (.int (x <<< (y &&& 31)))) (fun _ _ => rfl) (fun _ _ _ h _ => by cases h; rfl) fun _ _ _ h _ _ _ _ _ _ _ _ _ _ _ _ _ _ _ _ _ hx hb k => by cases h; exact lv_ishl hx hb hd k
theorem ms_ishr (hd : decode bytes pc = .ok (.ishr, 1)) : mx_Snd bytes nL y pc (18, a, b, L) :=
  ms_ii (f := fun x y => some (.int (x >>> (y &&& 31)))) (fun _ _ => rfl) (fun _ _ _ h _ => by cases h; rfl) fun _ _ _ h _ _ _ _ _ _ _ _ _ _ _ _ _ _ _ _ _ hx hb k => by cases h; exact lv_ishr hx hb hd k
theorem ms_ladd (hd : decode bytes pc = .ok (.ladd, 1)) : mx_Snd bytes nL y pc (19, a, b, L) :=
  ms_ll (f := fun x y => some (.long (x + y))) (fun _ _ => rfl) (fun _ _ _ h _ => by cases h; rfl) fun _ _ _ h _ _ _ _ _ _ _ _ _ _ _ _ _ _ _ _ _ hx hb k => by cases h; exact lv_ladd hx hb hd k
theorem ms_lsub (hd : decode bytes pc = .ok (.lsub, 1)) : mx_Snd bytes nL y pc (20, a, b, L) :=
  ms_ll (f := fun x y => some (.long (x - y))) (fun _ _ => rfl) (fun _ _ _ h _ => by cases h; rfl) fun _ _ _ h _ _ _ _ _ _ _ _ _ _ _ _ _ _ _ _ _ hx hb k => by cases h; exact lv_lsub hx hb hd k
theorem ms_lmul (hd : decode bytes pc = .ok (.lmul, 1)) : mx_Snd bytes nL y pc (21, a, b, L) :=
  ms_ll (f := fun x y => some (.long (x * y))) (fun _ _ => rfl) (fun _ _ _ h _ => by cases h; rfl) fun _ _ _ h _ _ _ _ _ _ _ _ _ _ _ _ _ _ _ _ _ hx hb k => by cases h; exact lv_lmul hx hb hd k
theorem ms_ldiv (hd : decode bytes pc = .ok (.ldiv, 1)) : mx_Snd bytes nL y pc (22, a, b, L) :=
  ms_ll (f := mx_ldiv) (fun _ _ => rfl) (fun _ _ _ h _ => by obtain ⟨-, rfl⟩ := mx_ldiv_inv h; rfl) fun _ _ _ h _ _ _ _ _ _ _ _ _ _ _ _ _ _ _ _ _ hx hb k => by obtain ⟨h1, rfl⟩ := mx_ldiv_inv h; exact lv_ldiv hx hb hd h1 k
theorem ms_land (hd : decode bytes pc = .ok (.land, 1)) : mx_Snd bytes nL y pc (23, a, b, L) :=
  ms_ll (f := fun x y => some (.long (x &&& y))) (fun _ _ => rfl) (fun _ _ _ h _ => by cases h; rfl) fun _ _ _ h _ _ _ _ _ _ _ _ _ _ _ _ _ _ _ _ _ hx hb k => by cases h; exact lv_land hx hb hd k
theorem ms_lor (hd : decode bytes pc = .ok (.lor, 1)) : mx_Snd bytes nL y pc (24, a, b, L) :=
  ms_ll (f := fun x y => some (.long (x ||| y))) (fun _ _ => rfl) (fun _ _ _ h _ => by cases h; rfl) fun _ _ _ h _ _ _ _ _ _ _ _ _ _ _ _ _ _ _ _ _ hx hb k => by cases h; exact lv_lor hx hb hd k
theorem ms_lshl (hd : decode bytes pc = .ok (.lshl, 1)) : mx_Snd bytes nL y pc (25, a, b, L) :=
  ms_li (f := fun x y => .long (x <<< (y.toInt64 &&& 63))) (fun _ _ => rfl) (fun _ _ _ => rfl) fun _ _ _ _ _ _ _ _ _ _ _ _ _ _ _ _ _ _ _ hx hb k => lv_lshl hx hb hd rfl k
theorem ms_lshr (hd : decode bytes pc = .ok (.lshr, 1)) : mx_Snd bytes nL y pc (26, a, b, L) :=
  ms_li (f := fun x y => .long (x >>> (y.toInt64 &&& 63))) (fun _ _ => rfl) (fun _ _ _ => rfl) fun _ _ _ _ _ _ _ _ _ _ _ _ _ _ _ _ _ _ _ hx hb k => lv_lshr hx hb hd rfl k
theorem ms_lcmp (hd : decode bytes pc = .ok (.lcmp, 1)) : mx_Snd bytes nL y pc (27, a, b, L) :=
  ms_ll (f := fun x y => some (.int (lg_cmp x y))) (fun _ _ => rfl) (fun _ _ _ h _ => by cases h; rfl) fun _ _ _ h _ _ _ _ _ _ _ _ _ _ _ _ _ _ _ _ _ hx hb k => by cases h; exact W.lcmp hx hb hd k
theorem ms_i2l (hd : decode bytes pc = .ok (.i2l, 1)) : mx_Snd bytes nL y pc (28, a, b, L) :=
  ms_i1 (f := fun x => .long x.toInt64) (fun _ _ => rfl) (fun _ _ => rfl) fun _ _ _ _ _ _ _ _ _ _ _ _ _ _ _ _ _ _ hx hb k => lv_i2l hx hb hd rfl k
theorem ms_l2i (hd : decode bytes pc = .ok (.l2i, 1)) : mx_Snd bytes nL y pc (29, a, b, L) :=
  ms_l1 (f := fun x => .int x.toInt32) (fun _ _ => rfl) (fun _ _ => rfl) fun _ _ _ _ _ _ _ _ _ _ _ _ _ _ _ _ _ _ hx hb k => lv_l2i hx hb hd rfl k
theorem ms_i2b (hd : decode bytes pc = .ok (.i2b, 1)) : mx_Snd bytes nL y pc (30, a, b, L) :=
  ms_i1 (f := fun x => .int x.toInt8.toInt32) (fun _ _ => rfl) (fun _ _ => rfl) fun _ _ _ _ _ _ _ _ _ _ _ _ _ _ _ _ _ _ hx hb k => lv_i2b hx hb hd rfl k
theorem ms_i2s (hd : decode bytes pc = .ok (.i2s, 1)) : mx_Snd bytes nL y pc (31, a, b, L) :=
  ms_i1 (f := fun x => .int x.toInt16.toInt32) (fun _ _ => rfl) (fun _ _ => rfl) fun _ _ _ _ _ _ _ _ _ _ _ _ _ _ _ _ _ _ hx hb k => lv_i2s hx hb hd rfl k
theorem ms_i2c (hd : decode bytes pc = .ok (.i2c, 1)) : mx_Snd bytes nL y pc (32, a, b, L) :=
  ms_i1 (f := fun x => .int (x.toUInt32 % 65536).toInt32) (fun _ _ => rfl) (fun _ _ => rfl) fun _ _ _ _ _ _ _ _ _ _ _ _ _ _ _ _ _ _ hx hb k => lv_i2c hx hb hd rfl k
theorem ms_dup (hd : decode bytes pc = .ok (.dup, 1)) : mx_Snd bytes nL y pc (33, a, b, L) :=
  ms_plain fun SA c c' hop hpc => by
    have hop : mx_dup c = some c' := hop
    unfold mx_dup at hop
    split at hop
    · next v st hst =>
      cases h2 : mx_is2 v with
      | true => rw [h2] at hop; cases hop
      | false =>
        rw [h2] at hop
        have h := Option.some.inj hop
        subst h
        refine ⟨[v], [v, v], st, hst, rfl, rfl, rfl, fun G => ?_⟩
        subst hpc
        intro p l e R s m args below meth c0 Q H locs cells slots ls rest hx hb k
        exact lv_dup hx hb hd (by rw [mx_tr_cat]; exact mx_is2_cat h2) k
    · cases hop
theorem ms_pop (hd : decode bytes pc = .ok (.pop, 1)) : mx_Snd bytes nL y pc (34, a, b, L) :=
  ms_plain fun SA c c' hop hpc => by
    have hop : mx_pop c = some c' := hop
    unfold mx_pop at hop
    split at hop
    · next v st hst =>
      cases h2 : mx_is2 v with
      | true => rw [h2] at hop; cases hop
      | false =>
        rw [h2] at hop
        have h := Option.some.inj hop
        subst h
        refine ⟨[v], [], st, hst, rfl, rfl, rfl, fun G => ?_⟩
        subst hpc
        intro p l e R s m args below meth c0 Q H locs cells slots ls rest hx hb k
        exact lv_pop hx hb hd (by rw [mx_tr_cat]; exact mx_is2_cat h2) k
    · cases hop
theorem ms_dup2 (hd : decode bytes pc = .ok (.dup2, 1)) : mx_Snd bytes nL y pc (35, a, b, L) :=
  ms_plain fun SA c c' hop hpc => by
    have hop : mx_dup2 c = some c' := hop
    unfold mx_dup2 at hop
    split at hop
    · next v w st hst =>
      cases h2 : mx_is2 v with
      | true => rw [h2] at hop; cases hop
      | false =>
        cases h3 : mx_is2 w with
        | true => rw [h2, h3] at hop; cases hop
        | false =>
          rw [h2, h3] at hop
          have h := Option.some.inj hop
          subst h
          refine ⟨[v, w], [v, w, v, w], st, hst, rfl, rfl, rfl, fun G => ?_⟩
          subst hpc
          intro p l e R s m args below meth c0 Q H locs cells slots ls rest hx hb k
          exact lv_dup2_11 hx hb hd (by rw [mx_tr_cat]; exact mx_is2_cat h2) (by rw [mx_tr_cat]; exact mx_is2_cat h3) k
    · cases hop
/-- branches -/
theorem ms_if {i : mx_I} {f : Int32 → Bool} {t : Nat} (hi : ∀ (SA : mx_S) (c : mx_C), mx_op SA mx_SF mx_DF 14 i c = mx_if f t c) (row : ∀ x, mx_Row bytes pc (bif f x then t else pc + 3) [.int x] []) : mx_Snd bytes nL y pc i :=
  ms_plain fun SA c c' hop hpc => by
    rw [hi] at hop
    unfold mx_if at hop
    split at hop
    · next x st hst =>
      have h := Option.some.inj hop
      subst h
      subst hpc
      exact ⟨[.int x], [], st, hst, rfl, rfl, rfl, fun G => row x⟩
    · cases hop
theorem ms_if2 {i : mx_I} {f : Int32 → Int32 → Bool} {t : Nat} (hi : ∀ (SA : mx_S) (c : mx_C), mx_op SA mx_SF mx_DF 14 i c = mx_if2 f t c) (row : ∀ x z, mx_Row bytes pc (bif f x z then t else pc + 3) [.int z, .int x] []) : mx_Snd bytes nL y pc i :=
  ms_plain fun SA c c' hop hpc => by
    rw [hi] at hop
    unfold mx_if2 at hop
    split at hop
    · next z x st hst =>
      have h := Option.some.inj hop
      subst h
      subst hpc
      exact ⟨[.int z, .int x], [], st, hst, rfl, rfl, rfl, fun G => row x z⟩
    · cases hop
theorem mx_sel {t u : Nat} {P : Nat → Prop} {c : Bool} (k : P (bif c then t else u)) : (c = true → P t) ∧ (c = false → P u) := by
  cases c
  · exact ⟨fun h => (by cases h), fun _ => k⟩
  · exact ⟨fun _ => k, fun h => (by cases h)⟩
theorem ms_if_eq {off : Int} (hd : decode bytes pc = .ok (.ifCond .eq off, 3)) (ht : (pc : Int) + off = (a : Int)) : mx_Snd bytes nL y pc (36, a, b, L) :=
  ms_if (f := fun x => decide (x = 0)) (fun _ _ => rfl) fun x p l e R s m args below meth c0 Q H locs cells slots ls rest hx hb k => by
    have k2 := mx_sel (P := fun n => W p l e R s m args below meth c0 H locs cells slots Q (F0 m n ls rest)) (c := decide (x = 0)) (t := a) (u := pc + 3) k
    exact lv_if_eq hx hb hd ht (fun h => k2.1 (decide_eq_true h)) (fun h => k2.2 (decide_eq_false h))
theorem ms_if_ne {off : Int} (hd : decode bytes pc = .ok (.ifCond .ne off, 3)) (ht : (pc : Int) + off = (a : Int)) : mx_Snd bytes nL y pc (37, a, b, L) :=
  ms_if (f := fun x => !decide (x = 0)) (fun _ _ => rfl) fun x p l e R s m args below meth c0 Q H locs cells slots ls rest hx hb k => by
    have k2 := mx_sel (P := fun n => W p l e R s m args below meth c0 H locs cells slots Q (F0 m n ls rest)) (c := !decide (x = 0)) (t := a) (u := pc + 3) k
    exact lv_if_ne hx hb hd ht (fun h => k2.1 (by simp [h])) (fun h => k2.2 (by simpa using h))
theorem ms_if_lt {off : Int} (hd : decode bytes pc = .ok (.ifCond .lt off, 3)) (ht : (pc : Int) + off = (a : Int)) : mx_Snd bytes nL y pc (38, a, b, L) :=
  ms_if (f := fun x => decide (x < 0)) (fun _ _ => rfl) fun x p l e R s m args below meth c0 Q H locs cells slots ls rest hx hb k => by
    have k2 := mx_sel (P := fun n => W p l e R s m args below meth c0 H locs cells slots Q (F0 m n ls rest)) (c := decide (x < 0)) (t := a) (u := pc + 3) k
    exact lv_if_lt hx hb hd ht (fun h => k2.1 (decide_eq_true h)) (fun h => k2.2 (decide_eq_false h))
theorem ms_if_ge {off : Int} (hd : decode bytes pc = .ok (.ifCond .ge off, 3)) (ht : (pc : Int) + off = (a : Int)) : mx_Snd bytes nL y pc (39, a, b, L) :=
  ms_if (f := fun x => decide (0 ≤ x)) (fun _ _ => rfl) fun x p l e R s m args below meth c0 Q H locs cells slots ls rest hx hb k => by
    have k2 := mx_sel (P := fun n => W p l e R s m args below meth c0 H locs cells slots Q (F0 m n ls rest)) (c := decide (0 ≤ x)) (t := a) (u := pc + 3) k
    exact lv_if_ge hx hb hd ht (fun h => k2.1 (decide_eq_true h)) (fun h => k2.2 (decide_eq_false h))
theorem ms_if_gt {off : Int} (hd : decode bytes pc = .ok (.ifCond .gt off, 3)) (ht : (pc : Int) + off = (a : Int)) : mx_Snd bytes nL y pc (40, a, b, L) :=
  ms_if (f := fun x => decide (0 < x)) (fun _ _ => rfl) fun x p l e R s m args below meth c0 Q H locs cells slots ls rest hx hb k => by
    have k2 := mx_sel (P := fun n => W p l e R s m args below meth c0 H locs cells slots Q (F0 m n ls rest)) (c := decide (0 < x)) (t := a) (u := pc + 3) k
    exact lv_if_gt hx hb hd ht (fun h => k2.1 (decide_eq_true h)) (fun h => k2.2 (decide_eq_false h))
theorem ms_if_le {off : Int} (hd : decode bytes pc = .ok (.ifCond .le off, 3)) (ht : (pc : Int) + off = (a : Int)) : mx_Snd bytes nL y pc (41, a, b, L) :=
  ms_if (f := fun x => decide (x ≤ 0)) (fun _ _ => rfl) fun x p l e R s m args below meth c0 Q H locs cells slots ls rest hx hb k => by
    have k2 := mx_sel (P := fun n => W p l e R s m args below meth c0 H locs cells slots Q (F0 m n ls rest)) (c := decide (x ≤ 0)) (t := a) (u := pc + 3) k
    exact lv_if_le hx hb hd ht (fun h => k2.1 (decide_eq_true h)) (fun h => k2.2 (decide_eq_false h))
theorem ms_icmp_eq {off : Int} (hd : decode bytes pc = .ok (.if_icmp .eq off, 3)) (ht : (pc : Int) + off = (a : Int)) : mx_Snd bytes nL y pc (42, a, b, L) :=
  ms_if2 (f := fun x z => decide (x = z)) (fun _ _ => rfl) fun x z p l e R s m args below meth c0 Q H locs cells slots ls rest hx hb k => by
    have k2 := mx_sel (P := fun n => W p l e R s m args below meth c0 H locs cells slots Q (F0 m n ls rest)) (c := decide (x = z)) (t := a) (u := pc + 3) k
    exact lv_icmp_eq hx hb hd ht (fun h => k2.1 (decide_eq_true h)) (fun h => k2.2 (decide_eq_false h))
theorem ms_icmp_ne {off : Int} (hd : decode bytes pc = .ok (.if_icmp .ne off, 3)) (ht : (pc : Int) + off = (a : Int)) : mx_Snd bytes nL y pc (43, a, b, L) :=
  ms_if2 (f := fun x z => !decide (x = z)) (fun _ _ => rfl) fun x z p l e R s m args below meth c0 Q H locs cells slots ls rest hx hb k => by
    have k2 := mx_sel (P := fun n => W p l e R s m args below meth c0 H locs cells slots Q (F0 m n ls rest)) (c := !decide (x = z)) (t := a) (u := pc + 3) k
    exact lv_icmp_ne hx hb hd ht (fun h => k2.1 (by simp [h])) (fun h => k2.2 (by simpa using h))
theorem ms_icmp_lt {off : Int} (hd : decode bytes pc = .ok (.if_icmp .lt off, 3)) (ht : (pc : Int) + off = (a : Int)) : mx_Snd bytes nL y pc (44, a, b, L) :=
  ms_if2 (f := fun x z => decide (x < z)) (fun _ _ => rfl) fun x z p l e R s m args below meth c0 Q H locs cells slots ls rest hx hb k => by
    have k2 := mx_sel (P := fun n => W p l e R s m args below meth c0 H locs cells slots Q (F0 m n ls rest)) (c := decide (x < z)) (t := a) (u := pc + 3) k
    exact lv_icmp_lt hx hb hd ht (fun h => k2.1 (decide_eq_true h)) (fun h => k2.2 (decide_eq_false h))
theorem ms_icmp_ge {off : Int} (hd : decode bytes pc = .ok (.if_icmp .ge off, 3)) (ht : (pc : Int) + off = (a : Int)) : mx_Snd bytes nL y pc (45, a, b, L) :=
  ms_if2 (f := fun x z => decide (z ≤ x)) (fun _ _ => rfl) fun x z p l e R s m args below meth c0 Q H locs cells slots ls rest hx hb k => by
    have k2 := mx_sel (P := fun n => W p l e R s m args below meth c0 H locs cells slots Q (F0 m n ls rest)) (c := decide (z ≤ x)) (t := a) (u := pc + 3) k
    exact lv_icmp_ge hx hb hd ht (fun h => k2.1 (decide_eq_true h)) (fun h => k2.2 (decide_eq_false h))
theorem ms_icmp_gt {off : Int} (hd : decode bytes pc = .ok (.if_icmp .gt off, 3)) (ht : (pc : Int) + off = (a : Int)) : mx_Snd bytes nL y pc (46, a, b, L) :=
  ms_if2 (f := fun x z => decide (z < x)) (fun _ _ => rfl) fun x z p l e R s m args below meth c0 Q H locs cells slots ls rest hx hb k => by
    have k2 := mx_sel (P := fun n => W p l e R s m args below meth c0 H locs cells slots Q (F0 m n ls rest)) (c := decide (z < x)) (t := a) (u := pc + 3) k
    exact lv_icmp_gt hx hb hd ht (fun h => k2.1 (decide_eq_true h)) (fun h => k2.2 (decide_eq_false h))
theorem ms_icmp_le {off : Int} (hd : decode bytes pc = .ok (.if_icmp .le off, 3)) (ht : (pc : Int) + off = (a : Int)) : mx_Snd bytes nL y pc (47, a, b, L) :=
  ms_if2 (f := fun x z => decide (x ≤ z)) (fun _ _ => rfl) fun x z p l e R s m args below meth c0 Q H locs cells slots ls rest hx hb k => by
    have k2 := mx_sel (P := fun n => W p l e R s m args below meth c0 H locs cells slots Q (F0 m n ls rest)) (c := decide (x ≤ z)) (t := a) (u := pc + 3) k
    exact lv_icmp_le hx hb hd ht (fun h => k2.1 (decide_eq_true h)) (fun h => k2.2 (decide_eq_false h))
theorem ms_goto {off : Int} (hd : decode bytes pc = .ok (.goto off, 3)) (ht : (pc : Int) + off = (a : Int)) : mx_Snd bytes nL y pc (48, a, b, L) :=
  ms_plain fun SA c c' hop hpc => by
    have h := Option.some.inj (show some (a, c.2.1, c.2.2.1, c.2.2.2) = some c' from hop)
    subst h
    refine ⟨[], [], c.2.2.1, rfl, rfl, rfl, rfl, fun G => ?_⟩
    intro p l e R s m args below meth c0 Q H locs cells slots ls rest hx hb k
    exact lv_goto hx hb hd ht k
theorem ms_sw {i : mx_I} {f : Int32 → Nat} (hi : ∀ (SA : mx_S) (c : mx_C), mx_op SA mx_SF mx_DF 14 i c = mx_sw f c) (row : ∀ x, mx_Row bytes pc (f x) [.int x] []) : mx_Snd bytes nL y pc i :=
  ms_plain fun SA c c' hop hpc => by
    rw [hi] at hop
    unfold mx_sw at hop
    split at hop
    · next x st hst =>
      have h := Option.some.inj hop
      subst h
      subst hpc
      exact ⟨[.int x], [], st, hst, rfl, rfl, rfl, fun G => row x⟩
    · cases hop
/-- the targets of a table switch are the offsets' -/
def mx_offs (pc : Nat) : List Int → List Nat → Bool
  | [], [] => true
  | o :: os, t :: ts => decide ((pc : Int) + o = (t : Int)) && mx_offs pc os ts
  | _, _ => false
theorem mx_offs_at {pc : Nat} : ∀ {os : List Int} {ts : List Nat}, mx_offs pc os ts = true → ∀ {k t : Nat}, mx_nth ts k = some t → ∃ o, os[k]? = some o ∧ (pc : Int) + o = (t : Int)
  | [], [], _, k, t, h => by simp [mx_nth] at h
  | [], _ :: _, h, _, _, _ => by simp [mx_offs] at h
  | _ :: _, [], h, _, _, _ => by simp [mx_offs] at h
  | o :: os, u :: ts, h, k, t, hk => by
    simp only [mx_offs, Bool.and_eq_true, decide_eq_true_eq] at h
    cases k with
    | zero =>
      have hk : some u = some t := hk
      cases hk
      exact ⟨o, rfl, h.1⟩
    | succ k =>
      have hk : mx_nth ts k = some t := hk
      obtain ⟨o', h1, h2⟩ := mx_offs_at h.2 hk
      exact ⟨o', by simpa using h1, h2⟩
theorem mx_offs_len {pc : Nat} : ∀ {os : List Int} {ts : List Nat}, mx_offs pc os ts = true → os.length = ts.length
  | [], [], _ => rfl
  | [], _ :: _, h => by simp [mx_offs] at h
  | _ :: _, [], h => by simp [mx_offs] at h
  | o :: os, u :: ts, h => by
    simp only [mx_offs, Bool.and_eq_true, decide_eq_true_eq] at h
    simp [mx_offs_len h.2]
theorem mx_nth_none {α : Type} {l : List α} {n : Nat} (h : mx_nth l n = none) : l.length ≤ n := by
  rw [mx_nth_eq] at h
  simpa using h
theorem ms_tsw {dflt lo hi : Int} {offs : Array Int} {len : Nat} (hd : decode bytes pc = .ok (.tableswitch dflt lo hi offs, len)) (h1 : (pc : Int) + dflt = (a : Int)) (h2 : (Int32.ofNat b).toInt = lo) (h3 : mx_offs pc offs.toList L = true) (h4 : hi = lo + (L.length : Int) - 1) : mx_Snd bytes nL y pc (49, a, b, L) :=
  ms_sw (f := fun x => mx_tsw a (Int32.ofNat b).toInt L x.toInt) (fun _ _ => rfl) fun x p l e R s m args below meth c0 Q H locs cells slots ls rest hx hb k => by
    have k : W p l e R s m args below meth c0 H locs cells slots Q (F0 m (mx_tsw a (Int32.ofNat b).toInt L x.toInt) ls rest) := k
    rw [h2] at k
    unfold mx_tsw at k
    split at k
    · next n hn =>
      have hn : x.toInt - lo = (n : Int) := hn
      split at k
      · next t ht =>
        obtain ⟨o, e1, e2⟩ := mx_offs_at h3 ht
        have hlt : n < L.length := by
          rcases Nat.lt_or_ge n L.length with q | q
          · exact q
          · rw [mx_nth_eq, List.getElem?_eq_none q] at ht
            cases ht
        refine lv_tableIn (off := o) hx hb hd (by omega) (by omega) ?_ e2 k
        rw [hn]
        rw [← Array.getElem?_toList]
        exact e1
      · next ht =>
        have hge := mx_nth_none ht
        exact lv_tableOut hx hb hd (Or.inr (by omega)) h1 k
    · next n hn =>
      have hn : x.toInt - lo = Int.negSucc n := hn
      exact lv_tableOut hx hb hd (Or.inl (by omega)) h1 k
/-- a lookup switch: keys, offsets and targets -/
def mx_lks (pc : Nat) : List (Int × Int) → List Nat → Bool
  | [], [] => true
  | p :: ps, k :: t :: r => decide ((Int32.ofNat k).toInt = p.1) && (decide ((pc : Int) + p.2 = (t : Int)) && mx_lks pc ps r)
  | _, _ => false
theorem mx_lks_at {pc d : Nat} {dflt : Int} (hd : (pc : Int) + dflt = (d : Int)) (x : Int32) : ∀ {ps : List (Int × Int)} {ts : List Nat}, mx_lks pc ps ts = true → (pc : Int) + Op.lookupswitch.offset ps dflt x.toInt = (mx_lsw d x ts : Int)
  | [], [], _ => hd
  | [], _ :: _, h => by simp [mx_lks] at h
  | _ :: _, [], h => by simp [mx_lks] at h
  | _ :: _, [_], h => by simp [mx_lks] at h
  | p :: ps, k :: t :: r, h => by
    simp only [mx_lks, Bool.and_eq_true, decide_eq_true_eq] at h
    obtain ⟨q1, q2⟩ := p
    unfold mx_lsw
    by_cases hx : x = Int32.ofNat k
    · subst hx
      have e : Op.lookupswitch.offset ((q1, q2) :: ps) dflt (Int32.ofNat k).toInt = q2 := by
        rw [h.1]
        simp [Op.lookupswitch.offset]
      rw [e]
      simpa using h.2.1
    · have e := lv_osw (a := q1) (o := q2) (d := dflt) (r := ps) hx h.1
      rw [e]
      have hb : (x == Int32.ofNat k) = false := by simpa using hx
      rw [hb]
      exact mx_lks_at hd x h.2.2
theorem ms_lsw {dflt : Int} {ps : Array (Int × Int)} {len : Nat} (hd : decode bytes pc = .ok (.lookupswitch dflt ps, len)) (h1 : (pc : Int) + dflt = (a : Int)) (h2 : mx_lks pc ps.toList L = true) (h3 : (ps.toList.zip (ps.toList.drop 1)).all (fun (a, next) => a.1 < next.1) = true) : mx_Snd bytes nL y pc (50, a, b, L) :=
  ms_sw (f := fun x => mx_lsw a x L) (fun _ _ => rfl) fun x p l e R s m args below meth c0 Q H locs cells slots ls rest hx hb k =>
    lv_lookup hx hb hd h3 rfl (mx_lks_at h1 x h2) k
end MSW
end
section
section MSM
variable {bytes : ByteArray} {nL : Nat} {y : MethodName} {pc a b : Nat} {L : List Nat}
/-- what is known of a class -/
def mx_Cls (ci : Nat) (C : String) (T : u_T) (N : Nat) (ty : Nat → FieldType) : Prop :=
  vwCl[ci]? = some (C, T, N) ∧ (∀ w ∈ u_ws C T N, w ∈ mx_GT) ∧ (∀ k, k < N → parseFieldDescriptor (T k).2.2.1 = some (ty k)) ∧ ∀ a, a < N → ∀ b, b < N → a ≠ b → (T a).2.1 ≠ (T b).2.1
/-- how a class names a field: by a link of its own, or of its nest -/
def mx_fl (own : String) (idx : Nat) (q : String × String × String × Bool) (w : Nat) (host : Option String) : Prop := match host with
  | none => lw_tbl[w]? = some (.fieldLink own idx q.1 q.2.1 q.2.2.1)
  | some h => lw_tbl[w]? = some (.fieldLinkNest own idx q.1 q.2.1 q.2.2.1 h)
theorem mx_fl_nest {own : String} {idx : Nat} {q : String × String × String × Bool} {w : Nat} {h : String} (hl : mx_fl own idx q w (some h)) : Cond.fieldLinkNest own idx q.1 q.2.1 q.2.2.1 h ∈ mx_NT :=
  List.mem_filter.mpr ⟨List.mem_of_getElem? hl, rfl⟩
theorem mx_get_inv {ci k : Nat} {c c' : mx_C} (h : mx_get ci k c = some c') : ∃ q st fs v, c.2.2.1 = .ref q :: st ∧ c.2.2.2[q]? = some (.inl (ci, fs)) ∧ fs[k]? = some v ∧ c' = (c.1 + 3, c.2.1, v :: st, c.2.2.2) := by
  unfold mx_get at h
  split at h
  · next q st hst =>
    split at h
    · next cj fs hq =>
      cases hb : Nat.beq cj ci with
      | false => rw [hb] at h; cases h
      | true =>
        rw [hb] at h
        have := Nat.eq_of_beq_eq_true hb
        subst this
        simp only [cond_true] at h
        split at h
        · next v hv => exact ⟨q, st, fs, v, hst, by rw [← mx_nth_eq]; exact hq, by rw [← mx_nth_eq]; exact hv, (Option.some.inj h).symm⟩
        · cases h
    · cases h
  · cases h
theorem mx_len_lt {α : Type} {l : List α} {k : Nat} {x : α} (h : l[k]? = some x) : k < l.length := (List.getElem?_eq_some_iff.mp h).1
theorem ms_get {C : String} {T : u_T} {N : Nat} {ty : Nat → FieldType} {idx w : Nat} {host : Option String} (hC : mx_Cls a C T N ty) (hb' : b < N) (hl : mx_fl y.cls idx (T b) w host) (hd : decode bytes pc = .ok (.getfield idx, 3)) : mx_Snd bytes nL y pc (51, a, b, L) := by
  intro G SA p l e R s m args below meth c0 Q L0 S0 K c c' hpc _ _ _ _ hop hgo H locs ls h1 h2 hP hS hv
  obtain ⟨q, st, fs, v, e1, e2, e3, rfl⟩ := mx_get_inv hop
  obtain ⟨hx, hb, hml, hown, hts, -, hE, -, -, -⟩ := K
  have hq : q < 1000 := Nat.lt_of_lt_of_le (mx_len_lt e2) h1
  rw [hpc, e1, List.map_cons]
  show W p l e R s m args below meth c0 H locs _ _ Q (F0 m pc ls (.ref (mx_ad G q) :: _))
  rw [mx_ad_lt hq]
  have g := hgo H locs ls h1 h2 hP hS hv
  rw [hpc] at g
  cases host with
  | none =>
    exact va_get (own := y.cls) (ref := (T b).1) (index := idx) hx hb hts hC.2.1 hown hE.1 hP q (mx_W_get e2) hC.1 b hb' (hts _ (mx_gt w hl rfl)) (fun _ h => h) (v := mx_tr G v) (by rw [List.getElem?_map, e3]; rfl) hd g
  | some h =>
    exact va_getN (own := y.cls) (ref := (T b).1) (index := idx) (host := h) hx hb hts hC.2.1 hown hE.1 hP q (mx_W_get e2) hC.1 b hb' (va_Nw.use rfl (hE.2.1 _ (mx_fl_nest hl))) (fun _ h => h) (v := mx_tr G v) (by rw [List.getElem?_map, e3]; rfl) hd g
theorem mx_put_inv {ci k : Nat} {c c' : mx_C} (h : mx_put ci k c = some c') : ∃ q st fs v, c.2.2.1 = .int v :: .ref q :: st ∧ c.2.2.2[q]? = some (.inl (ci, fs)) ∧ k < fs.length ∧ c' = (c.1 + 3, c.2.1, st, c.2.2.2.set q (.inl (ci, fs.set k (.int v)))) := by
  unfold mx_put at h
  split at h
  · next v q st hst =>
    split at h
    · next cj fs hq =>
      cases hb : Nat.beq cj ci && Nat.blt k fs.length with
      | false => rw [hb] at h; cases h
      | true =>
        rw [hb] at h
        simp only [Bool.and_eq_true] at hb
        have := Nat.eq_of_beq_eq_true hb.1
        subst this
        exact ⟨q, st, fs, v, hst, by rw [← mx_nth_eq]; exact hq, Nat.le_of_ble_eq_true hb.2, (Option.some.inj h).symm⟩
    · cases h
  · cases h
theorem mx_putF_inv {ci k : Nat} {c c' : mx_C} (h : mx_putF ci k c = some c') : ∃ q st fs v, c.2.2.1 = .ref v :: .ref q :: st ∧ c.2.2.2[q]? = some (.inl (ci, fs)) ∧ k < fs.length ∧ c' = (c.1 + 3, c.2.1, st, c.2.2.2.set q (.inl (ci, fs.set k (.ref v)))) := by
  unfold mx_putF at h
  split at h
  · next v q st hst =>
    split at h
    · next cj fs hq =>
      cases hb : Nat.beq cj ci && Nat.blt k fs.length with
      | false => rw [hb] at h; cases h
      | true =>
        rw [hb] at h
        simp only [Bool.and_eq_true] at hb
        have := Nat.eq_of_beq_eq_true hb.1
        subst this
        exact ⟨q, st, fs, v, hst, by rw [← mx_nth_eq]; exact hq, Nat.le_of_ble_eq_true hb.2, (Option.some.inj h).symm⟩
    · cases h
  · cases h
/-- a cell changed -/
theorem mx_P_set {G : mx_G} {M : mx_M} {q : Nat} {e0 e : mx_E} {H H1 : Heap} (hP : va_P G.2.2.2 vwCl (mx_W G M) H) (h0 : M[q]? = some e0) (he : va_at G.2.2.2 vwCl (G.1 + q, mx_tE G e) H1) (oq : ∀ x : Nat, x ≠ G.1 + q → H1[x]? = H[x]?) : va_P G.2.2.2 vwCl (mx_W G (M.set q e)) H1 := by
  rw [← mx_W_set]
  exact hP.set (mx_W_D G M) (mx_W_get h0) he oq
theorem mx_A_in (G : mx_G) (q : Nat) : mx_A G (G.1 + q) := by
  show G.1 ≤ G.1 + q
  omega
/-- goes on behind a cell changed -/
theorem mx_Go_set {G : mx_G} {p : Program} {l : Launch} {e : Env} {R : Room} {s : State} {m : MethodId} {args : Array Value} {below : List Frame} {meth : Method} {c0 : Code} {Q : State → Prop} {L0 S0 n : Nat} {lv : mx_L} {st : List Value} {M : mx_M} {q : Nat} {e0 e1 : mx_E} {H : Heap} {locs : List Loc} {ls : Array Slot}
    (hgo : mx_Go nL G p l e R s m args below meth c0 Q L0 S0 (n, lv, st, M.set q e1)) (h1 : M.length ≤ 1000) (h2 : H.size = G.1 + M.length) (hP : va_P G.2.2.2 vwCl (mx_W G M) H) (hS : va_S (mx_A G) s.heap H locs) (hv : lv_has ls nL (lv.map (mx_tq G))) (h0 : M[q]? = some e0) (hsz : mx_szE e1 = mx_szE e0)
    {H1 : Heap} {k : Nat} (he : va_at G.2.2.2 vwCl (G.1 + q, mx_tE G e1) H1) (z : H1.size = H.size) (oq : ∀ x : Nat, x ≠ G.1 + q → H1[x]? = H[x]?) :
    W p l e R s m args below meth c0 H1 (locs ++ [⟨G.1 + q, k⟩]) (M.length - L0) (mx_sz M - S0) Q (F0 m n ls (st.map (mx_tr G))) := by
  have g := hgo H1 (locs ++ [⟨G.1 + q, k⟩]) ls (by rw [List.length_set]; exact h1) (by rw [List.length_set, z]; exact h2) (mx_P_set hP h0 he oq) (hS.put z oq (mx_A_in G q)) hv
  have e3 : (M.set q e1).length = M.length := List.length_set
  have e4 : mx_sz (M.set q e1) = mx_sz M := mx_sz_set h0 hsz
  have g2 : W p l e R s m args below meth c0 H1 (locs ++ [⟨G.1 + q, k⟩]) ((M.set q e1).length - L0) (mx_sz (M.set q e1) - S0) Q (F0 m n ls (st.map (mx_tr G))) := g
  rw [e3, e4] at g2
  exact g2
theorem ms_put {C : String} {T : u_T} {N : Nat} {ty : Nat → FieldType} {idx w : Nat} {host : Option String} (hC : mx_Cls a C T N ty) (hb' : b < N) (hl : mx_fl y.cls idx (T b) w host) (hf : (T b).2.2.2 = false) (hi : ty b = .int) (hd : decode bytes pc = .ok (.putfield idx, 3)) : mx_Snd bytes nL y pc (53, a, b, L) := by
  intro G SA p l e R s m args below meth c0 Q L0 S0 K c c' hpc _ _ _ _ hop hgo H locs ls h1 h2 hP hS hv
  obtain ⟨q, st, fs, v, e1, e2, e3, rfl⟩ := mx_put_inv hop
  obtain ⟨hx, hb, hml, hown, hts, -, hE, -, -, -⟩ := K
  have hq : q < 1000 := Nat.lt_of_lt_of_le (mx_len_lt e2) h1
  rw [hpc, e1, List.map_cons, List.map_cons]
  show W p l e R s m args below meth c0 H locs _ _ Q (F0 m pc ls (.int v :: .ref (mx_ad G q) :: _))
  rw [mx_ad_lt hq]
  rw [hpc] at hgo
  obtain ⟨r, hr1, cell, q1, q2, q3, q4⟩ := hP q _ (mx_W_get e2)
  have hr : r = (C, T, N) := Option.some.inj (hr1.symm.trans hC.1)
  subst hr
  obtain ⟨hSl, hfc, kC, hkC, hkind⟩ := hE.1.1 a _ hC.1
  obtain ⟨cf, kf, fi, f, hi', hsl⟩ := hSl b hb'
  have hap := va_apart (own := y.cls) hts hC.2.1 ty hC.2.2.1 hC.2.2.2 hE.1 hC.1
  have hlay := hts _ (hC.2.1 _ (u_in_lay hb'))
  unfold u_lay at hlay
  rw [if_neg (by rw [hf]; decide)] at hlay
  have hst := (u_facts hfc hkC (u_lays hts hC.2.1 hb') hi').1
  have h6 := u_store (v := .int v) (ty := .int) hfc hkC hkind hlay hi' (by rw [hC.2.2.1 b hb', hi]) rfl rfl
  have hkk : ∀ H' : Heap, H'[G.1 + q]? = some (cell.setSlot f.slot (.int v)) → H'.size = H.size → (∀ x, x ≠ G.1 + q → H'[x]? = H[x]?) → W p l e R s m args below meth c0 H' (locs ++ [⟨G.1 + q, f.slot⟩]) (c.2.2.2.length - L0) (mx_sz c.2.2.2 - S0) Q (F0 m (pc + 3) ls (st.map (mx_tr G))) := by
    intro H' g1 g2 g3
    refine mx_Go_set hgo h1 h2 hP hS hv e2 (by simp [mx_szE]) ?_ g2 g3
    rw [hsl] at g1
    have ht := t_OB.to (V := updV (vp_V (fs.map (mx_tr G))) b (.int v)) ⟨_, g1, q2, q3, t_set q4 hap hb' (.int v)⟩ (fun j _ => vp_updV_set (by rw [List.length_map]; exact e3) (.int v) j)
    refine ⟨_, hC.1, ?_⟩
    show t_OB _ _ _ _ _ (vp_V ((fs.set b (.int v)).map (mx_tr G)))
    rw [List.map_set]
    exact ht
  cases host with
  | none => exact W.putK hx hb (f := f) ⟨hown, hts _ (mx_gt w hl rfl), ⟨_, _, _, hi'⟩, hst⟩ (by rw [q2]; exact h6) q1 q3 (by rw [hsl]; exact k2_hasslot (q4 b hb')) rfl rfl hd hkk
  | some h => exact va_WputK hx hb (f := f) hown (va_Nw.use rfl (hE.2.1 _ (mx_fl_nest hl))) hi' hst (by rw [q2]; exact h6) q1 q3 (by rw [hsl]; exact k2_hasslot (q4 b hb')) rfl rfl hd hkk
/-- a field's type is a reference's -/
def mx_rt (t : FieldType) : Bool := match t with
  | .object _ => true
  | .array _ => true
  | _ => false
theorem mx_rt_fits {t : FieldType} (h : mx_rt t = true) (q : Nat) : narrow t (.ref q) = .ref q ∧ fits t (.ref q) = true := by
  cases t <;> first
    | (cases h; done)
    | exact ⟨rfl, rfl⟩
theorem ms_putF {C : String} {T : u_T} {N : Nat} {ty : Nat → FieldType} {idx w : Nat} (hC : mx_Cls a C T N ty) (hb' : b < N) (hl : mx_fl y.cls idx (T b) w none) (hf : (T b).2.2.2 = true) (hi : mx_rt (ty b) = true) (hn : y.name = "<init>") (hdc : (T b).1 = y.cls) (hd : decode bytes pc = .ok (.putfield idx, 3)) : mx_Snd bytes nL y pc (54, a, b, L) := by
  intro G SA p l e R s m args below meth c0 Q L0 S0 K c c' hpc _ _ _ _ hop hgo H locs ls h1 h2 hP hS hv
  obtain ⟨q, st, fs, v, e1, e2, e3, rfl⟩ := mx_putF_inv hop
  obtain ⟨hx, hb, hml, hown, hts, hnm, hE, -, -, -⟩ := K
  have hq : q < 1000 := Nat.lt_of_lt_of_le (mx_len_lt e2) h1
  rw [hpc, e1, List.map_cons, List.map_cons]
  show W p l e R s m args below meth c0 H locs _ _ Q (F0 m pc ls (.ref (mx_ad G v) :: .ref (mx_ad G q) :: _))
  rw [mx_ad_lt hq]
  rw [hpc] at hgo
  obtain ⟨r, hr1, cell, q1, q2, q3, q4⟩ := hP q _ (mx_W_get e2)
  have hr : r = (C, T, N) := Option.some.inj (hr1.symm.trans hC.1)
  subst hr
  obtain ⟨hSl, hfc, kC, hkC, hkind⟩ := hE.1.1 a _ hC.1
  obtain ⟨cf, kf, fi, f, hi', hsl⟩ := hSl b hb'
  have hap := va_apart (own := y.cls) hts hC.2.1 ty hC.2.2.1 hC.2.2.2 hE.1 hC.1
  have hlay := hts _ (hC.2.1 _ (u_in_lay hb'))
  unfold u_lay at hlay
  rw [if_pos hf] at hlay
  have hst := (u_facts hfc hkC (u_lays hts hC.2.1 hb') hi').1
  have hcf : m.cls = cf := by
    obtain ⟨_, _, c', _, _, _, -, -, hf', -, -, -, hown2, -⟩ := Cond.laysFinal_spec hlay
    have e1 : c' = cf := by have := hi'.symm.trans hf'; simp at this; exact this.1.symm
    rw [hdc] at hown2
    rw [← e1]; exact Option.some.inj (hown.symm.trans hown2)
  have h6 := u_fits (v := .ref (mx_ad G v)) hfc hkC hkind (Or.inr hlay) hi' (hC.2.2.1 b hb') (mx_rt_fits hi _).1 (mx_rt_fits hi _).2
  refine W.putFinK hx hb hown (hts _ (mx_gt w hl rfl)) hi' hst hcf (hnm hn) (by rw [q2]; exact h6) q1 q3 (by rw [hsl]; exact k2_hasslot (q4 b hb')) rfl rfl hd fun H' g1 g2 g3 => ?_
  refine mx_Go_set hgo h1 h2 hP hS hv e2 (by simp [mx_szE]) ?_ g2 g3
  rw [hsl] at g1
  have ht := t_OB.to (V := updV (vp_V (fs.map (mx_tr G))) b (.ref (mx_ad G v))) ⟨_, g1, q2, q3, t_set q4 hap hb' (.ref (mx_ad G v))⟩ (fun j _ => vp_updV_set (by rw [List.length_map]; exact e3) (.ref (mx_ad G v)) j)
  refine ⟨_, hC.1, ?_⟩
  show t_OB _ _ _ _ _ (vp_V ((fs.set b (.ref v)).map (mx_tr G)))
  rw [List.map_set]
  exact ht
/-- arrays -/
theorem mx_inb_in {i : Int32} {n : Nat} (h : mx_inb i n = true) : vp_in i n := by
  rw [vp_in_iff]
  unfold mx_inb at h
  split at h
  · next k hk =>
    have h := Nat.le_of_ble_eq_true h
    rw [hk]
    constructor
    · exact Int.natCast_nonneg k
    · show (k : Int) < n
      omega
  · cases h
theorem mx_ar_inv {SA : mx_S} {M : mx_M} {q t : Nat} {x : vp_A} (h : mx_ar SA M q = some (t, x)) : (1000 ≤ q ∧ SA (q - 1000) = some (t, x)) ∨ (q < 1000 ∧ M[q]? = some (.inr (t, x)) ∧ mx_kd t x = true) := by
  unfold mx_ar at h
  cases hb : Nat.ble 1000 q with
  | true =>
    rw [hb] at h
    exact Or.inl ⟨Nat.le_of_ble_eq_true hb, h⟩
  | false =>
    rw [hb] at h
    have hlt : q < 1000 := by
      rcases Nat.lt_or_ge q 1000 with z | z
      · exact z
      · rw [Nat.ble_eq_true_of_le z] at hb
        cases hb
    refine Or.inr ⟨hlt, ?_⟩
    simp only [cond_false] at h
    split at h
    · next u z hz =>
      cases hk : mx_kd u z with
      | false => rw [hk] at h; cases h
      | true =>
        rw [hk] at h
        cases h
        exact ⟨by rw [← mx_nth_eq, hz], hk⟩
    · cases h
theorem mx_kd_lt {t : Nat} {x : vp_A} (h : mx_kd t x = true) : t < 4 := by
  obtain ⟨n, f | f | f | f | f⟩ := x
  · have h : t < 3 := Nat.le_of_ble_eq_true h
    omega
  · have h := Nat.eq_of_beq_eq_true (show Nat.beq t 3 = true from h)
    omega
  · cases h
  · cases h
  · cases h
theorem mx_ad_st {G : mx_G} {q : Nat} (h : 1000 ≤ q) : mx_ad G q = G.2.1 (q - 1000) := by
  unfold mx_ad
  rw [if_neg (by omega)]
theorem ms_alen (hd : decode bytes pc = .ok (.arraylength, 1)) : mx_Snd bytes nL y pc (57, a, b, L) := by
  intro G SA p l e R s m args below meth c0 Q L0 S0 K c c' hpc _ _ _ _ hop hgo H locs ls h1 h2 hP hS hv
  have hop : mx_alen SA c = some c' := hop
  obtain ⟨hx, hb, hml, hown, hts, -, hE, -, -, -⟩ := K
  unfold mx_alen at hop
  split at hop
  · next q st hst =>
    split at hop
    · next t x hax =>
      have h := Option.some.inj hop
      subst h
      have g := hgo H locs ls h1 h2 hP hS hv
      rw [hpc] at g
      rw [hpc, hst, List.map_cons]
      show W p l e R s m args below meth c0 H locs _ _ Q (F0 m pc ls (.ref (mx_ad G q) :: _))
      rcases mx_ar_inv hax with ⟨z1, z2⟩ | ⟨z1, z2, z3⟩
      · rw [mx_ad_st z1]
        exact va_tlen hx hb (hE.2.2.1 _ _ _ z2).2 hS rfl hd g
      · rw [mx_ad_lt z1]
        exact va_alen hx hb hE.1 hP q t (mx_W_get z2) (mx_tys_at G (mx_kd_lt z3)) rfl hd g
    · cases hop
  · cases hop
theorem mx_ald_inv {SA : mx_S} {t : Nat} {c c' : mx_C} (h : mx_ald SA t c = some c') : ∃ i q st x, c.2.2.1 = .int i :: .ref q :: st ∧ mx_ar SA c.2.2.2 q = some (t, x) ∧ mx_inb i x.1 = true ∧ c' = (c.1 + 1, c.2.1, mx_con x i.toNatClampNeg :: st, c.2.2.2) := by
  unfold mx_ald at h
  split at h
  · next i q st hst =>
    split at h
    · next u x hax =>
      cases hq : Nat.beq u t && mx_inb i x.1 with
      | false => rw [hq] at h; cases h
      | true =>
        rw [hq] at h
        simp only [Bool.and_eq_true] at hq
        have hu := Nat.eq_of_beq_eq_true hq.1
        subst hu
        exact ⟨i, q, st, x, hst, hax, hq.2, (Option.some.inj h).symm⟩
    · cases h
  · cases h
theorem ms_ald (hd : (a = 0 ∧ decode bytes pc = .ok (.iaload, 1)) ∨ (a = 1 ∧ decode bytes pc = .ok (.baload, 1)) ∨ (a = 2 ∧ decode bytes pc = .ok (.baload, 1)) ∨ (a = 3 ∧ decode bytes pc = .ok (.laload, 1))) : mx_Snd bytes nL y pc (58, a, b, L) := by
  intro G SA p l e R s m args below meth c0 Q L0 S0 K c c' hpc _ _ _ _ hop hgo H locs ls h1 h2 hP hS hv
  obtain ⟨i, q, st, x, hst, hax, hq2, rfl⟩ := mx_ald_inv hop
  obtain ⟨hx, hb, hml, hown, hts, -, hE, -, -, -⟩ := K
  have hin := mx_inb_in hq2
  have g := hgo H locs ls h1 h2 hP hS hv
  rw [hpc] at g
  have g : W p l e R s m args below meth c0 H locs (c.2.2.2.length - L0) (mx_sz c.2.2.2 - S0) Q (F0 m (pc + 1) ls (mx_tr G (mx_con x i.toNatClampNeg) :: st.map (mx_tr G))) := g
  rw [mx_con_tr] at g
  rw [hpc, hst, List.map_cons, List.map_cons]
  show W p l e R s m args below meth c0 H locs _ _ Q (F0 m pc ls (.int i :: .ref (mx_ad G q) :: _))
  rcases mx_ar_inv hax with ⟨z1, z2⟩ | ⟨z1, z2, z3⟩
  · rw [mx_ad_st z1]
    have hT := (hE.2.2.1 _ _ _ z2).2
    rcases hd with ⟨rfl, hd⟩ | ⟨rfl, hd⟩ | ⟨rfl, hd⟩ | ⟨rfl, hd⟩
    · exact va_ti hx hb hT hS hin rfl hd g
    · exact va_tb hx hb hT hS hin rfl hd g
    · exact va_tz hx hb hT hS hin rfl hd g
    · exact va_tl hx hb hT hS hin rfl hd g
  · rw [mx_ad_lt z1]
    obtain ⟨n, f | f | f | f | f⟩ := x
    · rcases hd with ⟨rfl, hd⟩ | ⟨rfl, hd⟩ | ⟨rfl, hd⟩ | ⟨rfl, hd⟩
      · exact va_iald hx hb hE.1 hP q 0 (mx_W_get z2) (mx_tys_at G (by decide)) hin hd g
      · exact va_bald hx hb hE.1 hP q 1 (mx_W_get z2) (mx_tys_at G (by decide)) hin hd g
      · exact va_zald hx hb hE.1 hP q 2 (mx_W_get z2) (mx_tys_at G (by decide)) hin hd g
      · cases z3
    · rcases hd with ⟨rfl, hd⟩ | ⟨rfl, hd⟩ | ⟨rfl, hd⟩ | ⟨rfl, hd⟩
      · cases z3
      · cases z3
      · cases z3
      · exact va_lald hx hb hE.1 hP q 3 (mx_W_get z2) (mx_tys_at G (by decide)) hin hd g
    · cases z3
    · cases z3
    · cases z3
theorem mx_ast_inv {t : Nat} {c c' : mx_C} (h : mx_ast t c = some c') : ∃ v i q st n f, c.2.2.1 = .int v :: .int i :: .ref q :: st ∧ c.2.2.2[q]? = some (.inr (t, n, .inl f)) ∧ mx_inb i n = true ∧ c' = (c.1 + 1, c.2.1, st, c.2.2.2.set q (.inr (t, n, .inl (upd f i.toNatClampNeg (mx_nar t v))))) := by
  unfold mx_ast at h
  split at h
  · next v i q st hst =>
    split at h
    · next u n f hq =>
      cases hb : Nat.beq u t && mx_inb i n with
      | false => rw [hb] at h; cases h
      | true =>
        rw [hb] at h
        simp only [Bool.and_eq_true] at hb
        have := Nat.eq_of_beq_eq_true hb.1
        subst this
        exact ⟨v, i, q, st, n, f, hst, by rw [← mx_nth_eq]; exact hq, hb.2, (Option.some.inj h).symm⟩
    · cases h
  · cases h
theorem mx_last_inv {c c' : mx_C} (h : mx_last c = some c') : ∃ v i q st n f, c.2.2.1 = .long v :: .int i :: .ref q :: st ∧ c.2.2.2[q]? = some (.inr (3, n, .inr (.inl f))) ∧ mx_inb i n = true ∧ c' = (c.1 + 1, c.2.1, st, c.2.2.2.set q (.inr (3, n, .inr (.inl (vp_updL f i.toNatClampNeg v))))) := by
  unfold mx_last at h
  split at h
  · next v i q st hst =>
    split at h
    · next u n f hq =>
      cases hb : Nat.beq u 3 && mx_inb i n with
      | false => rw [hb] at h; cases h
      | true =>
        rw [hb] at h
        simp only [Bool.and_eq_true] at hb
        have := Nat.eq_of_beq_eq_true hb.1
        subst this
        exact ⟨v, i, q, st, n, f, hst, by rw [← mx_nth_eq]; exact hq, hb.2, (Option.some.inj h).symm⟩
    · cases h
  · cases h
theorem mx_upd_eq (f : Nat → Int32) (k : Nat) (x : Int32) : (fun j => Value.int (upd f k x j)) = updV (fun j => .int (f j)) k (.int x) := by
  funext j
  by_cases h : j = k
  · simp [upd, updV, h]
  · simp [upd, updV, h]
theorem mx_updL_eq (f : Nat → Int64) (k : Nat) (x : Int64) : (fun j => Value.long (vp_updL f k x j)) = updV (fun j => .long (f j)) k (.long x) := by
  funext j
  by_cases h : j = k
  · simp [vp_updL, updV, h]
  · simp [vp_updL, updV, h]
theorem mx_nar_eq (x : Int32) : narrow .byte (.int x) = .int (vp_nar .byte x) ∧ narrow .boolean (.int x) = .int (vp_nar .boolean x) := ⟨rfl, rfl⟩
theorem ms_ast (hd : (a = 0 ∧ decode bytes pc = .ok (.iastore, 1)) ∨ (a = 1 ∧ decode bytes pc = .ok (.bastore, 1)) ∨ (a = 2 ∧ decode bytes pc = .ok (.bastore, 1))) : mx_Snd bytes nL y pc (59, a, b, L) := by
  intro G SA p l e R s m args below meth c0 Q L0 S0 K c c' hpc _ _ _ _ hop hgo H locs ls h1 h2 hP hS hv
  obtain ⟨v, i, q, st, n, f, e1, e2, e3, rfl⟩ := mx_ast_inv hop
  obtain ⟨hx, hb, hml, hown, hts, -, hE, -, -, -⟩ := K
  have hq : q < 1000 := Nat.lt_of_lt_of_le (mx_len_lt e2) h1
  have hin := mx_inb_in e3
  rw [hpc, e1, List.map_cons, List.map_cons, List.map_cons]
  show W p l e R s m args below meth c0 H locs _ _ Q (F0 m pc ls (.int v :: .int i :: .ref (mx_ad G q) :: _))
  rw [mx_ad_lt hq]
  rw [hpc] at hgo
  have hsz : ¬ (i < 0 ∨ (vp_cell (G.2.2.1 a) (n, .inl f)).slots.size ≤ i.toNatClampNeg) := by
    show ¬ (i < 0 ∨ (arrV _ _ _).slots.size ≤ _)
    rw [arrV_size]
    exact hin
  have hat : ∀ (x : Int32) (H1 : Heap), H1[G.1 + q]? = some ((vp_cell (G.2.2.1 a) (n, .inl f)).setSlot i.toNatClampNeg (.int x)) → va_at G.2.2.2 vwCl (G.1 + q, mx_tE G (.inr (a, n, .inl (upd f i.toNatClampNeg x)))) H1 := by
    intro x H1 g
    show H1[G.1 + q]? = some (vp_cell (G.2.2.1 a) (n, .inl (upd f i.toNatClampNeg x)))
    rw [g, vp_cell_i, vp_cell_i, arrV_store, mx_upd_eq]
  rcases hd with ⟨rfl, hd⟩ | ⟨rfl, hd⟩ | ⟨rfl, hd⟩
  · exact W.iast hx hb (hP q _ (mx_W_get e2)) ((hE.1.2 0 _ (mx_tys_at G (by decide))).1 n (fun j => .int (f j))) (fun z => by cases z) hsz rfl rfl hd fun H1 g z oq => mx_Go_set hgo h1 h2 hP hS hv e2 rfl (hat v H1 g) z oq
  · exact W.bast hx hb (hP q _ (mx_W_get e2)) ((hE.1.2 1 _ (mx_tys_at G (by decide))).1 n (fun j => .int (f j))) (fun z => by cases z) hsz rfl rfl hd fun H1 g z oq => mx_Go_set hgo h1 h2 hP hS hv e2 rfl (hat (vp_nar .byte v) H1 g) z oq
  · exact W.zast hx hb (hP q _ (mx_W_get e2)) ((hE.1.2 2 _ (mx_tys_at G (by decide))).1 n (fun j => .int (f j))) (fun z => by cases z) hsz rfl rfl hd fun H1 g z oq => mx_Go_set hgo h1 h2 hP hS hv e2 rfl (hat (vp_nar .boolean v) H1 g) z oq
theorem ms_last (hd : decode bytes pc = .ok (.lastore, 1)) : mx_Snd bytes nL y pc (60, a, b, L) := by
  intro G SA p l e R s m args below meth c0 Q L0 S0 K c c' hpc _ _ _ _ hop hgo H locs ls h1 h2 hP hS hv
  obtain ⟨v, i, q, st, n, f, e1, e2, e3, rfl⟩ := mx_last_inv hop
  obtain ⟨hx, hb, hml, hown, hts, -, hE, -, -, -⟩ := K
  have hq : q < 1000 := Nat.lt_of_lt_of_le (mx_len_lt e2) h1
  have hin := mx_inb_in e3
  rw [hpc, e1, List.map_cons, List.map_cons, List.map_cons]
  show W p l e R s m args below meth c0 H locs _ _ Q (F0 m pc ls (.long v :: .int i :: .ref (mx_ad G q) :: _))
  rw [mx_ad_lt hq]
  rw [hpc] at hgo
  have hsz : ¬ (i < 0 ∨ (vp_cell (G.2.2.1 3) (n, .inr (.inl f))).slots.size ≤ i.toNatClampNeg) := by
    show ¬ (i < 0 ∨ (arrV _ _ _).slots.size ≤ _)
    rw [arrV_size]
    exact hin
  refine W.last hx hb (hP q _ (mx_W_get e2)) ((hE.1.2 3 _ (mx_tys_at G (by decide))).1 n (fun j => .long (f j))) (fun z => by cases z) hsz rfl rfl hd fun H1 g z oq => mx_Go_set hgo h1 h2 hP hS hv e2 rfl ?_ z oq
  show H1[G.1 + q]? = some (vp_cell (G.2.2.1 3) (n, .inr (.inl (vp_updL f i.toNatClampNeg v))))
  rw [g, vp_cell_l, vp_cell_l, arrV_store, mx_updL_eq]
end MSM
end
section
section MSN
variable {bytes : ByteArray} {nL : Nat} {y : MethodName} {pc a b : Nat} {L : List Nat}
/-- how a static field is named -/
theorem ms_gets {q : mx_F} {idx w : Nat} {host : Option String} (hq : mx_SF[a]? = some q) (hl : mx_fl y.cls idx (q.1, q.2.1, q.2.2.1, false) w host) (hd : decode bytes pc = .ok (.getstatic idx, 3)) : mx_Snd bytes nL y pc (55, a, b, L) := by
  intro G SA p l e R s m args below meth c0 Q L0 S0 K c c' hpc _ _ _ _ hop hgo H locs ls h1 h2 hP hS hv
  have hop : (match mx_nth mx_SF a with
    | some q => mx_push q.2.2.2 3 c
    | none => none) = some c' := hop
  rw [mx_nth_eq, hq] at hop
  have h := Option.some.inj hop
  subst h
  obtain ⟨hx, hb, hml, hown, hts, -, hE, -, -, -⟩ := K
  have g := hgo H locs ls h1 h2 hP hS hv
  rw [hpc] at g
  rw [hpc]
  have hZ := hE.2.2.2.1 q (List.mem_of_getElem? hq)
  cases host with
  | none => exact va_gets (own := y.cls) (ref := q.1) (index := idx) hx hb hZ hS hown (hts _ (mx_gt w hl rfl)) (fun _ h => h) hd g
  | some h => exact va_getsN (own := y.cls) (ref := q.1) (host := h) (index := idx) hx hb hZ hS hown (va_Nw.use rfl (hE.2.1 _ (mx_fl_nest hl))) (fun _ h => h) hd g
theorem ms_ldcS {idx : Nat} {tx : String} (hq : mx_SR[a]? = some (y.cls, idx, tx)) (hd : decode bytes pc = .ok (.ldc idx, 2)) : mx_Snd bytes nL y pc (56, a, b, L) := by
  intro G SA p l e R s m args below meth c0 Q L0 S0 K c c' hpc _ _ _ _ hop hgo H locs ls h1 h2 hP hS hv
  have ha : a < 14 := (List.getElem?_eq_some_iff.mp hq).1
  have hop : (bif Nat.blt a 14 then mx_push (.ref (1100 + a)) 2 c else none) = some c' := hop
  have hbl : Nat.blt a 14 = true := Nat.ble_eq_true_of_le ha
  rw [hbl] at hop
  have h := Option.some.inj hop
  subst h
  obtain ⟨hx, hb, hml, hown, hts, -, hE, -, -, -⟩ := K
  have g := hgo H locs ls h1 h2 hP hS hv
  rw [hpc] at g
  rw [hpc]
  have hR := (hE.2.2.2.2 a _ hq).1
  have ea : mx_ad G (1100 + a) = G.2.1 (100 + a) := by
    rw [show 1100 + a = 1000 + (100 + a) by omega]
    exact mx_ad_ge
  have g : W p l e R s m args below meth c0 H locs (c.2.2.2.length - L0) (mx_sz c.2.2.2 - S0) Q (F0 m (pc + 2) ls (.ref (mx_ad G (1100 + a)) :: c.2.2.1.map (mx_tr G))) := g
  rw [ea] at g
  exact va_ldcS hx hb hown hR hd g
theorem mx_gs_ar {q N : Nat} (z1 : 1100 ≤ q) (z2 : q < 1100 + N) : q = 1100 + (q - 1100) ∧ q - 1100 < N ∧ 1200 + (q - 1100) = q + 100 := ⟨by omega, by omega, by omega⟩
theorem mx_gstr_inv {k N : Nat} {c c' : mx_C} (h : mx_gstr k N c = some c') : ∃ i st, i < N ∧ c.2.2.1 = .ref (1100 + i) :: st ∧ c' = (c.1 + 3, c.2.1, (bif Nat.beq k 0 then .ref (1200 + i) else .int 0) :: st, c.2.2.2) := by
  unfold mx_gstr at h
  split at h
  · next q st hst =>
    cases hb : Nat.ble 1100 q && Nat.blt q (1100 + N) with
    | false => rw [hb] at h; cases h
    | true =>
      rw [hb] at h
      simp only [Bool.and_eq_true] at hb
      have z1 : 1100 ≤ q := Nat.le_of_ble_eq_true hb.1
      have z2 : q < 1100 + N := Nat.le_of_ble_eq_true hb.2
      obtain ⟨e, e2, e3⟩ := mx_gs_ar z1 z2
      refine ⟨q - 1100, st, e2, by rw [← e]; exact hst, ?_⟩
      rw [e3]
      exact (Option.some.inj h).symm
  · cases h
theorem ms_gstr {idx w : Nat} (ha : (a = 0 ∧ lw_tbl[w]? = some (.fieldLink y.cls idx "java/lang/String" "value" "[B")) ∨ (a = 1 ∧ lw_tbl[w]? = some (.fieldLink y.cls idx "java/lang/String" "coder" "B"))) (hd : decode bytes pc = .ok (.getfield idx, 3)) : mx_Snd bytes nL y pc (52, a, b, L) := by
  intro G SA p l e R s m args below meth c0 Q L0 S0 K c c' hpc _ _ _ _ hop hgo H locs ls h1 h2 hP hS hv
  obtain ⟨i, st, hi, e1, rfl⟩ := mx_gstr_inv hop
  obtain ⟨hx, hb, hml, hown, hts, -, hE, -, -, -⟩ := K
  have hi14 : i < mx_SR.length := hi
  obtain ⟨-, -, hco, hva⟩ := hE.2.2.2.2 i _ (List.getElem?_eq_getElem hi14)
  have g := hgo H locs ls h1 h2 hP hS hv
  rw [hpc] at g
  rw [hpc, e1, List.map_cons]
  have ea : mx_ad G (1100 + i) = G.2.1 (100 + i) := by
    rw [show 1100 + i = 1000 + (100 + i) by omega]
    exact mx_ad_ge
  have ea2 : mx_ad G (1200 + i) = G.2.1 (200 + i) := by
    rw [show 1200 + i = 1000 + (200 + i) by omega]
    exact mx_ad_ge
  show W p l e R s m args below meth c0 H locs _ _ Q (F0 m pc ls (.ref (mx_ad G (1100 + i)) :: _))
  rw [ea]
  rcases ha with ⟨rfl, hl⟩ | ⟨rfl, hl⟩
  · have g : W p l e R s m args below meth c0 H locs (c.2.2.2.length - L0) (mx_sz c.2.2.2 - S0) Q (F0 m (pc + 3) ls (.ref (mx_ad G (1200 + i)) :: st.map (mx_tr G))) := g
    rw [ea2] at g
    exact vk_getf (own := y.cls) (ref := "java/lang/String") (index := idx) hx hb hva hS hown (hts _ (mx_gt w hl rfl)) (fun _ h => h) hd g
  · exact vk_getf (own := y.cls) (ref := "java/lang/String") (index := idx) hx hb hco hS hown (hts _ (mx_gt w hl rfl)) (fun _ h => h) hd g
/-- new objects -/
theorem mx_new_inv {ci : Nat} {fs : List Value} {c c' : mx_C} (h : mx_new ci fs c = some c') : c.2.2.2.length < 999 ∧ c' = (c.1 + 3, c.2.1, .ref c.2.2.2.length :: c.2.2.1, c.2.2.2 ++ [.inl (ci, fs)]) := by
  unfold mx_new at h
  cases hb : Nat.blt c.2.2.2.length 999 with
  | false => rw [hb] at h; cases h
  | true =>
    rw [hb] at h
    exact ⟨Nat.le_of_ble_eq_true hb, (Option.some.inj h).symm⟩
theorem mx_plain_fs {G : mx_G} {fs : List Value} (h : fs.all (fun v => match v with | .int _ => true | .null => true | _ => false) = true) : fs.map (mx_tr G) = fs := by
  have h2 := List.all_eq_true.mp h
  conv => rhs; rw [← List.map_id fs]
  apply List.map_congr_left
  intro v hv
  have h3 := h2 v hv
  cases v <;> first
    | rfl
    | cases h3
theorem ms_new {C : String} {T : u_T} {N : Nat} {ty : Nat → FieldType} {idx : Nat} {fs : List Value} (w1 w2 w3 : Nat) (hC : mx_Cls a C T N ty) (hf : mx_DF[a]? = some fs) (hlen : fs.length = N) (hp : fs.all (fun v => match v with | .int _ => true | .null => true | _ => false) = true) (hdv : ∀ j, j < N → defaultValue (ty j) = vp_V fs j)
    (h1 : lw_tbl[w1]? = some (.classLink y.cls idx C)) (h2 : lw_tbl[w2]? = some (.instantiable C N)) (h3 : lw_tbl[w3]? = some (.initialized C)) (hd : decode bytes pc = .ok (.new idx, 3)) : mx_Snd bytes nL y pc (61, a, b, L) := by
  intro G SA p l e R s m args below meth c0 Q L0 S0 K c c' hpc z1 z2 z3 z4 hop hgo H locs ls g1 g2 hP hS hv
  have hop : (match mx_nth mx_DF a with
    | some fs => mx_new a fs c
    | none => none) = some c' := hop
  rw [mx_nth_eq, hf] at hop
  obtain ⟨hl, rfl⟩ := mx_new_inv hop
  obtain ⟨hx, hb, hml, hown, hts, -, hE, hbs, -, -⟩ := K
  have hKn := hE.1.1 a _ hC.1
  have zl : (c.2.2.2 ++ [Sum.inl (a, fs)]).length = c.2.2.2.length + 1 := by simp
  have zs : mx_sz (c.2.2.2 ++ [Sum.inl (a, fs)]) = mx_sz c.2.2.2 + N := by rw [mx_sz_app]; show _ + fs.length = _; rw [hlen]
  have z3' : (c.2.2.2 ++ [Sum.inl (a, fs)]).length ≤ R.cells + L0 := z3
  have z4' : mx_sz (c.2.2.2 ++ [Sum.inl (a, fs)]) ≤ R.slots + S0 := z4
  rw [zl] at z3'
  rw [zs] at z4'
  rw [hpc]
  refine W.newcK (own := y.cls) (C := C) (index := idx) (n := N) hx hb hown (hts _ (mx_gt w1 h1 rfl)) (hts _ (mx_gt w2 h2 rfl)) (hts _ (mx_gt w3 h3 rfl)) rfl hd (by omega) (by omega) hKn.2.1 g2 fun H1 kC hkC e1 q1 o1 => ?_
  have hk : ∀ (k : Nat) (x : Nat × va_E), (mx_W G c.2.2.2)[k]? = some x → H1[x.1]? = H[x.1]? := fun k x hx' => o1 x.1 (by rw [← g2]; exact (hP k x hx').lt)
  have hP1 : va_P G.2.2.2 vwCl (mx_W G (c.2.2.2 ++ [.inl (a, fs)])) H1 := by
    rw [mx_W_app]
    refine (hP.kept hk).app (fun k x hx' => ?_)
    have hz : k < 1 := (List.getElem?_eq_some_iff.mp hx').1
    rw [show k = 0 by omega] at hx'
    cases hx'
    refine ⟨_, hC.1, ?_⟩
    show t_OB _ _ _ _ _ (vp_V (fs.map (mx_tr G)))
    rw [mx_plain_fs hp]
    exact (u_born ty hts hC.2.1 hKn hkC e1 hC.2.2.1).to hdv
  have hS1 : va_S (mx_A G) s.heap H1 locs := ⟨Nat.le_trans hS.1 (by omega), fun x u1 u2 => (o1 x (by rw [← g2]; exact Nat.lt_of_lt_of_le u1 hS.1)).trans (hS.2.1 x u1 u2), hS.2.2⟩
  have g := hgo H1 locs ls (by rw [zl]; omega) (by rw [zl, q1]; omega) hP1 hS1 hv
  have g : W p l e R s m args below meth c0 H1 locs ((c.2.2.2 ++ [Sum.inl (a, fs)]).length - L0) (mx_sz (c.2.2.2 ++ [Sum.inl (a, fs)]) - S0) Q (F0 m (c.1 + 3) ls (.ref (mx_ad G c.2.2.2.length) :: c.2.2.1.map (mx_tr G))) := g
  rw [zl, zs, mx_ad_lt (by omega), hpc, Nat.sub_add_comm z1, Nat.sub_add_comm z2] at g
  exact g
theorem mx_newa_inv {t : Nat} {c c' : mx_C} (h : mx_newa t c = some c') : ∃ n st, mx_inb n 2000 = true ∧ c.2.2.2.length < 999 ∧ c.2.2.1 = .int n :: st ∧ c' = (c.1 + 2, c.2.1, .ref c.2.2.2.length :: st, c.2.2.2 ++ [.inr (t, mx_zero t n.toNatClampNeg)]) := by
  unfold mx_newa at h
  split at h
  · next n st hst =>
    cases hb : mx_inb n 2000 && Nat.blt c.2.2.2.length 999 with
    | false => rw [hb] at h; cases h
    | true =>
      rw [hb] at h
      simp only [Bool.and_eq_true] at hb
      exact ⟨n, st, hb.1, Nat.le_of_ble_eq_true hb.2, hst, (Option.some.inj h).symm⟩
  · cases h
theorem mx_zero_len (t n : Nat) : (mx_zero t n).1 = n := by
  unfold mx_zero
  split <;> rfl
theorem mx_zero_cell {t : Nat} (ht : t < 4) (cA : ClassId) (n : Nat) : vp_cell cA (mx_zero t n) = arrV cA n (fun _ => defaultValue (mx_ty t)) := by
  match t, ht with
  | 0, _ => rfl
  | 1, _ => rfl
  | 2, _ => rfl
  | 3, _ => rfl
theorem mx_RA {U : State} {cA : ClassId} {t : Nat} (h : va_RA U cA (mx_ty t)) : U.vm.findClass ("[" ++ (mx_ty t).toString) = some cA := by
  match t, h with
  | 0, h => exact h
  | 1, h => exact h
  | 2, h => exact h
  | t + 3, h => exact h
theorem ms_newa {at' : ArrayType} (w : Nat) (ht : a < 4) (hty : newarray.typeOf at' = mx_ty a) (hw : lw_tbl[w]? = some (.arrayClass (mx_ty a))) (hcb : componentBytes (mx_ty a) ≤ 8) (hd : decode bytes pc = .ok (.newarray at', 2)) : mx_Snd bytes nL y pc (62, a, b, L) := by
  intro G SA p l e R s m args below meth c0 Q L0 S0 K c c' hpc z1 z2 z3 z4 hop hgo H locs ls g1 g2 hP hS hv
  obtain ⟨n, st, hn, hl, e1, rfl⟩ := mx_newa_inv hop
  obtain ⟨hx, hb, hml, hown, hts, -, hE, hbs, -, -⟩ := K
  have hin := mx_inb_in hn
  have hn0 : ¬ n < 0 := fun z => hin (Or.inl z)
  have hn1 : n.toNatClampNeg < 2000 := Nat.not_le.mp fun z => hin (Or.inr z)
  have zl : (c.2.2.2 ++ [Sum.inr (a, mx_zero a n.toNatClampNeg)]).length = c.2.2.2.length + 1 := by simp
  have zs : mx_sz (c.2.2.2 ++ [Sum.inr (a, mx_zero a n.toNatClampNeg)]) = mx_sz c.2.2.2 + n.toNatClampNeg := by rw [mx_sz_app]; show _ + (mx_zero a n.toNatClampNeg).1 = _; rw [mx_zero_len]
  have z3' : (c.2.2.2 ++ [Sum.inr (a, mx_zero a n.toNatClampNeg)]).length ≤ R.cells + L0 := z3
  have z4' : mx_sz (c.2.2.2 ++ [Sum.inr (a, mx_zero a n.toNatClampNeg)]) ≤ R.slots + S0 := z4
  rw [zl] at z3'
  rw [zs] at z4'
  rw [hpc, e1, List.map_cons]
  have hbytes : n.toNatClampNeg * componentBytes (newarray.typeOf at') ≤ 536870912 := by
    rw [hty]
    have := Nat.mul_le_mul (Nat.le_of_lt hn1) hcb
    omega
  refine va_newaK hx hb (atype := at') (by rw [hty]; exact hts _ (mx_gt w hw rfl)) rfl hd rfl hn0 rfl hbytes (by omega) (by omega) g2 fun H1 cA q0 q1 o1 hAr hNm => ?_
  rw [hty] at q0 hAr hNm
  have hcA : cA = G.2.2.1 a := by
    have h5 := mx_RA (hE.1.2 a _ (mx_tys_at G ht)).2
    exact Option.some.inj (hNm.symm.trans h5)
  subst hcA
  have hk : ∀ (k : Nat) (x : Nat × va_E), (mx_W G c.2.2.2)[k]? = some x → H1[x.1]? = H[x.1]? := fun k x hx' => o1 x.1 (by rw [← g2]; exact (hP k x hx').lt)
  have hP1 : va_P G.2.2.2 vwCl (mx_W G (c.2.2.2 ++ [.inr (a, mx_zero a n.toNatClampNeg)])) H1 := by
    rw [mx_W_app]
    refine (hP.kept hk).app (fun k x hx' => ?_)
    have hz : k < 1 := (List.getElem?_eq_some_iff.mp hx').1
    rw [show k = 0 by omega] at hx'
    cases hx'
    show H1[G.1 + c.2.2.2.length]? = some (vp_cell _ _)
    rw [mx_zero_cell ht]
    exact q0
  have hS1 : va_S (mx_A G) s.heap H1 locs := ⟨Nat.le_trans hS.1 (by omega), fun x u1 u2 => (o1 x (by rw [← g2]; exact Nat.lt_of_lt_of_le u1 hS.1)).trans (hS.2.1 x u1 u2), hS.2.2⟩
  have g := hgo H1 locs ls (by rw [zl]; omega) (by rw [zl, q1]; omega) hP1 hS1 hv
  have g : W p l e R s m args below meth c0 H1 locs ((c.2.2.2 ++ [Sum.inr (a, mx_zero a n.toNatClampNeg)]).length - L0) (mx_sz (c.2.2.2 ++ [Sum.inr (a, mx_zero a n.toNatClampNeg)]) - S0) Q (F0 m (c.1 + 2) ls (.ref (mx_ad G c.2.2.2.length) :: st.map (mx_tr G))) := g
  rw [zl, zs, mx_ad_lt (by omega), hpc, Nat.sub_add_comm z1, Nat.sub_add_comm z2] at g
  exact g
theorem mx_cat_eq (G : mx_G) : ∀ st : List Value, ((st.map (mx_tr G)).map fun v => v.category).sum = mx_cat st
  | [] => rfl
  | v :: st => by
    simp only [List.map_cons, List.sum_cons, mx_cat, mx_tr_cat]
    rw [mx_cat_eq G st]
    cases v <;> rfl
theorem ms_obj {idx : Nat} (w1 w2 w3 : Nat) (h1 : lw_tbl[w1]? = some (.methodLink y.cls idx Lib.objectInit)) (h2 : lw_tbl[w2]? = some (.instanceMethod Lib.objectInit)) (h3 : lw_tbl[w3]? = some (.code Lib.objectInit ⟨#[0xb1]⟩ 1 none)) (hd : decode bytes pc = .ok (.invokespecial idx, 3)) : mx_Snd bytes nL y pc (63, a, b, L) := by
  intro G SA p l e R s m args below meth c0 Q L0 S0 K c c' hpc z1 z2 z3 z4 hop hgo H locs ls g1 g2 hP hS hv
  have hop : mx_obj c = some c' := hop
  obtain ⟨hx, hb, hml, hown, hts, -, hE, hbs, hfr, hlo⟩ := K
  unfold mx_obj at hop
  split at hop
  · next q st hst =>
    cases hc : Nat.ble (mx_cat st) 8 with
    | false => rw [hc] at hop; cases hop
    | true =>
      rw [hc] at hop
      have h := Option.some.inj hop
      subst h
      have hcat := Nat.le_of_ble_eq_true hc
      have g := hgo H locs ls g1 g2 hP hS hv
      rw [hpc] at g
      rw [hpc, hst, List.map_cons]
      refine W.objInit (own := y.cls) (idx := idx) hx hb hown (hts _ (mx_gt w1 h1 rfl)) (hts _ (mx_gt w2 h2 rfl)) (hts _ (mx_gt w3 h3 rfl)) rfl (hv.1.trans hml.symm) (a := mx_ad G q) (rest := st.map (mx_tr G)) rfl hd hfr ?_ g
      rw [mx_cat_eq]
      show 2 * 0 + _ + 12 ≤ _
      omega
  · cases hop
theorem mx_ia_inv {M : mx_M} {q : Nat} {f : Nat × (Nat → Int32)} (h : mx_ia M q = some f) : M[q]? = some (.inr (0, f.1, .inl f.2)) := by
  unfold mx_ia at h
  split at h
  · next t n f' hq =>
    cases hb : Nat.beq t 0 with
    | false => rw [hb] at h; cases h
    | true =>
      rw [hb] at h
      have := Nat.eq_of_beq_eq_true hb
      subst this
      cases h
      rw [← mx_nth_eq]
      exact hq
  · cases h
theorem mx_copy_inv {c c' : mx_C} (h : mx_copy c = some c') : ∃ n dp q1 sp q0 st f g, c.2.2.1 = .int n :: .int dp :: .ref q1 :: .int sp :: .ref q0 :: st ∧ mx_ia c.2.2.2 q0 = some f ∧ mx_ia c.2.2.2 q1 = some g ∧ mx_inb sp 2000 = true ∧ mx_inb dp 2000 = true ∧ mx_inb n 2000 = true ∧ sp.toNatClampNeg + n.toNatClampNeg ≤ f.1 ∧ dp.toNatClampNeg + n.toNatClampNeg ≤ g.1 ∧ mx_cat st ≤ 8 ∧
    c' = (c.1 + 3, c.2.1, st, c.2.2.2.set q1 (.inr (0, g.1, .inl (va_cpy f.2 g.2 sp.toNatClampNeg dp.toNatClampNeg n.toNatClampNeg)))) := by
  unfold mx_copy at h
  split at h
  · next n dp q1 sp q0 st hst =>
    split at h
    · next f hf =>
      split at h
      · next g hg =>
        cases hb : mx_inb sp 2000 && (mx_inb dp 2000 && (mx_inb n 2000 && (Nat.ble (sp.toNatClampNeg + n.toNatClampNeg) f.1 && (Nat.ble (dp.toNatClampNeg + n.toNatClampNeg) g.1 && Nat.ble (mx_cat st) 8)))) with
        | false => rw [hb] at h; cases h
        | true =>
          rw [hb] at h
          simp only [Bool.and_eq_true] at hb
          obtain ⟨b1, b2, b3, b4, b5, b6⟩ := hb
          exact ⟨n, dp, q1, sp, q0, st, f, g, hst, hf, hg, b1, b2, b3, Nat.le_of_ble_eq_true b4, Nat.le_of_ble_eq_true b5, Nat.le_of_ble_eq_true b6, (Option.some.inj h).symm⟩
      · cases h
    · cases h
  · cases h
theorem ms_copy {idx : Nat} (w1 w2 w3 w4 : Nat) (hw1 : lw_tbl[w1]? = some (.methodLink y.cls idx arraycopyName)) (hw2 : lw_tbl[w2]? = some (.native arraycopyName)) (hw3 : lw_tbl[w3]? = some (.static arraycopyName)) (hw4 : lw_tbl[w4]? = some (.initialized "java/lang/System")) (hd : decode bytes pc = .ok (.invokestatic idx, 3)) : mx_Snd bytes nL y pc (64, a, b, L) := by
  intro G SA p l e R s m args below meth c0 Q L0 S0 K c c' hpc z1 z2 z3 z4 hop hgo H locs ls g1 g2 hP hS hv
  obtain ⟨n, dp, q1, sp, q0, st, f, g, e1, e2, e3, b1, b2, b3, b4, b5, b6, rfl⟩ := mx_copy_inv hop
  obtain ⟨hx, hb, hml, hown, hts, -, hE, hbs, hfr, hlo⟩ := K
  have ha0 := mx_ia_inv e2
  have ha1 := mx_ia_inv e3
  have hq0 : q0 < 1000 := Nat.lt_of_lt_of_le (mx_len_lt ha0) g1
  have hq1 : q1 < 1000 := Nat.lt_of_lt_of_le (mx_len_lt ha1) g1
  have h1 : ¬ sp < 0 := fun z => mx_inb_in b1 (Or.inl z)
  have h2 : ¬ dp < 0 := fun z => mx_inb_in b2 (Or.inl z)
  have h3 : ¬ n < 0 := fun z => mx_inb_in b3 (Or.inl z)
  rw [hpc, e1]
  simp only [List.map_cons]
  show W p l e R s m args below meth c0 H locs _ _ Q (F0 m pc ls (.int n :: .int dp :: .ref (mx_ad G q1) :: .int sp :: .ref (mx_ad G q0) :: _))
  rw [mx_ad_lt hq0, mx_ad_lt hq1]
  have nn : ∀ z : Int32, ¬ z < 0 → z.toInt = (z.toNatClampNeg : Int) := by
    intro z hz
    have hz0 : (0 : Int) ≤ z.toInt := by
      have := Int32.not_lt.mp hz
      simpa using Int32.le_iff_toInt_le.mp this
    show z.toInt = ((z.toInt.toNat : Nat) : Int)
    omega
  have hml' : c0.maxLocals = ls.size := hml.trans hv.1.symm
  intro T hT X
  have hc0 : H[G.1 + q0]? = some (vp_cell (G.2.2.1 0) (f.1, .inl f.2)) := hP q0 _ (mx_W_get ha0)
  have hc1 : H[G.1 + q1]? = some (vp_cell (G.2.2.1 0) (g.1, .inl g.2)) := hP q1 _ (mx_W_get ha1)
  have hT0 := mx_tys_at G (t := 0) (by decide)
  obtain ⟨-, k0, hk0, cm0, hkk0⟩ := (hE.1.2 0 _ hT0).1 f.1 (fun j => .int (f.2 j))
  obtain ⟨-, k1, hk1, cm1, hkk1⟩ := (hE.1.2 0 _ hT0).1 g.1 (fun j => .int (g.2 j))
  obtain ⟨vm', X', step⟩ := X.arraycopy hx hown (hts _ (mx_gt w1 hw1 rfl)) (hts _ (mx_gt w2 hw2 rfl)) (hts _ (mx_gt w3 hw3 rfl)) (hts _ (mx_gt w4 hw4 rfl)) (src := G.1 + q0) (dst := G.1 + q1) (cs := vp_cell (G.2.2.1 0) (f.1, .inl f.2)) (cd := vp_cell (G.2.2.1 0) (g.1, .inl g.2)) (srcPos := sp) (destPos := dp) (n := n) (by rw [hT]; exact hc0) (by rw [hT]; exact hc1)
    (fun _ h => by cases h) (fun _ h => by cases h) (fun h => by cases h) (fun h => by cases h) hk0 hk1 hkk0 hkk1 (by simp [refKind, mx_ty]) h1 h2 h3
    (by rw [nn sp h1, nn n h3]; show ¬ _ > ((arrV _ f.1 (fun j => .int (f.2 j))).slots.size : Int); rw [arrV_size]; omega)
    (by rw [nn dp h2, nn n h3]; show ¬ _ > ((arrV _ g.1 (fun j => .int (g.2 j))).slots.size : Int); rw [arrV_size]; omega)
    (fun vm₁ _ i hi => by
      have e : (vp_cell (G.2.2.1 0) (f.1, .inl f.2)).slots.getD (sp.toNatClampNeg + i) .null = .int (f.2 (sp.toNatClampNeg + i)) := by
        show (arrV _ f.1 (fun j => .int (f.2 j))).slots.getD _ _ = _
        rw [Array.getD_eq_getD_getElem?, arrV_read _ _ (by omega)]
        rfl
      refine ⟨?_, ?_⟩
      · rw [e]
        rfl
      · rw [e]
        exact trivial)
    (g := F0 m pc ls (.int n :: .int dp :: .ref (G.1 + q1) :: .int sp :: .ref (G.1 + q0) :: st.map (mx_tr G))) rfl (by rw [hml']) (rest := st.map (mx_tr G)) rfl (by rw [hb]; exact hd) hfr (by
      rw [mx_cat_eq]
      show 2 * 0 + _ + (nativeFrameWords "java/lang/System" "arraycopy" 5 + 11) ≤ _
      have : nativeFrameWords "java/lang/System" "arraycopy" 5 ≤ 20 := by decide
      omega)
  have e9 : copied (vp_cell (G.2.2.1 0) (f.1, .inl f.2)) (vp_cell (G.2.2.1 0) (g.1, .inl g.2)) sp dp n = vp_cell (G.2.2.1 0) (g.1, .inl (va_cpy f.2 g.2 sp.toNatClampNeg dp.toNatClampNeg n.toNatClampNeg)) := va_copied (fun z => .int z) _ _ f.2 g.2 b4
  rw [e9] at X' step
  have hl : G.1 + q1 < H.size := (Array.getElem?_eq_some_iff.mp hc1).1
  have hheap : ((T.setVm vm').setCell (G.1 + q1) (vp_cell (G.2.2.1 0) (g.1, .inl (va_cpy f.2 g.2 sp.toNatClampNeg dp.toNatClampNeg n.toNatClampNeg)))).heap = H.setIfInBounds (G.1 + q1) (vp_cell (G.2.2.1 0) (g.1, .inl (va_cpy f.2 g.2 sp.toNatClampNeg dp.toNatClampNeg n.toNatClampNeg))) := by rw [← hT]; rfl
  have oq : ∀ x : Nat, x ≠ G.1 + q1 → (H.setIfInBounds (G.1 + q1) (vp_cell (G.2.2.1 0) (g.1, .inl (va_cpy f.2 g.2 sp.toNatClampNeg dp.toNatClampNeg n.toNatClampNeg))))[x]? = H[x]? := fun x hx' => by simp [Array.getElem?_setIfInBounds, Ne.symm hx']
  have zl : (c.2.2.2.set q1 (.inr (0, g.1, .inl (va_cpy f.2 g.2 sp.toNatClampNeg dp.toNatClampNeg n.toNatClampNeg)))).length = c.2.2.2.length := List.length_set
  have zs : mx_sz (c.2.2.2.set q1 (.inr (0, g.1, .inl (va_cpy f.2 g.2 sp.toNatClampNeg dp.toNatClampNeg n.toNatClampNeg)))) = mx_sz c.2.2.2 := mx_sz_set ha1 rfl
  have gg : ∀ locs1 : List Loc, va_S (mx_A G) s.heap (H.setIfInBounds (G.1 + q1) (vp_cell (G.2.2.1 0) (g.1, .inl (va_cpy f.2 g.2 sp.toNatClampNeg dp.toNatClampNeg n.toNatClampNeg)))) locs1 → W p l e R s m args below meth c0 (H.setIfInBounds (G.1 + q1) (vp_cell (G.2.2.1 0) (g.1, .inl (va_cpy f.2 g.2 sp.toNatClampNeg dp.toNatClampNeg n.toNatClampNeg)))) locs1 (c.2.2.2.length - L0) (mx_sz c.2.2.2 - S0) Q (F0 m (pc + 3) ls (st.map (mx_tr G))) := by
    intro locs1 hS1
    have g5 := hgo _ locs1 ls (by rw [zl]; exact g1) (by rw [zl, Array.size_setIfInBounds]; exact g2) (mx_P_set hP ha1 (show (H.setIfInBounds (G.1 + q1) _)[G.1 + q1]? = some _ by simp [Array.getElem?_setIfInBounds, hl]) oq) hS1 hv
    have g6 : W p l e R s m args below meth c0 _ locs1 ((c.2.2.2.set q1 (.inr (0, g.1, .inl (va_cpy f.2 g.2 sp.toNatClampNeg dp.toNatClampNeg n.toNatClampNeg)))).length - L0) (mx_sz (c.2.2.2.set q1 (.inr (0, g.1, .inl (va_cpy f.2 g.2 sp.toNatClampNeg dp.toNatClampNeg n.toNatClampNeg)))) - S0) Q (F0 m (c.1 + 3) ls (st.map (mx_tr G))) := g5
    rw [zl, zs, hpc] at g6
    exact g6
  obtain ⟨t, a1, b1'⟩ := gg _ ⟨by simp; exact hS.1, fun x u1 u2 => by
      rw [oq x (fun e => u2 (by rw [e]; exact mx_A_in G q1))]
      exact hS.2.1 x u1 u2, fun x hx' => by
      rcases List.mem_append.mp hx' with h | h
      · exact hS.2.2 x h
      · obtain ⟨z, -, hz⟩ := List.mem_map.mp h
        rw [← hz]
        exact mx_A_in G q1⟩ _ hheap X'
  exact ⟨t, step t a1, b1'⟩
end MSN
end
section
/-! THE SMALL MACHINE RUNS -/
def mx_find (pc : Nat) : List (Nat × mx_I) → Option mx_I
  | [] => none
  | (k, i) :: r => bif Nat.beq k pc then some i else mx_find pc r
def mx_fetch (t : List (List (Nat × mx_I))) (pc : Nat) : Option mx_I := match mx_nth t (pc / 16) with
  | some ch => mx_find pc ch
  | none => none
theorem mx_find_mem {pc : Nat} {i : mx_I} : ∀ {l : List (Nat × mx_I)}, mx_find pc l = some i → (pc, i) ∈ l
  | [], h => by simp [mx_find] at h
  | (k, j) :: r, h => by
    unfold mx_find at h
    cases hb : Nat.beq k pc with
    | true =>
      rw [hb] at h
      have := Nat.eq_of_beq_eq_true hb
      subst this
      cases h
      exact List.mem_cons_self
    | false =>
      rw [hb] at h
      exact List.mem_cons_of_mem _ (mx_find_mem h)
theorem mx_fetch_mem {t : List (List (Nat × mx_I))} {pc : Nat} {i : mx_I} (h : mx_fetch t pc = some i) : ∃ ch ∈ t, (pc, i) ∈ ch := by
  unfold mx_fetch at h
  split at h
  · next ch hch => exact ⟨ch, List.mem_of_getElem? (by rw [← mx_nth_eq]; exact hch), mx_find_mem h⟩
  · cases h
/-- what a method's answer must fit: 0 any int, 1 a byte, 2 a boolean, 3 a char -/
def mx_fit (a : Nat) (v : Int32) : Bool := match a with
  | 0 => true
  | 1 => vp_nar .byte v == v
  | 2 => vp_nar .boolean v == v
  | _ => vp_nar .char v == v
def mx_ret (i : mx_I) (st : List Value) : Option (Option Value) := match i.1 with
  | 80 => (match st with
    | [.int v] => bif mx_fit i.2.1 v then some (some (.int v)) else none
    | _ => none)
  | 81 => (match st with
    | [.long v] => some (some (.long v))
    | _ => none)
  | 82 => (match st with
    | [.ref v] => some (some (.ref v))
    | _ => none)
  | 83 => (match st with
    | [] => some none
    | _ => none)
  | _ => none
/-- the receiver is of the class that is asked for (98: any, 99: a string) -/
def mx_rcv1 (ci : Nat) (as : List Value) (M : mx_M) : Bool := match as with
  | .ref b :: _ => bif Nat.beq ci 98 then true else bif Nat.beq ci 99 then Nat.ble 1100 b && Nat.blt b 1114 else (match mx_nth M b with
    | some (.inl (cj, _)) => Nat.beq cj ci
    | _ => false)
  | _ => false
def mx_rcv (L : List Nat) (as : List Value) (M : mx_M) : Bool := match L with
  | [] => true
  | ci :: _ => mx_rcv1 ci as M
def mx_one (call : Nat → List Value → mx_M → Option Value → mx_M → Prop) (op : mx_I → mx_C → Option mx_C) (i : mx_I) (c : mx_C) (K : mx_C → Prop) (Kr : Option Value → mx_M → Prop) : Prop :=
  (i.1 < 70 ∧ ∃ c', op i c = some c' ∧ K c') ∨
  (i.1 = 70 ∧ ∃ (as rest : List Value) (r : Option Value) (M' : mx_M), c.2.2.1 = as.reverse ++ rest ∧ as.length = i.2.2.1 ∧ mx_cat rest ≤ 8 ∧ mx_rcv i.2.2.2 as c.2.2.2 = true ∧ call i.2.1 as c.2.2.2 r M' ∧ K (c.1 + 3, c.2.1, r.toList ++ rest, M')) ∨
  (80 ≤ i.1 ∧ ∃ r, mx_ret i c.2.2.1 = some r ∧ Kr r c.2.2.2)
def mx_run (call : Nat → List Value → mx_M → Option Value → mx_M → Prop) (op : mx_I → mx_C → Option mx_C) (t : List (List (Nat × mx_I))) : Nat → mx_C → Option Value → mx_M → Prop
  | 0, _, _, _ => False
  | n + 1, c, r, M => ∃ i, mx_fetch t c.1 = some i ∧ mx_one call op i c (fun c' => mx_run call op t n c' r M) (fun r' M' => r' = r ∧ M' = M)
/-- a method run from its start to its end, with calls less than d deep: the method's number, its arguments, the memory; what it answers, the memory behind it -/
def mx_Ev (SA : mx_S) (code : Nat → Nat × List (List (Nat × mx_I))) : Nat → Nat → List Value → mx_M → Option Value → mx_M → Prop
  | 0, _, _, _, _, _ => False
  | d + 1, k, as, M, r, M' => mx_cat as ≤ (code k).1 ∧ M.length ≤ 1000 ∧ ∃ n, mx_run (mx_Ev SA code d) (mx_op SA mx_SF mx_DF 14) (code k).2 n (0, lv_args 0 as, [], M) r M'
/-! memory only grows -/
theorem mm_dup {c c' : mx_C} (h : mx_dup c = some c') : c'.2.2.2 = c.2.2.2 := by
  unfold mx_dup at h
  split at h
  · next v st hst =>
    cases hb : mx_is2 v with
    | true => rw [hb] at h; cases h
    | false => rw [hb] at h; cases h; rfl
  · cases h
theorem mm_pop {c c' : mx_C} (h : mx_pop c = some c') : c'.2.2.2 = c.2.2.2 := by
  unfold mx_pop at h
  split at h
  · next v st hst =>
    cases hb : mx_is2 v with
    | true => rw [hb] at h; cases h
    | false => rw [hb] at h; cases h; rfl
  · cases h
theorem mm_dup2 {c c' : mx_C} (h : mx_dup2 c = some c') : c'.2.2.2 = c.2.2.2 := by
  unfold mx_dup2 at h
  split at h
  · next v w st hst =>
    cases hb : mx_is2 v || mx_is2 w with
    | true => rw [hb] at h; cases h
    | false => rw [hb] at h; cases h; rfl
  · cases h
theorem mm_alen {SA : mx_S} {c c' : mx_C} (h : mx_alen SA c = some c') : c'.2.2.2 = c.2.2.2 := by
  unfold mx_alen at h
  split at h
  · split at h
    · cases h; rfl
    · cases h
  · cases h
theorem mm_obj {c c' : mx_C} (h : mx_obj c = some c') : c'.2.2.2 = c.2.2.2 := by
  unfold mx_obj at h
  split at h
  · next q st hst =>
    cases hb : Nat.ble (mx_cat st) 8 with
    | true => rw [hb] at h; cases h; rfl
    | false => rw [hb] at h; cases h
  · cases h
theorem mm_push {v : Value} {n : Nat} {c c' : mx_C} (h : mx_push v n c = some c') : c'.2.2.2 = c.2.2.2 := by
  have h := Option.some.inj h
  subst h
  rfl
theorem mm_if {f : Int32 → Bool} {t : Nat} {c c' : mx_C} (h : mx_if f t c = some c') : c'.2.2.2 = c.2.2.2 := by
  unfold mx_if at h
  split at h
  · cases h; rfl
  · cases h
theorem mm_if2 {f : Int32 → Int32 → Bool} {t : Nat} {c c' : mx_C} (h : mx_if2 f t c = some c') : c'.2.2.2 = c.2.2.2 := by
  unfold mx_if2 at h
  split at h
  · cases h; rfl
  · cases h
theorem mm_sw {f : Int32 → Nat} {c c' : mx_C} (h : mx_sw f c = some c') : c'.2.2.2 = c.2.2.2 := by
  unfold mx_sw at h
  split at h
  · cases h; rfl
  · cases h
theorem mm_inc {a d : Nat} {c c' : mx_C} (h : mx_inc a d c = some c') : c'.2.2.2 = c.2.2.2 := by
  unfold mx_inc at h
  split at h
  · cases h; rfl
  · cases h
/-- how an instruction may change the memory -/
def mx_Mv (M M' : mx_M) : Prop := M' = M ∨ (∃ (q : Nat) (e0 e1 : mx_E), M[q]? = some e0 ∧ mx_szE e1 = mx_szE e0 ∧ M' = M.set q e1) ∨ (∃ e : mx_E, M.length < 999 ∧ M' = M ++ [e])
theorem mx_Mv.mono {M M' : mx_M} (h : mx_Mv M M') : (M.length ≤ M'.length ∧ mx_sz M ≤ mx_sz M') ∧ (M.length ≤ 1000 → M'.length ≤ 1000) := by
  rcases h with rfl | ⟨q, e0, e1, h0, hs, rfl⟩ | ⟨e, hl, rfl⟩
  · exact ⟨⟨Nat.le_refl _, Nat.le_refl _⟩, id⟩
  · rw [List.length_set, mx_sz_set h0 hs]
    exact ⟨⟨Nat.le_refl _, Nat.le_refl _⟩, id⟩
  · rw [mx_sz_app, List.length_append]
    exact ⟨⟨by simp, by omega⟩, fun _ => by simp; omega⟩
theorem mx_op_mv {SA : mx_S} {SF : List mx_F} {DF : List (List Value)} {N : Nat} {i : mx_I} {c c' : mx_C} (h : mx_op SA SF DF N i c = some c') : mx_Mv c.2.2.2 c'.2.2.2 := by
  unfold mx_op at h
  split at h
  · exact Or.inl (mm_push h)
  · exact Or.inl (mm_push h)
  · obtain ⟨v, -, -, rfl⟩ := mx_ldi_inv h; exact Or.inl rfl
  · obtain ⟨v, -, -, rfl⟩ := mx_ldl_inv h; exact Or.inl rfl
  · obtain ⟨v, -, -, rfl⟩ := mx_lda_inv h; exact Or.inl rfl
  · obtain ⟨v, st, -, -, rfl⟩ := mx_sti_inv h; exact Or.inl rfl
  · obtain ⟨v, st, -, -, rfl⟩ := mx_stl_inv h; exact Or.inl rfl
  · obtain ⟨v, st, -, -, rfl⟩ := mx_sta_inv h; exact Or.inl rfl
  · exact Or.inl (mm_inc h)
  · obtain ⟨x, z, v, st, -, -, rfl⟩ := mx_ii_inv h; exact Or.inl rfl
  · obtain ⟨x, z, v, st, -, -, rfl⟩ := mx_ii_inv h; exact Or.inl rfl
  · obtain ⟨x, z, v, st, -, -, rfl⟩ := mx_ii_inv h; exact Or.inl rfl
  · obtain ⟨x, z, v, st, -, -, rfl⟩ := mx_ii_inv h; exact Or.inl rfl
  · obtain ⟨x, z, v, st, -, -, rfl⟩ := mx_ii_inv h; exact Or.inl rfl
  · obtain ⟨x, z, v, st, -, -, rfl⟩ := mx_ii_inv h; exact Or.inl rfl
  · obtain ⟨x, z, v, st, -, -, rfl⟩ := mx_ii_inv h; exact Or.inl rfl
  · obtain ⟨x, st, -, rfl⟩ := mx_i1_inv h; exact Or.inl rfl
  · obtain ⟨x, z, v, st, -, -, rfl⟩ := mx_ii_inv h; exact Or.inl rfl
  · obtain ⟨x, z, v, st, -, -, rfl⟩ := mx_ii_inv h; exact Or.inl rfl
  · obtain ⟨x, z, v, st, -, -, rfl⟩ := mx_ll_inv h; exact Or.inl rfl
  · obtain ⟨x, z, v, st, -, -, rfl⟩ := mx_ll_inv h; exact Or.inl rfl
  · obtain ⟨x, z, v, st, -, -, rfl⟩ := mx_ll_inv h; exact Or.inl rfl
  · obtain ⟨x, z, v, st, -, -, rfl⟩ := mx_ll_inv h; exact Or.inl rfl
  · obtain ⟨x, z, v, st, -, -, rfl⟩ := mx_ll_inv h; exact Or.inl rfl
  · obtain ⟨x, z, v, st, -, -, rfl⟩ := mx_ll_inv h; exact Or.inl rfl
  · obtain ⟨x, z, st, -, rfl⟩ := mx_li_inv h; exact Or.inl rfl
  · obtain ⟨x, z, st, -, rfl⟩ := mx_li_inv h; exact Or.inl rfl
  · obtain ⟨x, z, v, st, -, -, rfl⟩ := mx_ll_inv h; exact Or.inl rfl
  · obtain ⟨x, st, -, rfl⟩ := mx_i1_inv h; exact Or.inl rfl
  · obtain ⟨x, st, -, rfl⟩ := mx_l1_inv h; exact Or.inl rfl
  · obtain ⟨x, st, -, rfl⟩ := mx_i1_inv h; exact Or.inl rfl
  · obtain ⟨x, st, -, rfl⟩ := mx_i1_inv h; exact Or.inl rfl
  · obtain ⟨x, st, -, rfl⟩ := mx_i1_inv h; exact Or.inl rfl
  · exact Or.inl (mm_dup h)
  · exact Or.inl (mm_pop h)
  · exact Or.inl (mm_dup2 h)
  · exact Or.inl (mm_if h)
  · exact Or.inl (mm_if h)
  · exact Or.inl (mm_if h)
  · exact Or.inl (mm_if h)
  · exact Or.inl (mm_if h)
  · exact Or.inl (mm_if h)
  · exact Or.inl (mm_if2 h)
  · exact Or.inl (mm_if2 h)
  · exact Or.inl (mm_if2 h)
  · exact Or.inl (mm_if2 h)
  · exact Or.inl (mm_if2 h)
  · exact Or.inl (mm_if2 h)
  · cases h; exact Or.inl rfl
  · exact Or.inl (mm_sw h)
  · exact Or.inl (mm_sw h)
  · obtain ⟨q, st, fs, v, -, -, -, rfl⟩ := mx_get_inv h; exact Or.inl rfl
  · obtain ⟨i, st, -, -, rfl⟩ := mx_gstr_inv h; exact Or.inl rfl
  · obtain ⟨q, st, fs, v, -, h1, -, rfl⟩ := mx_put_inv h; exact Or.inr (Or.inl ⟨_, _, _, h1, by simp [mx_szE], rfl⟩)
  · obtain ⟨q, st, fs, v, -, h1, -, rfl⟩ := mx_putF_inv h; exact Or.inr (Or.inl ⟨_, _, _, h1, by simp [mx_szE], rfl⟩)
  · split at h
    · exact Or.inl (mm_push h)
    · cases h
  · cases hb : Nat.blt i.2.1 N with
    | true => rw [hb] at h; exact Or.inl (mm_push h)
    | false => rw [hb] at h; cases h
  · exact Or.inl (mm_alen h)
  · obtain ⟨i, q, st, x, -, -, -, rfl⟩ := mx_ald_inv h; exact Or.inl rfl
  · obtain ⟨v, i, q, st, n, f, -, h1, -, rfl⟩ := mx_ast_inv h; refine Or.inr (Or.inl ⟨_, _, _, h1, ?_, rfl⟩); rfl
  · obtain ⟨v, i, q, st, n, f, -, h1, -, rfl⟩ := mx_last_inv h; refine Or.inr (Or.inl ⟨_, _, _, h1, ?_, rfl⟩); rfl
  · split at h
    · obtain ⟨hl, rfl⟩ := mx_new_inv h; exact Or.inr (Or.inr ⟨_, hl, rfl⟩)
    · cases h
  · obtain ⟨n, st, -, hl, -, rfl⟩ := mx_newa_inv h; exact Or.inr (Or.inr ⟨_, hl, rfl⟩)
  · exact Or.inl (mm_obj h)
  · obtain ⟨n, dp, q1, sp, q0, st, f, g, -, -, h1, -, -, -, -, -, -, rfl⟩ := mx_copy_inv h; refine Or.inr (Or.inl ⟨_, _, _, mx_ia_inv h1, ?_, rfl⟩); rfl
  · cases h
theorem mx_op_mono {SA : mx_S} {SF : List mx_F} {DF : List (List Value)} {N : Nat} {i : mx_I} {c c' : mx_C} (h : mx_op SA SF DF N i c = some c') : (c.2.2.2.length ≤ c'.2.2.2.length ∧ mx_sz c.2.2.2 ≤ mx_sz c'.2.2.2) ∧ (c.2.2.2.length ≤ 1000 → c'.2.2.2.length ≤ 1000) := (mx_op_mv h).mono
def mx_Gr (M M' : mx_M) : Prop := (M.length ≤ M'.length ∧ mx_sz M ≤ mx_sz M') ∧ (M.length ≤ 1000 → M'.length ≤ 1000)
theorem mx_Gr.trans {M M1 M2 : mx_M} (h : mx_Gr M M1) (h2 : mx_Gr M1 M2) : mx_Gr M M2 := ⟨⟨Nat.le_trans h.1.1 h2.1.1, Nat.le_trans h.1.2 h2.1.2⟩, fun z => h2.2 (h.2 z)⟩
theorem mx_Gr.rf (M : mx_M) : mx_Gr M M := ⟨⟨Nat.le_refl _, Nat.le_refl _⟩, id⟩
theorem mx_run_mono {call : Nat → List Value → mx_M → Option Value → mx_M → Prop} {SA : mx_S} {SF : List mx_F} {DF : List (List Value)} {N : Nat} {t : List (List (Nat × mx_I))} (hc : ∀ k as M r M', call k as M r M' → mx_Gr M M') {r : Option Value} {Mf : mx_M} : ∀ {n : Nat} {c : mx_C}, mx_run call (mx_op SA SF DF N) t n c r Mf → mx_Gr c.2.2.2 Mf
  | 0, _, h => h.elim
  | n + 1, c, h => by
    obtain ⟨i, -, h | h | h⟩ := h
    · obtain ⟨-, c', h1, h2⟩ := h
      exact mx_Gr.trans (mx_op_mono h1) (mx_run_mono hc h2)
    · obtain ⟨-, as, rest, r1, M1, -, -, -, -, h1, h2⟩ := h
      exact mx_Gr.trans (hc _ _ _ _ _ h1) (mx_run_mono hc h2)
    · obtain ⟨-, r1, -, rfl, h2⟩ := h
      rw [h2]
      exact mx_Gr.rf _
theorem mx_Ev_mono {SA : mx_S} {code : Nat → Nat × List (List (Nat × mx_I))} : ∀ (d k : Nat) (as : List Value) (M : mx_M) (r : Option Value) (M' : mx_M), mx_Ev SA code d k as M r M' → mx_Gr M M'
  | 0, _, _, _, _, _, h => h.elim
  | d + 1, k, as, M, r, M', h => by
    obtain ⟨-, -, n, h⟩ := h
    exact mx_run_mono (mx_Ev_mono d) h
end
section
/-! A METHOD'S RUN IS A CONTRACT -/
abbrev mx_Q : Type := MethodName × ByteArray × Nat × Option FieldType
def mx_wd (q : mx_Q) : List Cond := .code q.1 q.2.1 q.2.2.1 q.2.2.2 :: mx_GT
def mx_rm (d : Nat) (M M' : mx_M) : Room := { frames := d, cells := M'.length - M.length, slots := mx_sz M' - mx_sz M, locals := 40 * d }
def mx_Pc (G : mx_G) (SA : mx_S) (as : List Value) (M : mx_M) : Array Value → State → Prop := fun v U => v = (as.map (mx_tr G)).toArray ∧ U.heap.size = G.1 + M.length ∧ va_P G.2.2.2 vwCl (mx_W G M) U.heap ∧ mx_Env G SA mx_SF mx_SR U U.heap
def mx_Qc (G : mx_G) (r : Option Value) (M' : mx_M) : Array Value → State → Outcome → State → Prop := fun _ st oc t => oc = .returned (r.map (mx_tr G)) ∧ t.heap.size = G.1 + M'.length ∧ va_P G.2.2.2 vwCl (mx_W G M') t.heap ∧ va_F (mx_A G) st t
theorem mx_Pc_blind (G : mx_G) (SA : mx_S) (as : List Value) (M : mx_M) : FrameBlind (mx_Pc G SA as M) := fun a U g mk h => ⟨h.1, h.2.1, h.2.2.1, mx_Env_same (U := U.calling g mk a) h.2.2.2 rfl⟩
/-- what is known of a method -/
def mx_Mok (q : mx_Q) : Prop := plainName q.1.cls = true ∧ q.2.2.1 ≤ 21 ∧ Cond.code q.1 q.2.1 q.2.2.1 q.2.2.2 ∈ mx_GT ∧ Cond.initialized q.1.cls ∈ mx_GT ∧ q.1.cls ≠ "java/lang/invoke/MethodHandle" ∧ q.1.cls ≠ "java/lang/invoke/VarHandle"
theorem mx_good {w : Cond} (h : w ∈ mx_GT) : goodWord w = true := (List.mem_filter.mp h).2
theorem mx_wd_good {q : mx_Q} (h : mx_Mok q) : GoodIn mx_GT (mx_wd q) := by
  intro w hw
  rcases List.mem_cons.mp hw with rfl | hw
  · exact ⟨h.2.2.1, good_of_word (mx_good h.2.2.1)⟩
  · exact ⟨hw, good_of_word (mx_good hw)⟩
section MXC
variable {p : Program} {l : Launch} {e : Env} {R : Room} {s : State} {m : MethodId} {args : Array Value} {below : List Frame} {meth : Method} {c0 : Code} {H : Heap} {locs : List Loc} {cells slots mc ms : Nat} {Q : State → Prop} {pc : Nat} {ls : Array Slot} {rest st0 : List Value} {G : mx_G} {SA : mx_S}
theorem mx_callW {r : Option Value} {M' : mx_M} {a : Array Value} (hr : va_Run p l e R s m args below meth c0 H locs cells slots mc ms (F0 m pc ls st0) rest (mx_Qc G r M' a) (mx_A G)) (hS : va_S (mx_A G) s.heap H locs)
    (kk : ∀ (H1 : Heap) (locs1 : List Loc), H1.size = G.1 + M'.length → va_P G.2.2.2 vwCl (mx_W G M') H1 → va_S (mx_A G) s.heap H1 locs1 → W p l e R s m args below meth c0 H1 locs1 (cells + mc) (slots + ms) Q (F0 m (pc + 3) ls ((r.map (mx_tr G)).toList ++ rest))) : W p l e R s m args below meth c0 H locs cells slots Q (F0 m pc ls st0) := by
  intro T hT X
  obtain ⟨v, st₀, t, T', L, h0, X', hL, e1, e2, ⟨hv, hz, hP, hF⟩, st⟩ := hr T hT X
  have hv : v = r.map (mx_tr G) := by cases hv; rfl
  subst hv
  rw [← e1] at hz hP
  obtain ⟨f1, f2⟩ := hF
  rw [h0, ← e1] at f1
  rw [h0, ← e1] at f2
  obtain ⟨t2, a1, b1⟩ := kk T'.heap (locs ++ L) hz hP ⟨Nat.le_trans hS.1 f1, fun q h1 h2 => by rw [f2 q (Nat.lt_of_lt_of_le h1 hS.1) h2]; exact hS.2.1 q h1 h2, fun q hq => by
    rcases List.mem_append.mp hq with h | h
    · exact hS.2.2 q h
    · exact hL q h⟩ T' rfl X'
  exact ⟨t2, st t2 a1, b1⟩
end MXC
/-- how a class names a method: by a link of its own, or of its nest -/
def mx_ml (own : String) (idx : Nat) (x : MethodName) (w : Nat) (host : Option String) : Prop := match host with
  | none => lw_tbl[w]? = some (.methodLink own idx x)
  | some h => lw_tbl[w]? = some (.methodLinkNest own idx x h)
theorem mx_ml_nest {own : String} {idx : Nat} {x : MethodName} {w : Nat} {h : String} (hl : mx_ml own idx x w (some h)) : Cond.methodLinkNest own idx x h ∈ mx_NT :=
  List.mem_filter.mpr ⟨List.mem_of_getElem? hl, rfl⟩
def mx_np (y : MethodName) (n : Nat) : Prop := (parseMethodDescriptor y.desc).map (fun d => d.parameters.length) = some n
/-- a call that the tables allow: a static method, a constructor, a method of an object, a method of a string -/
def mx_Cal (bytes : ByteArray) (y : MethodName) (pc : Nat) (i : mx_I) (q : mx_Q) : Prop :=
  mx_Mok q ∧ ∃ (idx w : Nat) (host : Option String), mx_ml y.cls idx q.1 w host ∧
  ((i.2.2.2 = [] ∧ decode bytes pc = .ok (.invokestatic idx, 3) ∧ mx_np q.1 i.2.2.1 ∧ Cond.static q.1 ∈ mx_GT) ∨
   (i.2.2.2 = [98] ∧ decode bytes pc = .ok (.invokespecial idx, 3) ∧ (∃ n, i.2.2.1 = n + 1 ∧ mx_np q.1 n) ∧ Cond.instanceMethod q.1 ∈ mx_GT ∧ q.1.name = "<init>" ∧ q.2.2.2 = none) ∨
   (∃ (ci : Nat) (T : u_T) (N : Nat), ci < 98 ∧ i.2.2.2 = [ci] ∧ vwCl[ci]? = some (q.1.cls, T, N) ∧ decode bytes pc = .ok (.invokevirtual idx, 3) ∧ (∃ n, i.2.2.1 = n + 1 ∧ mx_np q.1 n) ∧ Cond.instanceMethod q.1 ∈ mx_GT ∧ Cond.selects q.1.cls q.1 q.1 ∈ mx_GT) ∨
   (i.2.2.2 = [99] ∧ q.1.cls = "java/lang/String" ∧ host = none ∧ decode bytes pc = .ok (.invokevirtual idx, 3) ∧ (∃ n, i.2.2.1 = n + 1 ∧ mx_np q.1 n) ∧ Cond.instanceMethod q.1 ∈ mx_GT ∧ Cond.selects q.1.cls q.1 q.1 ∈ mx_GT))
theorem mx_ad_str (G : mx_G) (b : Nat) : mx_ad G (1100 + b) = G.2.1 (100 + b) := by
  rw [show 1100 + b = 1000 + (100 + b) by omega]
  exact mx_ad_ge
theorem mx_stk (G : mx_G) (b : Nat) (as' rest : List Value) : ((Value.ref b :: as').map (mx_tr G)).reverse ++ rest.map (mx_tr G) = (as'.map (mx_tr G)).reverse ++ .ref (mx_ad G b) :: rest.map (mx_tr G) := by
  rw [List.map_cons, List.reverse_cons, List.append_assoc]
  rfl
theorem mx_rcv_ref {as : List Value} {M : mx_M} (h0 : mx_rcv [98] as M = true) : ∃ b as', as = .ref b :: as' := by
  have h : mx_rcv1 98 as M = true := h0
  unfold mx_rcv1 at h
  split  at h
  · next b as' => exact ⟨b, as', rfl⟩
  · cases h
theorem mx_rcv_obj {ci : Nat} {as : List Value} {M : mx_M} (hci : ci < 98) (h0 : mx_rcv [ci] as M = true) : ∃ b as' fs, as = .ref b :: as' ∧ M[b]? = some (.inl (ci, fs)) := by
  have h : mx_rcv1 ci as M = true := h0
  unfold mx_rcv1 at h
  split  at h
  · next b as' =>
    have e1 : Nat.beq ci 98 = false := by
      cases hb : Nat.beq ci 98 with
      | false => rfl
      | true => have := Nat.eq_of_beq_eq_true hb; omega
    have e2 : Nat.beq ci 99 = false := by
      cases hb : Nat.beq ci 99 with
      | false => rfl
      | true => have := Nat.eq_of_beq_eq_true hb; omega
    rw [e1, e2] at h
    simp only [cond_false] at h
    split at h
    · next cj fs hq =>
      have := Nat.eq_of_beq_eq_true h
      subst this
      exact ⟨b, as', fs, rfl, by rw [← mx_nth_eq]; exact hq⟩
    · cases h
  · cases h
theorem mx_rcv_str {as : List Value} {M : mx_M} (h0 : mx_rcv [99] as M = true) : ∃ b as', as = .ref (1100 + b) :: as' ∧ b < 14 := by
  have h : mx_rcv1 99 as M = true := h0
  unfold mx_rcv1 at h
  split  at h
  · next b as' =>
    have h : (Nat.ble 1100 b && Nat.blt b 1114) = true := h
    simp only [Bool.and_eq_true] at h
    have z1 : 1100 ≤ b := Nat.le_of_ble_eq_true h.1
    have z2 : b < 1100 + 14 := Nat.le_of_ble_eq_true h.2
    obtain ⟨e1, e2, -⟩ := mx_gs_ar z1 z2
    exact ⟨b - 1100, as', by rw [← e1], e2⟩
  · cases h
set_option maxHeartbeats 1000000 in
theorem mx_call_go {bytes : ByteArray} {nL : Nat} {y : MethodName} {pc : Nat} {i : mx_I} {q : mx_Q} (hcal : mx_Cal bytes y pc i q) {G : mx_G} {SA : mx_S} {p : Program} {l : Launch} {e : Env} {R : Room} {s : State} {m : MethodId} {args : Array Value} {below : List Frame} {meth : Method} {c0 : Code} {Q : State → Prop} {L0 S0 d : Nat}
    (K : mx_Ctx bytes nL y G SA p R s m args meth c0) (hfr : d + 1 ≤ R.frames) (hlo : 40 * d + 40 ≤ R.locals) {c : mx_C} (hpc : c.1 = pc) {as rest : List Value} {r : Option Value} {M' : mx_M} (hst : c.2.2.1 = as.reverse ++ rest) (hlen : as.length = i.2.2.1) (hcat : mx_cat rest ≤ 8) (hrc : mx_rcv i.2.2.2 as c.2.2.2 = true)
    (hM : Met l q.1 (mx_wd q) (mx_rm d c.2.2.2 M') (mx_Pc G SA as c.2.2.2) (mx_Qc G r M') (M'.length - c.2.2.2.length) (mx_sz M' - mx_sz c.2.2.2) (mx_A G)) (hgr : mx_Gr c.2.2.2 M') (hL : L0 ≤ c.2.2.2.length) (hS0 : S0 ≤ mx_sz c.2.2.2) (hc1 : M'.length ≤ R.cells + L0) (hc2 : mx_sz M' ≤ R.slots + S0)
    (hgo : mx_Go nL G p l e R s m args below meth c0 Q L0 S0 (c.1 + 3, c.2.1, r.toList ++ rest, M')) : mx_Go nL G p l e R s m args below meth c0 Q L0 S0 c := by
  intro H locs ls h1 h2 hP hS hv
  obtain ⟨⟨hpn, hnL, hcw, hini, hmh, hvh⟩, idx, w, host, hl, hk⟩ := hcal
  have hMok : mx_Mok q := ⟨hpn, hnL, hcw, hini, hmh, hvh⟩
  obtain ⟨hx, hb, hml, hown, hts, -, hE, hbs, -, -⟩ := K
  have hfix : CallFix p m c0 bytes nL s args mx_GT y.cls := ⟨hx, hb, hml, hown, hts⟩
  have hroom : (mx_rm d c.2.2.2 M').frames + 1 ≤ R.frames ∧ 8 + (q.2.2.1 + 11) + (mx_rm d c.2.2.2 M').locals ≤ R.locals := ⟨hfr, by show 8 + (q.2.2.1 + 11) + 40 * d ≤ _; omega⟩
  have hf : c.2.2.2.length - L0 + (M'.length - c.2.2.2.length) ≤ R.cells ∧ mx_sz c.2.2.2 - S0 + (mx_sz M' - mx_sz c.2.2.2) ≤ R.slots := by
    have := hgr.1
    exact ⟨by omega, by omega⟩
  have hcatr : ((rest.map (mx_tr G)).map fun v => v.category).sum ≤ 8 := by rw [mx_cat_eq]; exact hcat
  have hUp : ∀ U : State, U.heap = H → s.WarmedH U.vm → mx_Pc G SA as c.2.2.2 (as.map (mx_tr G)).toArray U := fun U hU hW =>
    ⟨rfl, by rw [hU]; exact h2, by rw [hU]; exact hP, by rw [hU]; exact mx_Env_kept hE hW (fun a z1 z2 => hS.2.1 a z1 z2)⟩
  have hend : ∀ (H1 : Heap) (locs1 : List Loc), H1.size = G.1 + M'.length → va_P G.2.2.2 vwCl (mx_W G M') H1 → va_S (mx_A G) s.heap H1 locs1 → W p l e R s m args below meth c0 H1 locs1 (c.2.2.2.length - L0 + (M'.length - c.2.2.2.length)) (mx_sz c.2.2.2 - S0 + (mx_sz M' - mx_sz c.2.2.2)) Q (F0 m (pc + 3) ls ((r.map (mx_tr G)).toList ++ rest.map (mx_tr G))) := by
    intro H1 locs1 z1 z2 z3
    have g := hgo H1 locs1 ls (hgr.2 h1) z1 z2 z3 hv
    have g2 : W p l e R s m args below meth c0 H1 locs1 (M'.length - L0) (mx_sz M' - S0) Q (F0 m (c.1 + 3) ls ((r.toList ++ rest).map (mx_tr G))) := g
    have e1 : c.2.2.2.length - L0 + (M'.length - c.2.2.2.length) = M'.length - L0 := by have := hgr.1; omega
    have e2 : mx_sz c.2.2.2 - S0 + (mx_sz M' - mx_sz c.2.2.2) = mx_sz M' - S0 := by have := hgr.1; omega
    rw [e1, e2, ← hpc]
    rw [List.map_append] at g2
    cases r with
    | none => exact g2
    | some v => exact g2
  have hdm : ∀ n, mx_np q.1 n → q.1.cls ≠ "java/lang/invoke/MethodHandle" ∧ q.1.cls ≠ "java/lang/invoke/VarHandle" ∧ (parseMethodDescriptor q.1.desc).map (fun d => d.parameters.length) = some n := fun n h => ⟨hmh, hvh, h⟩
  rw [hpc, hst, List.map_append, List.map_reverse]
  rcases hk with ⟨-, hd, hn, hs⟩ | ⟨eL, hd, ⟨n, en, hn⟩, hin, hnm, hret⟩ | ⟨ci, T, N, hci, eL, hcl, hd, ⟨n, en, hn⟩, hin, hsel⟩ | ⟨eL, hcS, hhost, hd, ⟨n, en, hn⟩, hin, hsel⟩
  · have hp : PreS s H (mx_Pc G SA as c.2.2.2) (as.map (mx_tr G)) := ⟨mx_Pc_blind G SA as _, hUp⟩
    have hn' : (as.map (mx_tr G)).length = i.2.2.1 := by rw [List.length_map]; exact hlen
    cases host with
    | none =>
      exact mx_callW (va_runS hfix hM ⟨callB_of (ws' := mx_GT) i.2.2.1 hts (mx_wd_good hMok) rfl rfl rfl (hts _ hini) (hts _ (mx_gt w hl rfl)) (hdm _ hn) hroom, hts _ hs⟩ hp rfl hn' hv.1 rfl (lv_room hcatr) hd hf) hS hend
    | some h =>
      exact mx_callW (va_runSN hfix hM ⟨va_cnB (ws' := mx_GT) i.2.2.1 hts (mx_wd_good hMok) rfl rfl rfl (hE.2.1 _ (mx_ml_nest hl)) (hts _ hini) (hdm _ hn) hroom, hts _ hs, trivial⟩ hp rfl hn' hv.1 rfl (lv_room hcatr) hd hf) hS hend
  · rw [eL] at hrc
    obtain ⟨b, as', rfl⟩ := mx_rcv_ref hrc
    have hn' : (as'.map (mx_tr G)).length = n := by rw [List.length_map]; rw [en] at hlen; simpa using hlen
    have hp : PreS s H (mx_Pc G SA (.ref b :: as') c.2.2.2) (.ref (mx_ad G b) :: as'.map (mx_tr G)) := ⟨mx_Pc_blind G SA _ _, hUp⟩
    obtain ⟨qx, qb, qn, qr⟩ := q
    have hret : qr = none := hret
    subst hret
    rw [mx_stk]
    cases host with
    | none => exact mx_callW (va_runI hfix hM ⟨callB_of (ws' := mx_GT) n hts (mx_wd_good hMok) rfl rfl rfl (hts _ hini) (hts _ (mx_gt w hl rfl)) (hdm _ hn) hroom, hnm, hts _ hin⟩ hp rfl hn' hv.1 rfl (lv_room hcatr) hd hf) hS hend
    | some h => exact mx_callW (va_runIN hfix hM ⟨va_cnB (ws' := mx_GT) n hts (mx_wd_good hMok) rfl rfl rfl (hE.2.1 _ (mx_ml_nest hl)) (hts _ hini) (hdm _ hn) hroom, hnm, hts _ hin⟩ hp rfl hn' hv.1 rfl (lv_room hcatr) hd hf) hS hend
  · rw [eL] at hrc
    obtain ⟨b, as', fs, rfl, hbm⟩ := mx_rcv_obj hci hrc
    have hn' : (as'.map (mx_tr G)).length = n := by rw [List.length_map]; rw [en] at hlen; simpa using hlen
    have hb1 : b < 1000 := Nat.lt_of_lt_of_le (mx_len_lt hbm) h1
    have hrec := va_recv hE.1 hP hcl (mx_W_get hbm)
    rw [← mx_ad_lt hb1] at hrec
    have hp : PreV s H q.1.cls (mx_ad G b) (mx_Pc G SA (.ref b :: as') c.2.2.2) (as'.map (mx_tr G)) := ⟨mx_Pc_blind G SA _ _, hrec, hUp⟩
    rw [mx_stk]
    cases host with
    | none => exact mx_callW (va_runV hfix hM ⟨callB_of (ws' := mx_GT) n hts (mx_wd_good hMok) rfl rfl rfl (hts _ hini) (hts _ (mx_gt w hl rfl)) (hdm _ hn) hroom, hts _ hin, hts _ hsel⟩ hp rfl hn' hv.1 rfl (lv_room hcatr) hd hf) hS hend
    | some h => exact mx_callW (va_runVN hfix hM ⟨va_cnB (ws' := mx_GT) n hts (mx_wd_good hMok) rfl rfl rfl (hE.2.1 _ (mx_ml_nest hl)) (hts _ hini) (hdm _ hn) hroom, hts _ hin, hts _ hsel⟩ hp rfl hn' hv.1 rfl (lv_room hcatr) hd hf) hS hend
  · rw [eL] at hrc
    obtain ⟨b, as', rfl, hb1⟩ := mx_rcv_str hrc
    have hn' : (as'.map (mx_tr G)).length = n := by rw [List.length_map]; rw [en] at hlen; simpa using hlen
    have hb14 : b < mx_SR.length := hb1
    obtain ⟨-, hO, -, -⟩ := hE.2.2.2.2 b _ (List.getElem?_eq_getElem hb14)
    obtain ⟨cell, o1, o2, o3, -⟩ := hO.kept hS.2.1
    have ea := mx_ad_str G b
    have hrec : ∃ cellB : Cell, H[mx_ad G (1100 + b)]? = some cellB ∧ cellB.vm.isStatics = false ∧ s.vm.findClass q.1.cls = some cellB.cls := by
      rw [ea, hcS]
      exact ⟨cell, o1, o2, o3⟩
    have hp : PreV s H q.1.cls (mx_ad G (1100 + b)) (mx_Pc G SA (.ref (1100 + b) :: as') c.2.2.2) (as'.map (mx_tr G)) := ⟨mx_Pc_blind G SA _ _, hrec, hUp⟩
    subst hhost
    rw [mx_stk]
    exact mx_callW (va_runV hfix hM ⟨callB_of (ws' := mx_GT) n hts (mx_wd_good hMok) rfl rfl rfl (hts _ hini) (hts _ (mx_gt w hl rfl)) (hdm _ hn) hroom, hts _ hin, hts _ hsel⟩ hp rfl hn' hv.1 rfl (lv_room hcatr) hd hf) hS hend
end
section
/-! EVERY RUN OF THE SMALL MACHINE IS A RUN OF THE MACHINE -/
def mx_Rt (q : mx_Q) (pc : Nat) (i : mx_I) : Prop :=
  (i.1 = 80 ∧ decode q.2.1 pc = .ok (.ireturn, 1) ∧ ∃ ty, q.2.2.2 = some ty ∧ ∀ v, mx_fit i.2.1 v = true → narrow ty (.int v) = .int v) ∨
  (i.1 = 81 ∧ decode q.2.1 pc = .ok (.lreturn, 1) ∧ q.2.2.2 = some .long) ∨
  (i.1 = 82 ∧ decode q.2.1 pc = .ok (.areturn, 1) ∧ ∃ ty, q.2.2.2 = some ty ∧ mx_rt ty = true) ∨
  (i.1 = 83 ∧ decode q.2.1 pc = .ok (.return_, 1) ∧ q.2.2.2 = none)
/-- a place of a method's table is right -/
def mx_Ok (MT : Nat → Option mx_Q) (q : mx_Q) (pc : Nat) (i : mx_I) : Prop :=
  (i.1 < 70 → mx_Snd q.2.1 q.2.2.1 q.1 pc i) ∧ (i.1 = 70 → ∃ k, MT i.2.1 = some k ∧ mx_Cal q.2.1 q.1 pc i k) ∧ (80 ≤ i.1 → mx_Rt q pc i)
theorem mk_p {MT : Nat → Option mx_Q} {q : mx_Q} {pc : Nat} {i : mx_I} (h : mx_Snd q.2.1 q.2.2.1 q.1 pc i) (hi : Nat.blt i.1 70 = true) : mx_Ok MT q pc i := by
  have hlt : i.1 < 70 := Nat.le_of_ble_eq_true hi
  exact ⟨fun _ => h, fun z => by omega, fun z => by omega⟩
theorem mk_c {MT : Nat → Option mx_Q} {q : mx_Q} {pc a b : Nat} {L : List Nat} {k : mx_Q} (h1 : MT a = some k) (h2 : mx_Cal q.2.1 q.1 pc (70, a, b, L) k) : mx_Ok MT q pc (70, a, b, L) :=
  ⟨fun z => absurd (show 70 < 70 from z) (by omega), fun _ => ⟨k, h1, h2⟩, fun z => absurd (show 80 ≤ 70 from z) (by omega)⟩
theorem mk_r {MT : Nat → Option mx_Q} {q : mx_Q} {pc : Nat} {i : mx_I} (h : mx_Rt q pc i) (hi : Nat.ble 80 i.1 = true) : mx_Ok MT q pc i := by
  have hlt : 80 ≤ i.1 := Nat.le_of_ble_eq_true hi
  exact ⟨fun z => by omega, fun z => by omega, fun _ => h⟩
theorem mx_run_go {MT : Nat → Option mx_Q} {q : mx_Q} {t : List (List (Nat × mx_I))} {call : Nat → List Value → mx_M → Option Value → mx_M → Prop} {G : mx_G} {SA : mx_S} {p : Program} {l : Launch} {e : Env} {R : Room} {s : State} {m : MethodId} {args : Array Value} {below : List Frame} {meth : Method} {c0 : Code} {Q : State → Prop} {L0 S0 d : Nat} {r : Option Value} {Mf : mx_M}
    (K : mx_Ctx q.2.1 q.2.2.1 q.1 G SA p R s m args meth c0) (hok : ∀ ch ∈ t, ∀ e ∈ ch, mx_Ok MT q e.1 e.2)
    (hmono : ∀ k as M r M', call k as M r M' → mx_Gr M M')
    (hcall : ∀ k as M r M', call k as M r M' → ∀ z, MT k = some z → Met l z.1 (mx_wd z) (mx_rm d M M') (mx_Pc G SA as M) (mx_Qc G r M') (M'.length - M.length) (mx_sz M' - mx_sz M) (mx_A G))
    (hfr : d + 1 ≤ R.frames) (hlo : 40 * d + 40 ≤ R.locals) (hc1 : Mf.length ≤ R.cells + L0) (hc2 : mx_sz Mf ≤ R.slots + S0)
    (hfin : ∀ (pc : Nat) (i : mx_I) (st : List Value) (H : Heap) (locs : List Loc) (ls : Array Slot), mx_Ok MT q pc i → 80 ≤ i.1 → mx_ret i st = some r → H.size = G.1 + Mf.length → va_P G.2.2.2 vwCl (mx_W G Mf) H → va_S (mx_A G) s.heap H locs → W p l e R s m args below meth c0 H locs (Mf.length - L0) (mx_sz Mf - S0) Q (F0 m pc ls (st.map (mx_tr G)))) :
    ∀ (n : Nat) (c : mx_C), mx_run call (mx_op SA mx_SF mx_DF 14) t n c r Mf → L0 ≤ c.2.2.2.length → S0 ≤ mx_sz c.2.2.2 → mx_Go q.2.2.1 G p l e R s m args below meth c0 Q L0 S0 c := by
  intro n
  induction n with
  | zero => intro c h; exact h.elim
  | succ n ih =>
    intro c h hL hS
    obtain ⟨i, hf, h⟩ := h
    obtain ⟨ch, hch, hin⟩ := mx_fetch_mem hf
    have hO := hok ch hch _ hin
    rcases h with ⟨hi, c', h1, h2⟩ | ⟨hi, as, rest, r1, M1, h1, h2, h3, h4, h5, h6⟩ | ⟨hi, r1, h1, h2, h3⟩
    · have g1 := mx_op_mono h1
      have g2 := mx_run_mono hmono h2
      have gl := g1.1
      have gm := g2.1
      exact hO.1 hi G SA p l e R s m args below meth c0 Q L0 S0 K c c' rfl hL hS (by omega) (by omega) h1 (ih c' h2 (by omega) (by omega))
    · obtain ⟨k, k1, k2⟩ := hO.2.1 hi
      have g1 := hmono _ _ _ _ _ h5
      have g2 := mx_run_mono hmono h6
      have gl := g1.1
      have gm : M1.length ≤ Mf.length ∧ mx_sz M1 ≤ mx_sz Mf := g2.1
      exact mx_call_go k2 K hfr hlo rfl h1 h2 h3 h4 (hcall _ _ _ _ _ h5 k k1) g1 hL hS (by omega) (by omega) (ih _ h6 (show L0 ≤ M1.length by omega) (show S0 ≤ mx_sz M1 by omega))
    · intro H locs ls z1 z2 hP hS' hv
      subst h2
      have e3 : Mf = c.2.2.2 := h3.symm
      rw [e3] at hfin
      exact hfin c.1 i c.2.2.1 H locs ls hO hi h1 z2 hP hS'
theorem mx_ret_go {q : mx_Q} {G : mx_G} {p : Program} {l : Launch} {e : Env} {R : Room} {s : State} {m : MethodId} {args : Array Value} {below : List Frame} {meth : Method} {c0 : Code} {M' : mx_M} {cells slots : Nat} {pc : Nat} {i : mx_I} {st : List Value} {r : Option Value} {H : Heap} {locs : List Loc} {ls : Array Slot}
    (hx : p.tables.exec = Jvm.exec) (hb : c0.code = q.2.1) (hr : meth.sig.returnType = q.2.2.2) (hlocks : meth.locks = false) (hR : mx_Rt q pc i) (h : mx_ret i st = some r) (hz : H.size = G.1 + M'.length) (hP : va_P G.2.2.2 vwCl (mx_W G M') H) (hS : va_S (mx_A G) s.heap H locs) :
    W p l e R s m args below meth c0 H locs cells slots (MQ below (mx_Qc G r M') args s cells slots (mx_A G)) (F0 m pc ls (st.map (mx_tr G))) := by
  have hq : ∀ (v : Option Value) (t : State), v = r.map (mx_tr G) → t.heap = H → mx_Qc G r M' args s (.returned v) t := fun v t hv ht => ⟨by rw [hv], by rw [ht]; exact hz, by rw [ht]; exact hP, hS.F ht⟩
  obtain ⟨i1, i2, i3, i4⟩ := i
  rcases hR with ⟨e1, hd, ty, hty, hfit⟩ | ⟨e1, hd, hty⟩ | ⟨e1, hd, ty, hty, hrt⟩ | ⟨e1, hd, hty⟩
  · have e1 : i1 = 80 := e1
    subst e1
    match st, h with
    | [.int v], h =>
      have h : (bif mx_fit i2 v then some (some (.int v)) else none) = some r := h
      cases hf : mx_fit i2 v with
      | false => rw [hf] at h; cases h
      | true =>
        rw [hf] at h
        cases h
        exact W.zret hx hb (hr.trans hty) (hfit v hf) (fun t ht _ => hq _ t rfl ht) hS.2.2 hd hlocks
  · have e1 : i1 = 81 := e1
    subst e1
    match st, h with
    | [.long v], h =>
      have h : some (some (Value.long v)) = some r := h
      cases h
      exact W.lret hx hb (hr.trans hty) (fun t ht _ => hq _ t rfl ht) hS.2.2 hd hlocks
  · have e1 : i1 = 82 := e1
    subst e1
    match st, h with
    | [.ref v], h =>
      have h : some (some (Value.ref v)) = some r := h
      cases h
      exact W.aret hx hb (hr.trans hty) (by cases ty <;> first | exact Or.inl ⟨_, rfl⟩ | exact Or.inr ⟨_, rfl⟩ | cases hrt) (Or.inr ⟨_, rfl⟩) (fun t ht _ => hq _ t rfl ht) hS.2.2 hd hlocks
  · have e1 : i1 = 83 := e1
    subst e1
    match st, h with
    | [], h =>
      have h : some (none : Option Value) = some r := h
      cases h
      exact W.vret hx hb (hr.trans hty) (fun t ht _ => hq _ t rfl ht) hS.2.2 hd hlocks
theorem mx_args_tr (G : mx_G) : ∀ (as : List Value) (k : Nat), (lv_args k as).map (mx_tq G) = lv_args k (as.map (mx_tr G))
  | [], _ => rfl
  | v :: as, k => by
    simp only [lv_args, List.map_cons, mx_tr_cat]
    rw [mx_args_tr G as]
    rfl
theorem mx_sl_len (G : mx_G) : ∀ as : List Value, (lg_sl (as.map (mx_tr G))).length = mx_cat as
  | [] => rfl
  | v :: as => by
    have ih := mx_sl_len G as
    unfold lg_sl at ih ⊢
    rw [List.map_cons, List.flatMap_cons, List.length_append, ih]
    show _ = (bif mx_is2 v then 2 else 1) + mx_cat as
    rw [mx_tr_cat]
    cases v <;> rfl
set_option maxHeartbeats 1000000 in
theorem mx_sound (l : Launch) (G : mx_G) (SA : mx_S) {MT : Nat → Option mx_Q} {code : Nat → Nat × List (List (Nat × mx_I))} (hMT : ∀ k q, MT k = some q → mx_Mok q ∧ (code k).1 = q.2.2.1 ∧ ∀ ch ∈ (code k).2, ∀ e ∈ ch, mx_Ok MT q e.1 e.2) :
    ∀ (d k : Nat) (as : List Value) (M : mx_M) (r : Option Value) (M' : mx_M), mx_Ev SA code d k as M r M' → ∀ q, MT k = some q → Met l q.1 (mx_wd q) (mx_rm d M M') (mx_Pc G SA as M) (mx_Qc G r M') (M'.length - M.length) (mx_sz M' - mx_sz M) (mx_A G) := by
  intro d
  induction d with
  | zero => intro k as M r M' h; exact h.elim
  | succ d ih =>
    intro k as M r M' h q hq
    obtain ⟨hMok, hnl, hok⟩ := hMT k q hq
    have hgr := mx_Ev_mono (d + 1) _ _ _ _ _ h
    obtain ⟨hcat, hlen, n, hrun⟩ := h
    rw [hnl] at hcat
    refine Met.ofW (cc := q.2.1) (maxL := q.2.2.1) (ret := q.2.2.2) hMok.1 rfl ?_
    intro p e s m args below meth c s₁ B hml hv
    obtain ⟨rfl, hsz, hP, hE⟩ := hv
    have hts := atoms_spec (ws := mx_wd q) B.pre
    have K : mx_Ctx q.2.1 q.2.2.1 q.1 G SA p (headSpec (mx_wd q) (mx_rm (d + 1) M M')).room s m (as.map (mx_tr G)).toArray meth c :=
      ⟨B.exec, B.bytes, hml, findClass_of_methodNamed B.named, fun w hw => hts w (List.mem_cons_of_mem _ hw), fun z => by rw [(name_of_methodNamed B.named B.method).1]; exact z, hE, by rw [hsz]; omega, by show 1 ≤ d + 1; omega, by show 40 ≤ 40 * (d + 1); omega⟩
    rw [lg_entry_eq]
    have hl := lv_entry (as.map (mx_tr G)) (n := q.2.2.1) (by rw [mx_sl_len]; exact hcat)
    generalize (lg_sl (as.map (mx_tr G)) ++ List.replicate (q.2.2.1 - (lg_sl (as.map (mx_tr G))).length) Slot.unset).toArray = ls at hl ⊢
    have hgl := hgr.1
    have g := mx_run_go (L0 := M.length) (S0 := mx_sz M) (d := d) (below := below) (l := l) (e := e) (Q := MQ below (mx_Qc G r M') (as.map (mx_tr G)).toArray s (M'.length - M.length) (mx_sz M' - mx_sz M) (mx_A G)) K hok (mx_Ev_mono d) (fun k2 as2 M2 r2 M2' h2 z hz => ih k2 as2 M2 r2 M2' h2 z hz) (by show d + 1 ≤ d + 1; omega) (by show 40 * d + 40 ≤ 40 * (d + 1); omega) (by show M'.length ≤ M'.length - M.length + M.length; omega) (by show mx_sz M' ≤ mx_sz M' - mx_sz M + mx_sz M; omega)
      (fun pc i st H locs ls hO hi hre hz hP' hS' => mx_ret_go B.exec B.bytes B.returns B.notSynchronized (hO.2.2 hi) hre hz hP' hS') n _ hrun (Nat.le_refl _) (Nat.le_refl _)
    have g2 := g s.heap [] ls hlen hsz hP va_S.rf (by rw [mx_args_tr]; exact hl)
    have g3 : W p l e (headSpec (mx_wd q) (mx_rm (d + 1) M M')).room s m (as.map (mx_tr G)).toArray below meth c s.heap [] (M.length - M.length) (mx_sz M - mx_sz M) _ (F0 m 0 ls []) := g2
    rw [Nat.sub_self, Nat.sub_self] at g3
    exact g3
end
section
/-! THE METHODS, BY THEIR NUMBERS: printed with the claim -/
theorem mx_c0 : mx_Cls 0 RX0 TX0 12 tyX0 := ⟨rfl, mx_w0, tyX0_ok, nmX0⟩
theorem mn_0 {bytes : ByteArray} {nL : Nat} {y : MethodName} {pc b : Nat} {L : List Nat} {idx : Nat} (w : Nat) (h : lw_tbl[w]? = some (.classLink y.cls idx RX0)) (hd : decode bytes pc = .ok (.new idx, 3)) : mx_Snd bytes nL y pc (61, 0, b, L) := ms_new (fs := [.int 0, .null, .null, .null, .null, .null, .null, .null, .null, .null, .null, .null]) w 106 78 mx_c0 rfl rfl rfl (by decide +kernel) h (by decide +kernel) (by decide +kernel) hd
theorem mx_c1 : mx_Cls 1 RX1 TX1 10 tyX1 := ⟨rfl, mx_w1, tyX1_ok, nmX1⟩
theorem mn_1 {bytes : ByteArray} {nL : Nat} {y : MethodName} {pc b : Nat} {L : List Nat} {idx : Nat} (w : Nat) (h : lw_tbl[w]? = some (.classLink y.cls idx RX1)) (hd : decode bytes pc = .ok (.new idx, 3)) : mx_Snd bytes nL y pc (61, 1, b, L) := ms_new (fs := [.null, .null, .null, .null, .null, .null, .null, .null, .null, .int 0]) w 413 86 mx_c1 rfl rfl rfl (by decide +kernel) h (by decide +kernel) (by decide +kernel) hd
theorem mx_c2 : mx_Cls 2 RX2 TX2 7 tyX2 := ⟨rfl, mx_w2, tyX2_ok, nmX2⟩
theorem mn_2 {bytes : ByteArray} {nL : Nat} {y : MethodName} {pc b : Nat} {L : List Nat} {idx : Nat} (w : Nat) (h : lw_tbl[w]? = some (.classLink y.cls idx RX2)) (hd : decode bytes pc = .ok (.new idx, 3)) : mx_Snd bytes nL y pc (61, 2, b, L) := ms_new (fs := [.null, .int 0, .null, .null, .null, .null, .null]) w 383 85 mx_c2 rfl rfl rfl (by decide +kernel) h (by decide +kernel) (by decide +kernel) hd
theorem mx_c3 : mx_Cls 3 RX3 TX3 6 tyX3 := ⟨rfl, mx_w3, tyX3_ok, nmX3⟩
theorem mn_3 {bytes : ByteArray} {nL : Nat} {y : MethodName} {pc b : Nat} {L : List Nat} {idx : Nat} (w : Nat) (h : lw_tbl[w]? = some (.classLink y.cls idx RX3)) (hd : decode bytes pc = .ok (.new idx, 3)) : mx_Snd bytes nL y pc (61, 3, b, L) := ms_new (fs := [.null, .null, .null, .null, .int 0, .int 0]) w 470 88 mx_c3 rfl rfl rfl (by decide +kernel) h (by decide +kernel) (by decide +kernel) hd
theorem mx_c4 : mx_Cls 4 RX4 TX4 3 tyX4 := ⟨rfl, mx_w4, tyX4_ok, nmX4⟩
theorem mn_4 {bytes : ByteArray} {nL : Nat} {y : MethodName} {pc b : Nat} {L : List Nat} {idx : Nat} (w : Nat) (h : lw_tbl[w]? = some (.classLink y.cls idx RX4)) (hd : decode bytes pc = .ok (.new idx, 3)) : mx_Snd bytes nL y pc (61, 4, b, L) := ms_new (fs := [.null, .null, .null]) w 452 87 mx_c4 rfl rfl rfl (by decide +kernel) h (by decide +kernel) (by decide +kernel) hd
theorem mx_c5 : mx_Cls 5 RX5 TX5 6 tyX5 := ⟨rfl, mx_w5, tyX5_ok, nmX5⟩
theorem mn_5 {bytes : ByteArray} {nL : Nat} {y : MethodName} {pc b : Nat} {L : List Nat} {idx : Nat} (w : Nat) (h : lw_tbl[w]? = some (.classLink y.cls idx RX5)) (hd : decode bytes pc = .ok (.new idx, 3)) : mx_Snd bytes nL y pc (61, 5, b, L) := ms_new (fs := [.null, .null, .null, .null, .null, .int 0]) w 245 82 mx_c5 rfl rfl rfl (by decide +kernel) h (by decide +kernel) (by decide +kernel) hd
theorem mx_c6 : mx_Cls 6 RX6 TX6 2 tyX6 := ⟨rfl, mx_w6, tyX6_ok, nmX6⟩
theorem mn_6 {bytes : ByteArray} {nL : Nat} {y : MethodName} {pc b : Nat} {L : List Nat} {idx : Nat} (w : Nat) (h : lw_tbl[w]? = some (.classLink y.cls idx RX6)) (hd : decode bytes pc = .ok (.new idx, 3)) : mx_Snd bytes nL y pc (61, 6, b, L) := ms_new (fs := [.null, .int 0]) w 112 79 mx_c6 rfl rfl rfl (by decide +kernel) h (by decide +kernel) (by decide +kernel) hd
theorem mx_c7 : mx_Cls 7 RX7 TX7 3 tyX7 := ⟨rfl, mx_w7, tyX7_ok, nmX7⟩
theorem mn_7 {bytes : ByteArray} {nL : Nat} {y : MethodName} {pc b : Nat} {L : List Nat} {idx : Nat} (w : Nat) (h : lw_tbl[w]? = some (.classLink y.cls idx RX7)) (hd : decode bytes pc = .ok (.new idx, 3)) : mx_Snd bytes nL y pc (61, 7, b, L) := ms_new (fs := [.null, .null, .null]) w 500 89 mx_c7 rfl rfl rfl (by decide +kernel) h (by decide +kernel) (by decide +kernel) hd
theorem mx_c8 : mx_Cls 8 RX8 TX8 14 tyX8 := ⟨rfl, mx_w8, tyX8_ok, nmX8⟩
theorem mn_8 {bytes : ByteArray} {nL : Nat} {y : MethodName} {pc b : Nat} {L : List Nat} {idx : Nat} (w : Nat) (h : lw_tbl[w]? = some (.classLink y.cls idx RX8)) (hd : decode bytes pc = .ok (.new idx, 3)) : mx_Snd bytes nL y pc (61, 8, b, L) := ms_new (fs := [.null, .null, .int 0, .null, .null, .null, .null, .null, .null, .null, .null, .null, .null, .null]) w 322 84 mx_c8 rfl rfl rfl (by decide +kernel) h (by decide +kernel) (by decide +kernel) hd
theorem mx_c9 : mx_Cls 9 RX9 TX9 12 tyX9 := ⟨rfl, mx_w9, tyX9_ok, nmX9⟩
theorem mn_9 {bytes : ByteArray} {nL : Nat} {y : MethodName} {pc b : Nat} {L : List Nat} {idx : Nat} (w : Nat) (h : lw_tbl[w]? = some (.classLink y.cls idx RX9)) (hd : decode bytes pc = .ok (.new idx, 3)) : mx_Snd bytes nL y pc (61, 9, b, L) := ms_new (fs := [.null, .null, .null, .null, .null, .null, .null, .null, .null, .null, .null, .int 0]) w 273 83 mx_c9 rfl rfl rfl (by decide +kernel) h (by decide +kernel) (by decide +kernel) hd
theorem mx_c10 : mx_Cls 10 RX10 TX10 8 tyX10 := ⟨rfl, mx_w10, tyX10_ok, nmX10⟩
theorem mn_10 {bytes : ByteArray} {nL : Nat} {y : MethodName} {pc b : Nat} {L : List Nat} {idx : Nat} (w : Nat) (h : lw_tbl[w]? = some (.classLink y.cls idx RX10)) (hd : decode bytes pc = .ok (.new idx, 3)) : mx_Snd bytes nL y pc (61, 10, b, L) := ms_new (fs := [.int 0, .null, .null, .null, .null, .null, .null, .null]) w 208 81 mx_c10 rfl rfl rfl (by decide +kernel) h (by decide +kernel) (by decide +kernel) hd
theorem mx_c11 : mx_Cls 11 RX11 TX11 10 tyX11 := ⟨rfl, mx_w11, tyX11_ok, nmX11⟩
theorem mn_11 {bytes : ByteArray} {nL : Nat} {y : MethodName} {pc b : Nat} {L : List Nat} {idx : Nat} (w : Nat) (h : lw_tbl[w]? = some (.classLink y.cls idx RX11)) (hd : decode bytes pc = .ok (.new idx, 3)) : mx_Snd bytes nL y pc (61, 11, b, L) := ms_new (fs := [.null, .null, .null, .null, .null, .null, .null, .null, .null, .null]) w 98 77 mx_c11 rfl rfl rfl (by decide +kernel) h (by decide +kernel) (by decide +kernel) hd
theorem mx_c12 : mx_Cls 12 RX12 TX12 78 tyX12 := ⟨rfl, mx_w12, tyX12_ok, nmX12⟩
theorem mn_12 {bytes : ByteArray} {nL : Nat} {y : MethodName} {pc b : Nat} {L : List Nat} {idx : Nat} (w : Nat) (h : lw_tbl[w]? = some (.classLink y.cls idx RX12)) (hd : decode bytes pc = .ok (.new idx, 3)) : mx_Snd bytes nL y pc (61, 12, b, L) := ms_new (fs := [.int 0, .int 0, .int 0, .null, .null, .int 0, .null, .null, .null, .null, .int 0, .null, .null, .null, .null, .int 0, .int 0, .null, .null, .null, .int 0, .int 0, .int 0, .int 0, .int 0, .int 0, .int 0, .int 0, .null, .null, .null, .null, .int 0, .null, .null, .null, .null, .null, .null, .null, .null, .int 0, .int 0, .null, .null, .null, .int 0, .null, .null, .null, .int 0, .null, .null, .null, .null, .null, .null, .null, .null, .null, .null, .null, .null, .int 0, .null, .null, .null, .null, .null, .null, .null, .int 0, .null, .null, .null, .null, .null, .null]) w 1335 94 mx_c12 rfl rfl rfl (by decide +kernel) h (by decide +kernel) (by decide +kernel) hd
theorem mx_fl_n {own : String} {idx : Nat} {q : String × String × String × Bool} {w : Nat} (h : lw_tbl[w]? = some (.fieldLink own idx q.1 q.2.1 q.2.2.1)) : mx_fl own idx q w none := h
theorem mx_fl_s {own : String} {idx : Nat} {q : String × String × String × Bool} {w : Nat} {z : String} (h : lw_tbl[w]? = some (.fieldLinkNest own idx q.1 q.2.1 q.2.2.1 z)) : mx_fl own idx q w (some z) := h
theorem mx_ml_n {own : String} {idx : Nat} {x : MethodName} {w : Nat} (h : lw_tbl[w]? = some (.methodLink own idx x)) : mx_ml own idx x w none := h
theorem mx_ml_s {own : String} {idx : Nat} {x : MethodName} {w : Nat} {z : String} (h : lw_tbl[w]? = some (.methodLinkNest own idx x z)) : mx_ml own idx x w (some z) := h
theorem mc_0 {P : Nat × mx_I → Prop} : ∀ e ∈ ([] : List (Nat × mx_I)), P e := fun _ h => absurd h List.not_mem_nil
theorem mc_1 {P : Nat × mx_I → Prop} {a : Nat × mx_I} {l : List (Nat × mx_I)} (h : P a) (t : ∀ e ∈ l, P e) : ∀ e ∈ a :: l, P e := List.forall_mem_cons.mpr ⟨h, t⟩
theorem mc_3 {P : List (Nat × mx_I) → Prop} : ∀ e ∈ ([] : List (List (Nat × mx_I))), P e := fun _ h => absurd h List.not_mem_nil
theorem mc_2 {P : List (Nat × mx_I) → Prop} {a : List (Nat × mx_I)} {l : List (List (Nat × mx_I))} (h : P a) (t : ∀ e ∈ l, P e) : ∀ e ∈ a :: l, P e := List.forall_mem_cons.mpr ⟨h, t⟩
theorem mf_0 : ∀ v : Int32, mx_fit 0 v = true → narrow .int (.int v) = .int v := fun _ _ => rfl
theorem mf_1 : ∀ v : Int32, mx_fit 1 v = true → narrow .byte (.int v) = .int v := fun v h => by
  have h2 : vp_nar .byte v = v := by simpa [mx_fit] using h
  show Value.int (vp_nar .byte v) = .int v
  rw [h2]
theorem mf_2 : ∀ v : Int32, mx_fit 2 v = true → narrow .boolean (.int v) = .int v := fun v h => by
  have h2 : vp_nar .boolean v = v := by simpa [mx_fit] using h
  show Value.int (vp_nar .boolean v) = .int v
  rw [h2]
theorem mf_3 : ∀ v : Int32, mx_fit 3 v = true → narrow .char (.int v) = .int v := fun v h => by
  have h2 : vp_nar .char v = v := by simpa [mx_fit] using h
  show Value.int (vp_nar .char v) = .int v
  rw [h2]
abbrev mq_0 : mx_Q := (⟨"LeagueOffice$Book", "<init>", "()V"⟩, prog_2_method_1_code, 1, none)
theorem mo_0 : mx_Mok mq_0 := ⟨rfl, by decide, mx_gt 109 (by decide +kernel) rfl, mx_gt 78 (by decide +kernel) rfl, by decide, by decide⟩
abbrev mq_1 : mx_Q := (⟨"LeagueOffice$Book", "isClub", "(I)Z"⟩, prog_2_method_2_code, 2, (some .boolean))
theorem mo_1 : mx_Mok mq_1 := ⟨rfl, by decide, mx_gt 750 (by decide +kernel) rfl, mx_gt 78 (by decide +kernel) rfl, by decide, by decide⟩
abbrev mq_2 : mx_Q := (⟨"LeagueOffice$Book", "isGame", "(I)Z"⟩, prog_2_method_3_code, 2, (some .boolean))
theorem mo_2 : mx_Mok mq_2 := ⟨rfl, by decide, mx_gt 782 (by decide +kernel) rfl, mx_gt 78 (by decide +kernel) rfl, by decide, by decide⟩
abbrev mq_3 : mx_Q := (⟨"LeagueOffice$Book", "hasCome", "(I)Z"⟩, prog_2_method_4_code, 2, (some .boolean))
theorem mo_3 : mx_Mok mq_3 := ⟨rfl, by decide, mx_gt 813 (by decide +kernel) rfl, mx_gt 78 (by decide +kernel) rfl, by decide, by decide⟩
abbrev mq_4 : mx_Q := (⟨"LeagueOffice$Book", "isIn", "(II)Z"⟩, prog_2_method_5_code, 3, (some .boolean))
theorem mo_4 : mx_Mok mq_4 := ⟨rfl, by decide, mx_gt 1117 (by decide +kernel) rfl, mx_gt 78 (by decide +kernel) rfl, by decide, by decide⟩
abbrev mq_5 : mx_Q := (⟨"LeagueOffice$Book", "plays", "(II)Z"⟩, prog_2_method_6_code, 3, (some .boolean))
theorem mo_5 : mx_Mok mq_5 := ⟨rfl, by decide, mx_gt 1020 (by decide +kernel) rfl, mx_gt 78 (by decide +kernel) rfl, by decide, by decide⟩
abbrev mq_6 : mx_Q := (⟨"LeagueOffice$Book", "doesCount", "(I)Z"⟩, prog_2_method_7_code, 2, (some .boolean))
theorem mo_6 : mx_Mok mq_6 := ⟨rfl, by decide, mx_gt 869 (by decide +kernel) rfl, mx_gt 78 (by decide +kernel) rfl, by decide, by decide⟩
abbrev mq_7 : mx_Q := (⟨"LeagueOffice$Book", "doesServe", "(I)Z"⟩, prog_2_method_8_code, 2, (some .boolean))
theorem mo_7 : mx_Mok mq_7 := ⟨rfl, by decide, mx_gt 1024 (by decide +kernel) rfl, mx_gt 78 (by decide +kernel) rfl, by decide, by decide⟩
abbrev mq_8 : mx_Q := (⟨"LeagueOffice$Book", "isLate", "(I)I"⟩, prog_2_method_9_code, 2, (some .int))
theorem mo_8 : mx_Mok mq_8 := ⟨rfl, by decide, mx_gt 888 (by decide +kernel) rfl, mx_gt 78 (by decide +kernel) rfl, by decide, by decide⟩
abbrev mq_9 : mx_Q := (⟨"LeagueOffice$Book", "addGame", "(IIII)I"⟩, prog_2_method_10_code, 8, (some .int))
theorem mo_9 : mx_Mok mq_9 := ⟨rfl, by decide, mx_gt 764 (by decide +kernel) rfl, mx_gt 78 (by decide +kernel) rfl, by decide, by decide⟩
abbrev mq_10 : mx_Q := (⟨"LeagueOffice$Book", "addResult", "(III)I"⟩, prog_2_method_11_code, 4, (some .int))
theorem mo_10 : mx_Mok mq_10 := ⟨rfl, by decide, mx_gt 805 (by decide +kernel) rfl, mx_gt 78 (by decide +kernel) rfl, by decide, by decide⟩
abbrev mq_11 : mx_Q := (⟨"LeagueOffice$Book", "learn", "(I)V"⟩, prog_2_method_12_code, 3, none)
theorem mo_11 : mx_Mok mq_11 := ⟨rfl, by decide, mx_gt 817 (by decide +kernel) rfl, mx_gt 78 (by decide +kernel) rfl, by decide, by decide⟩
abbrev mq_12 : mx_Q := (⟨"LeagueOffice$Chances", "<init>", "(LLeagueOffice$Book;LLeagueOffice$Texts;LLeagueOffice$Tables;)V"⟩, prog_3_method_1_code, 4, none)
theorem mo_12 : mx_Mok mq_12 := ⟨rfl, by decide, mx_gt 416 (by decide +kernel) rfl, mx_gt 86 (by decide +kernel) rfl, by decide, by decide⟩
abbrev mq_13 : mx_Q := (⟨"LeagueOffice$Chances", "gather", "(I)I"⟩, prog_3_method_2_code, 4, (some .int))
theorem mo_13 : mx_Mok mq_13 := ⟨rfl, by decide, mx_gt 1109 (by decide +kernel) rfl, mx_gt 86 (by decide +kernel) rfl, by decide, by decide⟩
abbrev mq_14 : mx_Q := (⟨"LeagueOffice$Chances", "tryAll", "(I)Z"⟩, prog_3_method_3_code, 5, (some .boolean))
theorem mo_14 : mx_Mok mq_14 := ⟨rfl, by decide, mx_gt 1127 (by decide +kernel) rfl, mx_gt 86 (by decide +kernel) rfl, by decide, by decide⟩
abbrev mq_15 : mx_Q := (⟨"LeagueOffice$Chances", "enterFirst", "()I"⟩, prog_3_method_4_code, 6, (some .int))
theorem mo_15 : mx_Mok mq_15 := ⟨rfl, by decide, mx_gt 1134 (by decide +kernel) rfl, mx_gt 86 (by decide +kernel) rfl, by decide, by decide⟩
abbrev mq_16 : mx_Q := (⟨"LeagueOffice$Chances", "enterNext", "()V"⟩, prog_3_method_5_code, 3, none)
theorem mo_16 : mx_Mok mq_16 := ⟨rfl, by decide, mx_gt 1156 (by decide +kernel) rfl, mx_gt 86 (by decide +kernel) rfl, by decide, by decide⟩
abbrev mq_17 : mx_Q := (⟨"LeagueOffice$Chances", "enter", "(II)V"⟩, prog_3_method_6_code, 5, none)
theorem mo_17 : mx_Mok mq_17 := ⟨rfl, by decide, mx_gt 1141 (by decide +kernel) rfl, mx_gt 86 (by decide +kernel) rfl, by decide, by decide⟩
abbrev mq_18 : mx_Q := (⟨"LeagueOffice$Chances", "enterWin", "(IIII)V"⟩, prog_3_method_7_code, 5, none)
theorem mo_18 : mx_Mok mq_18 := ⟨rfl, by decide, mx_gt 1145 (by decide +kernel) rfl, mx_gt 86 (by decide +kernel) rfl, by decide, by decide⟩
abbrev mq_19 : mx_Q := (⟨"LeagueOffice$Chances", "enterDraw", "(IIII)V"⟩, prog_3_method_8_code, 5, none)
theorem mo_19 : mx_Mok mq_19 := ⟨rfl, by decide, mx_gt 1151 (by decide +kernel) rfl, mx_gt 86 (by decide +kernel) rfl, by decide, by decide⟩
abbrev mq_20 : mx_Q := (⟨"LeagueOffice$Chances", "bestPlace", "()I"⟩, prog_3_method_9_code, 3, (some .int))
theorem mo_20 : mx_Mok mq_20 := ⟨rfl, by decide, mx_gt 1160 (by decide +kernel) rfl, mx_gt 86 (by decide +kernel) rfl, by decide, by decide⟩
abbrev mq_21 : mx_Q := (⟨"LeagueOffice$Chances", "worstPlace", "()I"⟩, prog_3_method_10_code, 3, (some .int))
theorem mo_21 : mx_Mok mq_21 := ⟨rfl, by decide, mx_gt 1165 (by decide +kernel) rfl, mx_gt 86 (by decide +kernel) rfl, by decide, by decide⟩
abbrev mq_22 : mx_Q := (⟨"LeagueOffice$Chances", "leastFor", "(I)I"⟩, prog_3_method_11_code, 6, (some .int))
theorem mo_22 : mx_Mok mq_22 := ⟨rfl, by decide, mx_gt 1178 (by decide +kernel) rfl, mx_gt 86 (by decide +kernel) rfl, by decide, by decide⟩
abbrev mq_23 : mx_Q := (⟨"LeagueOffice$Chances", "sumOf", "(I)J"⟩, prog_3_method_12_code, 2, (some .long))
theorem mo_23 : mx_Mok mq_23 := ⟨rfl, by decide, mx_gt 1182 (by decide +kernel) rfl, mx_gt 86 (by decide +kernel) rfl, by decide, by decide⟩
abbrev mq_24 : mx_Q := (⟨"LeagueOffice$Failures", "<init>", "(LLeagueOffice$Book;)V"⟩, prog_4_method_1_code, 2, none)
theorem mo_24 : mx_Mok mq_24 := ⟨rfl, by decide, mx_gt 386 (by decide +kernel) rfl, mx_gt 85 (by decide +kernel) rfl, by decide, by decide⟩
abbrev mq_25 : mx_Q := (⟨"LeagueOffice$Failures", "hasFailed", "(I)Z"⟩, prog_4_method_2_code, 2, (some .boolean))
theorem mo_25 : mx_Mok mq_25 := ⟨rfl, by decide, mx_gt 1062 (by decide +kernel) rfl, mx_gt 85 (by decide +kernel) rfl, by decide, by decide⟩
abbrev mq_26 : mx_Q := (⟨"LeagueOffice$Failures", "enter", "(I)I"⟩, prog_4_method_3_code, 5, (some .int))
theorem mo_26 : mx_Mok mq_26 := ⟨rfl, by decide, mx_gt 1067 (by decide +kernel) rfl, mx_gt 85 (by decide +kernel) rfl, by decide, by decide⟩
abbrev mq_27 : mx_Q := (⟨"LeagueOffice$Failures", "changeGames", "(IZ)I"⟩, prog_4_method_4_code, 5, (some .int))
theorem mo_27 : mx_Mok mq_27 := ⟨rfl, by decide, mx_gt 1076 (by decide +kernel) rfl, mx_gt 85 (by decide +kernel) rfl, by decide, by decide⟩
abbrev mq_28 : mx_Q := (⟨"LeagueOffice$Failures", "keep", "(II)V"⟩, prog_4_method_5_code, 3, none)
theorem mo_28 : mx_Mok mq_28 := ⟨rfl, by decide, mx_gt 1080 (by decide +kernel) rfl, mx_gt 85 (by decide +kernel) rfl, by decide, by decide⟩
abbrev mq_29 : mx_Q := (⟨"LeagueOffice$Failures", "give", "(II)V"⟩, prog_4_method_6_code, 4, none)
theorem mo_29 : mx_Mok mq_29 := ⟨rfl, by decide, mx_gt 1084 (by decide +kernel) rfl, mx_gt 85 (by decide +kernel) rfl, by decide, by decide⟩
abbrev mq_30 : mx_Q := (⟨"LeagueOffice$Failures", "hasChanged", "(II)Z"⟩, prog_4_method_7_code, 3, (some .boolean))
theorem mo_30 : mx_Mok mq_30 := ⟨rfl, by decide, mx_gt 1097 (by decide +kernel) rfl, mx_gt 85 (by decide +kernel) rfl, by decide, by decide⟩
abbrev mq_31 : mx_Q := (⟨"LeagueOffice$Failures", "canGoBack", "(I)Z"⟩, prog_4_method_8_code, 3, (some .boolean))
theorem mo_31 : mx_Mok mq_31 := ⟨rfl, by decide, mx_gt 1092 (by decide +kernel) rfl, mx_gt 85 (by decide +kernel) rfl, by decide, by decide⟩
abbrev mq_32 : mx_Q := (⟨"LeagueOffice$Failures", "goBack", "(I)I"⟩, prog_4_method_9_code, 4, (some .int))
theorem mo_32 : mx_Mok mq_32 := ⟨rfl, by decide, mx_gt 1101 (by decide +kernel) rfl, mx_gt 85 (by decide +kernel) rfl, by decide, by decide⟩
abbrev mq_33 : mx_Q := (⟨"LeagueOffice$Plan", "<init>", "(LLeagueOffice$Book;)V"⟩, prog_5_method_1_code, 2, none)
theorem mo_33 : mx_Mok mq_33 := ⟨rfl, by decide, mx_gt 473 (by decide +kernel) rfl, mx_gt 88 (by decide +kernel) rfl, by decide, by decide⟩
abbrev mq_34 : mx_Q := (⟨"LeagueOffice$Plan", "forget", "()I"⟩, prog_5_method_2_code, 1, (some .int))
theorem mo_34 : mx_Mok mq_34 := ⟨rfl, by decide, mx_gt 1219 (by decide +kernel) rfl, mx_gt 88 (by decide +kernel) rfl, by decide, by decide⟩
abbrev mq_35 : mx_Q := (⟨"LeagueOffice$Plan", "hasMeeting", "(I)Z"⟩, prog_5_method_3_code, 3, (some .boolean))
theorem mo_35 : mx_Mok mq_35 := ⟨rfl, by decide, mx_gt 1224 (by decide +kernel) rfl, mx_gt 88 (by decide +kernel) rfl, by decide, by decide⟩
abbrev mq_36 : mx_Q := (⟨"LeagueOffice$Plan", "add", "(II)I"⟩, prog_5_method_4_code, 3, (some .int))
theorem mo_36 : mx_Mok mq_36 := ⟨rfl, by decide, mx_gt 1230 (by decide +kernel) rfl, mx_gt 88 (by decide +kernel) rfl, by decide, by decide⟩
abbrev mq_37 : mx_Q := (⟨"LeagueOffice$Plan", "lay", "(I)V"⟩, prog_5_method_5_code, 4, none)
theorem mo_37 : mx_Mok mq_37 := ⟨rfl, by decide, mx_gt 1239 (by decide +kernel) rfl, mx_gt 88 (by decide +kernel) rfl, by decide, by decide⟩
abbrev mq_38 : mx_Q := (⟨"LeagueOffice$Plan", "look", "(I)V"⟩, prog_5_method_6_code, 4, none)
theorem mo_38 : mx_Mok mq_38 := ⟨rfl, by decide, mx_gt 1243 (by decide +kernel) rfl, mx_gt 88 (by decide +kernel) rfl, by decide, by decide⟩
abbrev mq_39 : mx_Q := (⟨"LeagueOffice$Plan", "breaksOf", "(I)I"⟩, prog_5_method_7_code, 9, (some .int))
theorem mo_39 : mx_Mok mq_39 := ⟨rfl, by decide, mx_gt 1249 (by decide +kernel) rfl, mx_gt 88 (by decide +kernel) rfl, by decide, by decide⟩
abbrev mq_40 : mx_Q := (⟨"LeagueOffice$Purse", "<init>", "(LLeagueOffice$Book;LLeagueOffice$Tables;)V"⟩, prog_6_method_1_code, 3, none)
theorem mo_40 : mx_Mok mq_40 := ⟨rfl, by decide, mx_gt 455 (by decide +kernel) rfl, mx_gt 87 (by decide +kernel) rfl, by decide, by decide⟩
abbrev mq_41 : mx_Q := (⟨"LeagueOffice$Purse", "share", "(III)J"⟩, prog_6_method_2_code, 13, (some .long))
theorem mo_41 : mx_Mok mq_41 := ⟨rfl, by decide, mx_gt 1192 (by decide +kernel) rfl, mx_gt 87 (by decide +kernel) rfl, by decide, by decide⟩
abbrev mq_42 : mx_Q := (⟨"LeagueOffice$Purse", "part", "(IIIII)J"⟩, prog_6_method_3_code, 13, (some .long))
theorem mo_42 : mx_Mok mq_42 := ⟨rfl, by decide, mx_gt 1209 (by decide +kernel) rfl, mx_gt 87 (by decide +kernel) rfl, by decide, by decide⟩
abbrev mq_43 : mx_Q := (⟨"LeagueOffice$Purse", "sumGates", "()V"⟩, prog_6_method_4_code, 4, none)
theorem mo_43 : mx_Mok mq_43 := ⟨rfl, by decide, mx_gt 1197 (by decide +kernel) rfl, mx_gt 87 (by decide +kernel) rfl, by decide, by decide⟩
abbrev mq_44 : mx_Q := (⟨"LeagueOffice$Reader", "<init>", "(LLeagueOffice$Texts;)V"⟩, prog_7_method_1_code, 2, none)
theorem mo_44 : mx_Mok mq_44 := ⟨rfl, by decide, mx_gt 248 (by decide +kernel) rfl, mx_gt 82 (by decide +kernel) rfl, by decide, by decide⟩
abbrev mq_45 : mx_Q := (⟨"LeagueOffice$Reader", "readTape", "()I"⟩, prog_7_method_2_code, 3, (some .int))
theorem mo_45 : mx_Mok mq_45 := ⟨rfl, by decide, mx_gt 573 (by decide +kernel) rfl, mx_gt 82 (by decide +kernel) rfl, by decide, by decide⟩
abbrev mq_46 : mx_Q := (⟨"LeagueOffice$Reader", "split", "()V"⟩, prog_7_method_3_code, 7, none)
theorem mo_46 : mx_Mok mq_46 := ⟨rfl, by decide, mx_gt 577 (by decide +kernel) rfl, mx_gt 82 (by decide +kernel) rfl, by decide, by decide⟩
abbrev mq_47 : mx_Q := (⟨"LeagueOffice$Reader", "addToken", "(III)V"⟩, prog_7_method_4_code, 4, none)
theorem mo_47 : mx_Mok mq_47 := ⟨rfl, by decide, mx_gt 597 (by decide +kernel) rfl, mx_gt 82 (by decide +kernel) rfl, by decide, by decide⟩
abbrev mq_48 : mx_Q := (⟨"LeagueOffice$Reader", "behindBlanks", "(I)I"⟩, prog_7_method_5_code, 3, (some .int))
theorem mo_48 : mx_Mok mq_48 := ⟨rfl, by decide, mx_gt 585 (by decide +kernel) rfl, mx_gt 82 (by decide +kernel) rfl, by decide, by decide⟩
abbrev mq_49 : mx_Q := (⟨"LeagueOffice$Reader", "behindDigits", "(I)I"⟩, prog_7_method_6_code, 3, (some .int))
theorem mo_49 : mx_Mok mq_49 := ⟨rfl, by decide, mx_gt 605 (by decide +kernel) rfl, mx_gt 82 (by decide +kernel) rfl, by decide, by decide⟩
abbrev mq_50 : mx_Q := (⟨"LeagueOffice$Reader", "behindLetters", "(I)I"⟩, prog_7_method_7_code, 3, (some .int))
theorem mo_50 : mx_Mok mq_50 := ⟨rfl, by decide, mx_gt 616 (by decide +kernel) rfl, mx_gt 82 (by decide +kernel) rfl, by decide, by decide⟩
abbrev mq_51 : mx_Q := (⟨"LeagueOffice$Reader", "numberAt", "(II)I"⟩, prog_7_method_8_code, 5, (some .int))
theorem mo_51 : mx_Mok mq_51 := ⟨rfl, by decide, mx_gt 609 (by decide +kernel) rfl, mx_gt 82 (by decide +kernel) rfl, by decide, by decide⟩
abbrev mq_52 : mx_Q := (⟨"LeagueOffice$Reader", "wordAt", "(II)I"⟩, prog_7_method_9_code, 4, (some .int))
theorem mo_52 : mx_Mok mq_52 := ⟨rfl, by decide, mx_gt 620 (by decide +kernel) rfl, mx_gt 82 (by decide +kernel) rfl, by decide, by decide⟩
abbrev mq_53 : mx_Q := (⟨"LeagueOffice$Reader", "isWord", "(Ljava/lang/String;II)Z"⟩, prog_7_method_10_code, 5, (some .boolean))
theorem mo_53 : mx_Mok mq_53 := ⟨rfl, by decide, mx_gt 640 (by decide +kernel) rfl, mx_gt 82 (by decide +kernel) rfl, by decide, by decide⟩
abbrev mq_54 : mx_Q := (⟨"LeagueOffice$Reader", "wordOf", "(I)Ljava/lang/String;"⟩, prog_7_method_11_code, 1, (some (.object "java/lang/String")))
theorem mo_54 : mx_Mok mq_54 := ⟨rfl, by decide, mx_gt 623 (by decide +kernel) rfl, mx_gt 82 (by decide +kernel) rfl, by decide, by decide⟩
abbrev mq_55 : mx_Q := (⟨"LeagueOffice$Reader", "isDigit", "(I)Z"⟩, prog_7_method_12_code, 1, (some .boolean))
theorem mo_55 : mx_Mok mq_55 := ⟨rfl, by decide, mx_gt 601 (by decide +kernel) rfl, mx_gt 82 (by decide +kernel) rfl, by decide, by decide⟩
abbrev mq_56 : mx_Q := (⟨"LeagueOffice$Reader", "isLetter", "(I)Z"⟩, prog_7_method_13_code, 1, (some .boolean))
theorem mo_56 : mx_Mok mq_56 := ⟨rfl, by decide, mx_gt 612 (by decide +kernel) rfl, mx_gt 82 (by decide +kernel) rfl, by decide, by decide⟩
abbrev mq_57 : mx_Q := (⟨"LeagueOffice$Reader", "isSign", "(I)Z"⟩, prog_7_method_14_code, 1, (some .boolean))
theorem mo_57 : mx_Mok mq_57 := ⟨rfl, by decide, mx_gt 645 (by decide +kernel) rfl, mx_gt 82 (by decide +kernel) rfl, by decide, by decide⟩
abbrev mq_58 : mx_Q := (⟨"LeagueOffice$Reader", "readToken", "(I)Z"⟩, prog_7_method_15_code, 2, (some .boolean))
theorem mo_58 : mx_Mok mq_58 := ⟨rfl, by decide, mx_gt 658 (by decide +kernel) rfl, mx_gt 82 (by decide +kernel) rfl, by decide, by decide⟩
abbrev mq_59 : mx_Q := (⟨"LeagueOffice$Reader", "readPart", "(I)Z"⟩, prog_7_method_16_code, 2, (some .boolean))
theorem mo_59 : mx_Mok mq_59 := ⟨rfl, by decide, mx_gt 654 (by decide +kernel) rfl, mx_gt 82 (by decide +kernel) rfl, by decide, by decide⟩
abbrev mq_60 : mx_Q := (⟨"LeagueOffice$Reader", "readLevel", "(II)Z"⟩, prog_7_method_17_code, 5, (some .boolean))
theorem mo_60 : mx_Mok mq_60 := ⟨rfl, by decide, mx_gt 671 (by decide +kernel) rfl, mx_gt 82 (by decide +kernel) rfl, by decide, by decide⟩
abbrev mq_61 : mx_Q := (⟨"LeagueOffice$Reader", "joins", "(III)Z"⟩, prog_7_method_18_code, 3, (some .boolean))
theorem mo_61 : mx_Mok mq_61 := ⟨rfl, by decide, mx_gt 691 (by decide +kernel) rfl, mx_gt 82 (by decide +kernel) rfl, by decide, by decide⟩
abbrev mq_62 : mx_Q := (⟨"LeagueOffice$Reader", "readNot", "(I)Z"⟩, prog_7_method_19_code, 2, (some .boolean))
theorem mo_62 : mx_Mok mq_62 := ⟨rfl, by decide, mx_gt 688 (by decide +kernel) rfl, mx_gt 82 (by decide +kernel) rfl, by decide, by decide⟩
abbrev mq_63 : mx_Q := (⟨"LeagueOffice$Reader", "readOne", "(I)Z"⟩, prog_7_method_20_code, 3, (some .boolean))
theorem mo_63 : mx_Mok mq_63 := ⟨rfl, by decide, mx_gt 675 (by decide +kernel) rfl, mx_gt 82 (by decide +kernel) rfl, by decide, by decide⟩
abbrev mq_64 : mx_Q := (⟨"LeagueOffice$Row", "<init>", "(I)V"⟩, prog_8_method_1_code, 2, none)
theorem mo_64 : mx_Mok mq_64 := ⟨rfl, by decide, mx_gt 115 (by decide +kernel) rfl, mx_gt 79 (by decide +kernel) rfl, by decide, by decide⟩
abbrev mq_65 : mx_Q := (⟨"LeagueOffice$Row", "size", "()I"⟩, prog_8_method_2_code, 1, (some .int))
theorem mo_65 : mx_Mok mq_65 := ⟨rfl, by decide, mx_gt 589 (by decide +kernel) rfl, mx_gt 79 (by decide +kernel) rfl, by decide, by decide⟩
abbrev mq_66 : mx_Q := (⟨"LeagueOffice$Row", "isFull", "()Z"⟩, prog_8_method_3_code, 1, (some .boolean))
theorem mo_66 : mx_Mok mq_66 := ⟨rfl, by decide, mx_gt 742 (by decide +kernel) rfl, mx_gt 79 (by decide +kernel) rfl, by decide, by decide⟩
abbrev mq_67 : mx_Q := (⟨"LeagueOffice$Row", "has", "(I)Z"⟩, prog_8_method_4_code, 2, (some .boolean))
theorem mo_67 : mx_Mok mq_67 := ⟨rfl, by decide, mx_gt 754 (by decide +kernel) rfl, mx_gt 79 (by decide +kernel) rfl, by decide, by decide⟩
abbrev mq_68 : mx_Q := (⟨"LeagueOffice$Row", "get", "(I)I"⟩, prog_8_method_5_code, 2, (some .int))
theorem mo_68 : mx_Mok mq_68 := ⟨rfl, by decide, mx_gt 593 (by decide +kernel) rfl, mx_gt 79 (by decide +kernel) rfl, by decide, by decide⟩
abbrev mq_69 : mx_Q := (⟨"LeagueOffice$Row", "put", "(II)V"⟩, prog_8_method_6_code, 3, none)
theorem mo_69 : mx_Mok mq_69 := ⟨rfl, by decide, mx_gt 667 (by decide +kernel) rfl, mx_gt 79 (by decide +kernel) rfl, by decide, by decide⟩
abbrev mq_70 : mx_Q := (⟨"LeagueOffice$Row", "raise", "(II)V"⟩, prog_8_method_7_code, 3, none)
theorem mo_70 : mx_Mok mq_70 := ⟨rfl, by decide, mx_gt 883 (by decide +kernel) rfl, mx_gt 79 (by decide +kernel) rfl, by decide, by decide⟩
abbrev mq_71 : mx_Q := (⟨"LeagueOffice$Row", "add", "(I)I"⟩, prog_8_method_8_code, 2, (some .int))
theorem mo_71 : mx_Mok mq_71 := ⟨rfl, by decide, mx_gt 569 (by decide +kernel) rfl, mx_gt 79 (by decide +kernel) rfl, by decide, by decide⟩
abbrev mq_72 : mx_Q := (⟨"LeagueOffice$Row", "pop", "()I"⟩, prog_8_method_9_code, 1, (some .int))
theorem mo_72 : mx_Mok mq_72 := ⟨rfl, by decide, mx_gt 908 (by decide +kernel) rfl, mx_gt 79 (by decide +kernel) rfl, by decide, by decide⟩
abbrev mq_73 : mx_Q := (⟨"LeagueOffice$Row", "insert", "(II)V"⟩, prog_8_method_10_code, 3, none)
theorem mo_73 : mx_Mok mq_73 := ⟨rfl, by decide, mx_gt 770 (by decide +kernel) rfl, mx_gt 79 (by decide +kernel) rfl, by decide, by decide⟩
abbrev mq_74 : mx_Q := (⟨"LeagueOffice$Row", "move", "(III)V"⟩, prog_8_method_11_code, 4, none)
theorem mo_74 : mx_Mok mq_74 := ⟨rfl, by decide, mx_gt 1300 (by decide +kernel) rfl, mx_gt 79 (by decide +kernel) rfl, by decide, by decide⟩
abbrev mq_75 : mx_Q := (⟨"LeagueOffice$Row", "clear", "()V"⟩, prog_8_method_12_code, 1, none)
theorem mo_75 : mx_Mok mq_75 := ⟨rfl, by decide, mx_gt 581 (by decide +kernel) rfl, mx_gt 79 (by decide +kernel) rfl, by decide, by decide⟩
abbrev mq_76 : mx_Q := (⟨"LeagueOffice$Row", "fill", "(I)V"⟩, prog_8_method_13_code, 2, none)
theorem mo_76 : mx_Mok mq_76 := ⟨rfl, by decide, mx_gt 859 (by decide +kernel) rfl, mx_gt 79 (by decide +kernel) rfl, by decide, by decide⟩
abbrev mq_77 : mx_Q := (⟨"LeagueOffice$Sheets", "<init>", "()V"⟩, prog_9_method_1_code, 1, none)
theorem mo_77 : mx_Mok mq_77 := ⟨rfl, by decide, mx_gt 503 (by decide +kernel) rfl, mx_gt 89 (by decide +kernel) rfl, by decide, by decide⟩
abbrev mq_78 : mx_Q := (⟨"LeagueOffice$Sheets", "remove", "(I)I"⟩, prog_9_method_2_code, 2, (some .int))
theorem mo_78 : mx_Mok mq_78 := ⟨rfl, by decide, mx_gt 1261 (by decide +kernel) rfl, mx_gt 89 (by decide +kernel) rfl, by decide, by decide⟩
abbrev mq_79 : mx_Q := (⟨"LeagueOffice$Sheets", "lay", "(III)I"⟩, prog_9_method_3_code, 5, (some .int))
theorem mo_79 : mx_Mok mq_79 := ⟨rfl, by decide, mx_gt 1266 (by decide +kernel) rfl, mx_gt 89 (by decide +kernel) rfl, by decide, by decide⟩
abbrev mq_80 : mx_Q := (⟨"LeagueOffice$Sheets", "isMissing", "(I)Z"⟩, prog_9_method_4_code, 2, (some .boolean))
theorem mo_80 : mx_Mok mq_80 := ⟨rfl, by decide, mx_gt 1274 (by decide +kernel) rfl, mx_gt 89 (by decide +kernel) rfl, by decide, by decide⟩
abbrev mq_81 : mx_Q := (⟨"LeagueOffice$Sheets", "sortOf", "(I)I"⟩, prog_9_method_5_code, 2, (some .int))
theorem mo_81 : mx_Mok mq_81 := ⟨rfl, by decide, mx_gt 1287 (by decide +kernel) rfl, mx_gt 89 (by decide +kernel) rfl, by decide, by decide⟩
abbrev mq_82 : mx_Q := (⟨"LeagueOffice$Sheets", "holds", "(III)Z"⟩, prog_9_method_6_code, 4, (some .boolean))
theorem mo_82 : mx_Mok mq_82 := ⟨rfl, by decide, mx_gt 1279 (by decide +kernel) rfl, mx_gt 89 (by decide +kernel) rfl, by decide, by decide⟩
abbrev mq_83 : mx_Q := (⟨"LeagueOffice$Sheets", "read", "(II)I"⟩, prog_9_method_7_code, 3, (some .int))
theorem mo_83 : mx_Mok mq_83 := ⟨rfl, by decide, mx_gt 1308 (by decide +kernel) rfl, mx_gt 89 (by decide +kernel) rfl, by decide, by decide⟩
abbrev mq_84 : mx_Q := (⟨"LeagueOffice$Sheets", "write", "(III)I"⟩, prog_9_method_8_code, 5, (some .int))
theorem mo_84 : mx_Mok mq_84 := ⟨rfl, by decide, mx_gt 1283 (by decide +kernel) rfl, mx_gt 89 (by decide +kernel) rfl, by decide, by decide⟩
abbrev mq_85 : mx_Q := (⟨"LeagueOffice$Sheets", "move", "(IIIII)I"⟩, prog_9_method_9_code, 6, (some .int))
theorem mo_85 : mx_Mok mq_85 := ⟨rfl, by decide, mx_gt 1296 (by decide +kernel) rfl, mx_gt 89 (by decide +kernel) rfl, by decide, by decide⟩
abbrev mq_86 : mx_Q := (⟨"LeagueOffice$Squad", "<init>", "(LLeagueOffice$Book;LLeagueOffice$Texts;)V"⟩, prog_10_method_1_code, 3, none)
theorem mo_86 : mx_Mok mq_86 := ⟨rfl, by decide, mx_gt 325 (by decide +kernel) rfl, mx_gt 84 (by decide +kernel) rfl, by decide, by decide⟩
abbrev mq_87 : mx_Q := (⟨"LeagueOffice$Squad", "isPlayer", "(I)Z"⟩, prog_10_method_2_code, 2, (some .boolean))
theorem mo_87 : mx_Mok mq_87 := ⟨rfl, by decide, mx_gt 962 (by decide +kernel) rfl, mx_gt 84 (by decide +kernel) rfl, by decide, by decide⟩
abbrev mq_88 : mx_Q := (⟨"LeagueOffice$Squad", "clubIn", "(II)I"⟩, prog_10_method_3_code, 7, (some .int))
theorem mo_88 : mx_Mok mq_88 := ⟨rfl, by decide, mx_gt 970 (by decide +kernel) rfl, mx_gt 84 (by decide +kernel) rfl, by decide, by decide⟩
abbrev mq_89 : mx_Q := (⟨"LeagueOffice$Squad", "cardsTill", "(I)I"⟩, prog_10_method_4_code, 4, (some .int))
theorem mo_89 : mx_Mok mq_89 := ⟨rfl, by decide, mx_gt 985 (by decide +kernel) rfl, mx_gt 84 (by decide +kernel) rfl, by decide, by decide⟩
abbrev mq_90 : mx_Q := (⟨"LeagueOffice$Squad", "banOf", "(II)I"⟩, prog_10_method_5_code, 4, (some .int))
theorem mo_90 : mx_Mok mq_90 := ⟨rfl, by decide, mx_gt 989 (by decide +kernel) rfl, mx_gt 84 (by decide +kernel) rfl, by decide, by decide⟩
abbrev mq_91 : mx_Q := (⟨"LeagueOffice$Squad", "holdGames", "(I)V"⟩, prog_10_method_6_code, 4, none)
theorem mo_91 : mx_Mok mq_91 := ⟨rfl, by decide, mx_gt 1009 (by decide +kernel) rfl, mx_gt 84 (by decide +kernel) rfl, by decide, by decide⟩
abbrev mq_92 : mx_Q := (⟨"LeagueOffice$Squad", "hold", "(II)V"⟩, prog_10_method_7_code, 8, none)
theorem mo_92 : mx_Mok mq_92 := ⟨rfl, by decide, mx_gt 1015 (by decide +kernel) rfl, mx_gt 84 (by decide +kernel) rfl, by decide, by decide⟩
abbrev mq_93 : mx_Q := (⟨"LeagueOffice$Squad", "heldBy", "(II)I"⟩, prog_10_method_8_code, 6, (some .int))
theorem mo_93 : mx_Mok mq_93 := ⟨rfl, by decide, mx_gt 1005 (by decide +kernel) rfl, mx_gt 84 (by decide +kernel) rfl, by decide, by decide⟩
abbrev mq_94 : mx_Q := (⟨"LeagueOffice$Squad", "isFree", "(II)Z"⟩, prog_10_method_9_code, 4, (some .boolean))
theorem mo_94 : mx_Mok mq_94 := ⟨rfl, by decide, mx_gt 1035 (by decide +kernel) rfl, mx_gt 84 (by decide +kernel) rfl, by decide, by decide⟩
abbrev mq_95 : mx_Q := (⟨"LeagueOffice$Squad", "hasPlayed", "(II)Z"⟩, prog_10_method_10_code, 4, (some .boolean))
theorem mo_95 : mx_Mok mq_95 := ⟨rfl, by decide, mx_gt 1043 (by decide +kernel) rfl, mx_gt 84 (by decide +kernel) rfl, by decide, by decide⟩
abbrev mq_96 : mx_Q := (⟨"LeagueOffice$Squad", "listWrongs", "()V"⟩, prog_10_method_11_code, 4, none)
theorem mo_96 : mx_Mok mq_96 := ⟨rfl, by decide, mx_gt 1051 (by decide +kernel) rfl, mx_gt 84 (by decide +kernel) rfl, by decide, by decide⟩
abbrev mq_97 : mx_Q := (⟨"LeagueOffice$Tables", "<init>", "(LLeagueOffice$Book;LLeagueOffice$Texts;)V"⟩, prog_11_method_1_code, 3, none)
theorem mo_97 : mx_Mok mq_97 := ⟨rfl, by decide, mx_gt 276 (by decide +kernel) rfl, mx_gt 83 (by decide +kernel) rfl, by decide, by decide⟩
abbrev mq_98 : mx_Q := (⟨"LeagueOffice$Tables", "tally", "(I)V"⟩, prog_11_method_2_code, 4, none)
theorem mo_98 : mx_Mok mq_98 := ⟨rfl, by decide, mx_gt 852 (by decide +kernel) rfl, mx_gt 83 (by decide +kernel) rfl, by decide, by decide⟩
abbrev mq_99 : mx_Q := (⟨"LeagueOffice$Tables", "enter", "(IIII)V"⟩, prog_11_method_3_code, 8, none)
theorem mo_99 : mx_Mok mq_99 := ⟨rfl, by decide, mx_gt 875 (by decide +kernel) rfl, mx_gt 83 (by decide +kernel) rfl, by decide, by decide⟩
abbrev mq_100 : mx_Q := (⟨"LeagueOffice$Tables", "addPoints", "(IJ)V"⟩, prog_11_method_4_code, 4, none)
theorem mo_100 : mx_Mok mq_100 := ⟨rfl, by decide, mx_gt 915 (by decide +kernel) rfl, mx_gt 83 (by decide +kernel) rfl, by decide, by decide⟩
abbrev mq_101 : mx_Q := (⟨"LeagueOffice$Tables", "addGoals", "(IIII)V"⟩, prog_11_method_5_code, 5, none)
theorem mo_101 : mx_Mok mq_101 := ⟨rfl, by decide, mx_gt 879 (by decide +kernel) rfl, mx_gt 83 (by decide +kernel) rfl, by decide, by decide⟩
abbrev mq_102 : mx_Q := (⟨"LeagueOffice$Tables", "pointsOf", "(I)J"⟩, prog_11_method_6_code, 2, (some .long))
theorem mo_102 : mx_Mok mq_102 := ⟨rfl, by decide, mx_gt 919 (by decide +kernel) rfl, mx_gt 83 (by decide +kernel) rfl, by decide, by decide⟩
abbrev mq_103 : mx_Q := (⟨"LeagueOffice$Tables", "likeOf", "(I)I"⟩, prog_11_method_7_code, 2, (some .int))
theorem mo_103 : mx_Mok mq_103 := ⟨rfl, by decide, mx_gt 927 (by decide +kernel) rfl, mx_gt 83 (by decide +kernel) rfl, by decide, by decide⟩
abbrev mq_104 : mx_Q := (⟨"LeagueOffice$Tables", "placeOf", "(I)I"⟩, prog_11_method_8_code, 7, (some .int))
theorem mo_104 : mx_Mok mq_104 := ⟨rfl, by decide, mx_gt 943 (by decide +kernel) rfl, mx_gt 83 (by decide +kernel) rfl, by decide, by decide⟩
abbrev mq_105 : mx_Q := (⟨"LeagueOffice$Tables", "clubAt", "(II)I"⟩, prog_11_method_9_code, 4, (some .int))
theorem mo_105 : mx_Mok mq_105 := ⟨rfl, by decide, mx_gt 939 (by decide +kernel) rfl, mx_gt 83 (by decide +kernel) rfl, by decide, by decide⟩
abbrev mq_106 : mx_Q := (⟨"LeagueOffice$Texts", "<init>", "()V"⟩, prog_12_method_1_code, 1, none)
theorem mo_106 : mx_Mok mq_106 := ⟨rfl, by decide, mx_gt 211 (by decide +kernel) rfl, mx_gt 81 (by decide +kernel) rfl, by decide, by decide⟩
abbrev mq_107 : mx_Q := (⟨"LeagueOffice$Texts", "begin", "()V"⟩, prog_12_method_2_code, 1, none)
theorem mo_107 : mx_Mok mq_107 := ⟨rfl, by decide, mx_gt 649 (by decide +kernel) rfl, mx_gt 81 (by decide +kernel) rfl, by decide, by decide⟩
abbrev mq_108 : mx_Q := (⟨"LeagueOffice$Texts", "beginPart", "(I)V"⟩, prog_12_method_3_code, 2, none)
theorem mo_108 : mx_Mok mq_108 := ⟨rfl, by decide, mx_gt 662 (by decide +kernel) rfl, mx_gt 81 (by decide +kernel) rfl, by decide, by decide⟩
abbrev mq_109 : mx_Q := (⟨"LeagueOffice$Texts", "endPart", "(I)V"⟩, prog_12_method_4_code, 2, none)
theorem mo_109 : mx_Mok mq_109 := ⟨rfl, by decide, mx_gt 695 (by decide +kernel) rfl, mx_gt 81 (by decide +kernel) rfl, by decide, by decide⟩
abbrev mq_110 : mx_Q := (⟨"LeagueOffice$Texts", "emitNumber", "(I)V"⟩, prog_12_method_5_code, 2, none)
theorem mo_110 : mx_Mok mq_110 := ⟨rfl, by decide, mx_gt 679 (by decide +kernel) rfl, mx_gt 81 (by decide +kernel) rfl, by decide, by decide⟩
abbrev mq_111 : mx_Q := (⟨"LeagueOffice$Texts", "emitToken", "(I)V"⟩, prog_12_method_6_code, 2, none)
theorem mo_111 : mx_Mok mq_111 := ⟨rfl, by decide, mx_gt 684 (by decide +kernel) rfl, mx_gt 81 (by decide +kernel) rfl, by decide, by decide⟩
abbrev mq_112 : mx_Q := (⟨"LeagueOffice$Texts", "textFor", "(I)I"⟩, prog_12_method_7_code, 6, (some .int))
theorem mo_112 : mx_Mok mq_112 := ⟨rfl, by decide, mx_gt 839 (by decide +kernel) rfl, mx_gt 81 (by decide +kernel) rfl, by decide, by decide⟩
abbrev mq_113 : mx_Q := (⟨"LeagueOffice$Texts", "askGame", "(IIIIII)I"⟩, prog_12_method_8_code, 7, (some .int))
theorem mo_113 : mx_Mok mq_113 := ⟨rfl, by decide, mx_gt 897 (by decide +kernel) rfl, mx_gt 81 (by decide +kernel) rfl, by decide, by decide⟩
abbrev mq_114 : mx_Q := (⟨"LeagueOffice$Texts", "askLike", "(IIII)I"⟩, prog_12_method_9_code, 5, (some .int))
theorem mo_114 : mx_Mok mq_114 := ⟨rfl, by decide, mx_gt 931 (by decide +kernel) rfl, mx_gt 81 (by decide +kernel) rfl, by decide, by decide⟩
abbrev mq_115 : mx_Q := (⟨"LeagueOffice$Texts", "askBan", "(III)I"⟩, prog_12_method_10_code, 4, (some .int))
theorem mo_115 : mx_Mok mq_115 := ⟨rfl, by decide, mx_gt 993 (by decide +kernel) rfl, mx_gt 81 (by decide +kernel) rfl, by decide, by decide⟩
abbrev mq_116 : mx_Q := (⟨"LeagueOffice$Texts", "value", "(II)I"⟩, prog_12_method_11_code, 10, (some .int))
theorem mo_116 : mx_Mok mq_116 := ⟨rfl, by decide, mx_gt 903 (by decide +kernel) rfl, mx_gt 81 (by decide +kernel) rfl, by decide, by decide⟩
abbrev mq_117 : mx_Q := (⟨"LeagueOffice$Texts", "joined", "(III)I"⟩, prog_12_method_12_code, 3, (some .int))
theorem mo_117 : mx_Mok mq_117 := ⟨rfl, by decide, mx_gt 911 (by decide +kernel) rfl, mx_gt 81 (by decide +kernel) rfl, by decide, by decide⟩
abbrev mq_118 : mx_Q := (⟨"LeagueOffice", "<init>", "()V"⟩, prog_1_method_1_code, 2, none)
theorem mo_118 : mx_Mok mq_118 := ⟨rfl, by decide, mx_gt 101 (by decide +kernel) rfl, mx_gt 77 (by decide +kernel) rfl, by decide, by decide⟩
abbrev mq_119 : mx_Q := (⟨"LeagueOffice", "pass", "(I)I"⟩, prog_1_method_2_code, 2, (some .int))
theorem mo_119 : mx_Mok mq_119 := ⟨rfl, by decide, mx_gt 731 (by decide +kernel) rfl, mx_gt 77 (by decide +kernel) rfl, by decide, by decide⟩
abbrev mq_120 : mx_Q := (⟨"LeagueOffice", "club", "(II)I"⟩, prog_1_method_3_code, 3, (some .int))
theorem mo_120 : mx_Mok mq_120 := ⟨rfl, by decide, mx_gt 735 (by decide +kernel) rfl, mx_gt 77 (by decide +kernel) rfl, by decide, by decide⟩
abbrev mq_121 : mx_Q := (⟨"LeagueOffice", "step", "(II)I"⟩, prog_1_method_4_code, 4, (some .int))
theorem mo_121 : mx_Mok mq_121 := ⟨rfl, by decide, mx_gt 746 (by decide +kernel) rfl, mx_gt 77 (by decide +kernel) rfl, by decide, by decide⟩
abbrev mq_122 : mx_Q := (⟨"LeagueOffice", "game", "(IIII)I"⟩, prog_1_method_5_code, 5, (some .int))
theorem mo_122 : mx_Mok mq_122 := ⟨rfl, by decide, mx_gt 760 (by decide +kernel) rfl, mx_gt 77 (by decide +kernel) rfl, by decide, by decide⟩
abbrev mq_123 : mx_Q := (⟨"LeagueOffice", "gameTold", "(II)I"⟩, prog_1_method_6_code, 4, (some .int))
theorem mo_123 : mx_Mok mq_123 := ⟨rfl, by decide, mx_gt 778 (by decide +kernel) rfl, mx_gt 77 (by decide +kernel) rfl, by decide, by decide⟩
abbrev mq_124 : mx_Q := (⟨"LeagueOffice", "result", "(III)I"⟩, prog_1_method_7_code, 4, (some .int))
theorem mo_124 : mx_Mok mq_124 := ⟨rfl, by decide, mx_gt 797 (by decide +kernel) rfl, mx_gt 77 (by decide +kernel) rfl, by decide, by decide⟩
abbrev mq_125 : mx_Q := (⟨"LeagueOffice", "known", "(II)I"⟩, prog_1_method_8_code, 3, (some .int))
theorem mo_125 : mx_Mok mq_125 := ⟨rfl, by decide, mx_gt 809 (by decide +kernel) rfl, mx_gt 77 (by decide +kernel) rfl, by decide, by decide⟩
abbrev mq_126 : mx_Q := (⟨"LeagueOffice", "feed", "(IJ)I"⟩, prog_1_method_9_code, 5, (some .int))
theorem mo_126 : mx_Mok mq_126 := ⟨rfl, by decide, mx_gt 822 (by decide +kernel) rfl, mx_gt 77 (by decide +kernel) rfl, by decide, by decide⟩
abbrev mq_127 : mx_Q := (⟨"LeagueOffice", "text", "()I"⟩, prog_1_method_10_code, 2, (some .int))
theorem mo_127 : mx_Mok mq_127 := ⟨rfl, by decide, mx_gt 827 (by decide +kernel) rfl, mx_gt 77 (by decide +kernel) rfl, by decide, by decide⟩
abbrev mq_128 : mx_Q := (⟨"LeagueOffice", "rule", "(II)I"⟩, prog_1_method_11_code, 3, (some .int))
theorem mo_128 : mx_Mok mq_128 := ⟨rfl, by decide, mx_gt 831 (by decide +kernel) rfl, mx_gt 77 (by decide +kernel) rfl, by decide, by decide⟩
abbrev mq_129 : mx_Q := (⟨"LeagueOffice", "ruleOf", "(I)I"⟩, prog_1_method_12_code, 2, (some .int))
theorem mo_129 : mx_Mok mq_129 := ⟨rfl, by decide, mx_gt 835 (by decide +kernel) rfl, mx_gt 77 (by decide +kernel) rfl, by decide, by decide⟩
abbrev mq_130 : mx_Q := (⟨"LeagueOffice", "take", "(III)I"⟩, prog_1_method_13_code, 4, (some .int))
theorem mo_130 : mx_Mok mq_130 := ⟨rfl, by decide, mx_gt 843 (by decide +kernel) rfl, mx_gt 77 (by decide +kernel) rfl, by decide, by decide⟩
abbrev mq_131 : mx_Q := (⟨"LeagueOffice", "points", "(II)J"⟩, prog_1_method_14_code, 3, (some .long))
theorem mo_131 : mx_Mok mq_131 := ⟨rfl, by decide, mx_gt 847 (by decide +kernel) rfl, mx_gt 77 (by decide +kernel) rfl, by decide, by decide⟩
abbrev mq_132 : mx_Q := (⟨"LeagueOffice", "like", "(II)J"⟩, prog_1_method_15_code, 3, (some .long))
theorem mo_132 : mx_Mok mq_132 := ⟨rfl, by decide, mx_gt 923 (by decide +kernel) rfl, mx_gt 77 (by decide +kernel) rfl, by decide, by decide⟩
abbrev mq_133 : mx_Q := (⟨"LeagueOffice", "table", "(III)I"⟩, prog_1_method_16_code, 4, (some .int))
theorem mo_133 : mx_Mok mq_133 := ⟨rfl, by decide, mx_gt 935 (by decide +kernel) rfl, mx_gt 77 (by decide +kernel) rfl, by decide, by decide⟩
abbrev mq_134 : mx_Q := (⟨"LeagueOffice", "place", "(II)I"⟩, prog_1_method_17_code, 3, (some .int))
theorem mo_134 : mx_Mok mq_134 := ⟨rfl, by decide, mx_gt 949 (by decide +kernel) rfl, mx_gt 77 (by decide +kernel) rfl, by decide, by decide⟩
abbrev mq_135 : mx_Q := (⟨"LeagueOffice", "player", "()I"⟩, prog_1_method_18_code, 1, (some .int))
theorem mo_135 : mx_Mok mq_135 := ⟨rfl, by decide, mx_gt 954 (by decide +kernel) rfl, mx_gt 77 (by decide +kernel) rfl, by decide, by decide⟩
abbrev mq_136 : mx_Q := (⟨"LeagueOffice", "register", "(III)I"⟩, prog_1_method_19_code, 4, (some .int))
theorem mo_136 : mx_Mok mq_136 := ⟨rfl, by decide, mx_gt 958 (by decide +kernel) rfl, mx_gt 77 (by decide +kernel) rfl, by decide, by decide⟩
abbrev mq_137 : mx_Q := (⟨"LeagueOffice", "clubOf", "(II)I"⟩, prog_1_method_20_code, 3, (some .int))
theorem mo_137 : mx_Mok mq_137 := ⟨rfl, by decide, mx_gt 966 (by decide +kernel) rfl, mx_gt 77 (by decide +kernel) rfl, by decide, by decide⟩
abbrev mq_138 : mx_Q := (⟨"LeagueOffice", "card", "(III)I"⟩, prog_1_method_21_code, 4, (some .int))
theorem mo_138 : mx_Mok mq_138 := ⟨rfl, by decide, mx_gt 976 (by decide +kernel) rfl, mx_gt 77 (by decide +kernel) rfl, by decide, by decide⟩
abbrev mq_139 : mx_Q := (⟨"LeagueOffice", "bans", "(I)I"⟩, prog_1_method_22_code, 2, (some .int))
theorem mo_139 : mx_Mok mq_139 := ⟨rfl, by decide, mx_gt 980 (by decide +kernel) rfl, mx_gt 77 (by decide +kernel) rfl, by decide, by decide⟩
abbrev mq_140 : mx_Q := (⟨"LeagueOffice", "banned", "(II)I"⟩, prog_1_method_23_code, 3, (some .int))
theorem mo_140 : mx_Mok mq_140 := ⟨rfl, by decide, mx_gt 1001 (by decide +kernel) rfl, mx_gt 77 (by decide +kernel) rfl, by decide, by decide⟩
abbrev mq_141 : mx_Q := (⟨"LeagueOffice", "may", "(II)I"⟩, prog_1_method_24_code, 3, (some .int))
theorem mo_141 : mx_Mok mq_141 := ⟨rfl, by decide, mx_gt 1030 (by decide +kernel) rfl, mx_gt 77 (by decide +kernel) rfl, by decide, by decide⟩
abbrev mq_142 : mx_Q := (⟨"LeagueOffice", "played", "(II)I"⟩, prog_1_method_25_code, 3, (some .int))
theorem mo_142 : mx_Mok mq_142 := ⟨rfl, by decide, mx_gt 1039 (by decide +kernel) rfl, mx_gt 77 (by decide +kernel) rfl, by decide, by decide⟩
abbrev mq_143 : mx_Q := (⟨"LeagueOffice", "wrong", "(I)I"⟩, prog_1_method_26_code, 2, (some .int))
theorem mo_143 : mx_Mok mq_143 := ⟨rfl, by decide, mx_gt 1047 (by decide +kernel) rfl, mx_gt 77 (by decide +kernel) rfl, by decide, by decide⟩
abbrev mq_144 : mx_Q := (⟨"LeagueOffice", "fail", "(I)I"⟩, prog_1_method_27_code, 2, (some .int))
theorem mo_144 : mx_Mok mq_144 := ⟨rfl, by decide, mx_gt 1058 (by decide +kernel) rfl, mx_gt 77 (by decide +kernel) rfl, by decide, by decide⟩
abbrev mq_145 : mx_Q := (⟨"LeagueOffice", "undo", "(I)I"⟩, prog_1_method_28_code, 2, (some .int))
theorem mo_145 : mx_Mok mq_145 := ⟨rfl, by decide, mx_gt 1088 (by decide +kernel) rfl, mx_gt 77 (by decide +kernel) rfl, by decide, by decide⟩
abbrev mq_146 : mx_Q := (⟨"LeagueOffice", "open", "(I)I"⟩, prog_1_method_29_code, 2, (some .int))
theorem mo_146 : mx_Mok mq_146 := ⟨rfl, by decide, mx_gt 1105 (by decide +kernel) rfl, mx_gt 77 (by decide +kernel) rfl, by decide, by decide⟩
abbrev mq_147 : mx_Q := (⟨"LeagueOffice", "can", "(II)I"⟩, prog_1_method_30_code, 3, (some .int))
theorem mo_147 : mx_Mok mq_147 := ⟨rfl, by decide, mx_gt 1123 (by decide +kernel) rfl, mx_gt 77 (by decide +kernel) rfl, by decide, by decide⟩
abbrev mq_148 : mx_Q := (⟨"LeagueOffice", "sure", "(II)I"⟩, prog_1_method_31_code, 3, (some .int))
theorem mo_148 : mx_Mok mq_148 := ⟨rfl, by decide, mx_gt 1170 (by decide +kernel) rfl, mx_gt 77 (by decide +kernel) rfl, by decide, by decide⟩
abbrev mq_149 : mx_Q := (⟨"LeagueOffice", "needs", "(II)I"⟩, prog_1_method_32_code, 3, (some .int))
theorem mo_149 : mx_Mok mq_149 := ⟨rfl, by decide, mx_gt 1174 (by decide +kernel) rfl, mx_gt 77 (by decide +kernel) rfl, by decide, by decide⟩
abbrev mq_150 : mx_Q := (⟨"LeagueOffice", "coin", "(III)J"⟩, prog_1_method_33_code, 4, (some .long))
theorem mo_150 : mx_Mok mq_150 := ⟨rfl, by decide, mx_gt 1186 (by decide +kernel) rfl, mx_gt 77 (by decide +kernel) rfl, by decide, by decide⟩
abbrev mq_151 : mx_Q := (⟨"LeagueOffice", "meet", "(I)I"⟩, prog_1_method_34_code, 4, (some .int))
theorem mo_151 : mx_Mok mq_151 := ⟨rfl, by decide, mx_gt 1215 (by decide +kernel) rfl, mx_gt 77 (by decide +kernel) rfl, by decide, by decide⟩
abbrev mq_152 : mx_Q := (⟨"LeagueOffice", "laid", "(II)I"⟩, prog_1_method_35_code, 3, (some .int))
theorem mo_152 : mx_Mok mq_152 := ⟨rfl, by decide, mx_gt 1235 (by decide +kernel) rfl, mx_gt 77 (by decide +kernel) rfl, by decide, by decide⟩
abbrev mq_153 : mx_Q := (⟨"LeagueOffice", "count", "(I)I"⟩, prog_1_method_36_code, 2, (some .int))
theorem mo_153 : mx_Mok mq_153 := ⟨rfl, by decide, mx_gt 1253 (by decide +kernel) rfl, mx_gt 77 (by decide +kernel) rfl, by decide, by decide⟩
abbrev mq_154 : mx_Q := (⟨"LeagueOffice", "sheet", "(III)I"⟩, prog_1_method_37_code, 4, (some .int))
theorem mo_154 : mx_Mok mq_154 := ⟨rfl, by decide, mx_gt 1257 (by decide +kernel) rfl, mx_gt 77 (by decide +kernel) rfl, by decide, by decide⟩
abbrev mq_155 : mx_Q := (⟨"LeagueOffice", "cell", "(III)I"⟩, prog_1_method_38_code, 4, (some .int))
theorem mo_155 : mx_Mok mq_155 := ⟨rfl, by decide, mx_gt 1270 (by decide +kernel) rfl, mx_gt 77 (by decide +kernel) rfl, by decide, by decide⟩
abbrev mq_156 : mx_Q := (⟨"LeagueOffice", "copy", "(IIIII)I"⟩, prog_1_method_39_code, 6, (some .int))
theorem mo_156 : mx_Mok mq_156 := ⟨rfl, by decide, mx_gt 1291 (by decide +kernel) rfl, mx_gt 77 (by decide +kernel) rfl, by decide, by decide⟩
abbrev mq_157 : mx_Q := (⟨"LeagueOffice", "results", "(IIII)I"⟩, prog_1_method_40_code, 9, (some .int))
theorem mo_157 : mx_Mok mq_157 := ⟨rfl, by decide, mx_gt 1304 (by decide +kernel) rfl, mx_gt 77 (by decide +kernel) rfl, by decide, by decide⟩
abbrev mq_158 : mx_Q := (⟨"LeagueOffice", "taken", "(II)I"⟩, prog_1_method_41_code, 3, (some .int))
theorem mo_158 : mx_Mok mq_158 := ⟨rfl, by decide, mx_gt 1312 (by decide +kernel) rfl, mx_gt 77 (by decide +kernel) rfl, by decide, by decide⟩
abbrev mq_159 : mx_Q := (⟨"LeagueOffice", "tellResult", "(III)I"⟩, prog_1_method_42_code, 4, (some .int))
theorem mo_159 : mx_Mok mq_159 := ⟨rfl, by decide, mx_gt 801 (by decide +kernel) rfl, mx_gt 77 (by decide +kernel) rfl, by decide, by decide⟩
abbrev mq_160 : mx_Q := (⟨"LeagueOffice", "inside", "(II)Z"⟩, prog_1_method_43_code, 2, (some .boolean))
theorem mo_160 : mx_Mok mq_160 := ⟨rfl, by decide, mx_gt 738 (by decide +kernel) rfl, mx_gt 77 (by decide +kernel) rfl, by decide, by decide⟩
abbrev mq_161 : mx_Q := (⟨"LeagueOffice", "ofKind", "([II)I"⟩, prog_1_method_44_code, 2, (some .int))
theorem mo_161 : mx_Mok mq_161 := ⟨rfl, by decide, mx_gt 787 (by decide +kernel) rfl, mx_gt 77 (by decide +kernel) rfl, by decide, by decide⟩
abbrev mq_162 : mx_Q := (⟨"LeagueOffice", "isUnder", "(II)Z"⟩, prog_1_method_45_code, 4, (some .boolean))
theorem mo_162 : mx_Mok mq_162 := ⟨rfl, by decide, mx_gt 891 (by decide +kernel) rfl, mx_gt 77 (by decide +kernel) rfl, by decide, by decide⟩
abbrev mq_163 : mx_Q := (⟨"LeagueOfficeModel", "in", "(III)Z"⟩, prog_14_method_2_code, 3, (some .boolean))
theorem mo_163 : mx_Mok mq_163 := ⟨rfl, by decide, mx_gt 1320 (by decide +kernel) rfl, mx_gt 94 (by decide +kernel) rfl, by decide, by decide⟩
abbrev mq_164 : mx_Q := (⟨"LeagueOfficeModel", "isDay", "(I)Z"⟩, prog_14_method_3_code, 1, (some .boolean))
theorem mo_164 : mx_Mok mq_164 := ⟨rfl, by decide, mx_gt 1343 (by decide +kernel) rfl, mx_gt 94 (by decide +kernel) rfl, by decide, by decide⟩
abbrev mq_165 : mx_Q := (⟨"LeagueOfficeModel", "pass", "(I)I"⟩, prog_14_method_4_code, 2, (some .int))
theorem mo_165 : mx_Mok mq_165 := ⟨rfl, by decide, mx_gt 1317 (by decide +kernel) rfl, mx_gt 94 (by decide +kernel) rfl, by decide, by decide⟩
abbrev mq_166 : mx_Q := (⟨"LeagueOfficeModel", "isClub", "(I)Z"⟩, prog_14_method_5_code, 2, (some .boolean))
theorem mo_166 : mx_Mok mq_166 := ⟨rfl, by decide, mx_gt 1336 (by decide +kernel) rfl, mx_gt 94 (by decide +kernel) rfl, by decide, by decide⟩
abbrev mq_167 : mx_Q := (⟨"LeagueOfficeModel", "isStep", "(I)Z"⟩, prog_14_method_6_code, 1, (some .boolean))
theorem mo_167 : mx_Mok mq_167 := ⟨rfl, by decide, mx_gt 1327 (by decide +kernel) rfl, mx_gt 94 (by decide +kernel) rfl, by decide, by decide⟩
abbrev mq_168 : mx_Q := (⟨"LeagueOfficeModel", "club", "(II)I"⟩, prog_14_method_7_code, 3, (some .int))
theorem mo_168 : mx_Mok mq_168 := ⟨rfl, by decide, mx_gt 1324 (by decide +kernel) rfl, mx_gt 94 (by decide +kernel) rfl, by decide, by decide⟩
abbrev mq_169 : mx_Q := (⟨"LeagueOfficeModel", "step", "(II)I"⟩, prog_14_method_8_code, 4, (some .int))
theorem mo_169 : mx_Mok mq_169 := ⟨rfl, by decide, mx_gt 1331 (by decide +kernel) rfl, mx_gt 94 (by decide +kernel) rfl, by decide, by decide⟩
abbrev mq_170 : mx_Q := (⟨"LeagueOfficeModel", "isGame", "(I)Z"⟩, prog_14_method_9_code, 2, (some .boolean))
theorem mo_170 : mx_Mok mq_170 := ⟨rfl, by decide, mx_gt 1351 (by decide +kernel) rfl, mx_gt 94 (by decide +kernel) rfl, by decide, by decide⟩
abbrev mq_171 : mx_Q := (⟨"LeagueOfficeModel", "isUnder", "(II)Z"⟩, prog_14_method_10_code, 2, (some .boolean))
theorem mo_171 : mx_Mok mq_171 := ⟨rfl, by decide, mx_gt 1961 (by decide +kernel) rfl, mx_gt 94 (by decide +kernel) rfl, by decide, by decide⟩
abbrev mq_172 : mx_Q := (⟨"LeagueOfficeModel", "counts", "(I)Z"⟩, prog_14_method_11_code, 1, (some .boolean))
theorem mo_172 : mx_Mok mq_172 := ⟨rfl, by decide, mx_gt 1354 (by decide +kernel) rfl, mx_gt 94 (by decide +kernel) rfl, by decide, by decide⟩
abbrev mq_173 : mx_Q := (⟨"LeagueOfficeModel", "serves", "(I)Z"⟩, prog_14_method_12_code, 1, (some .boolean))
theorem mo_173 : mx_Mok mq_173 := ⟨rfl, by decide, mx_gt 1357 (by decide +kernel) rfl, mx_gt 94 (by decide +kernel) rfl, by decide, by decide⟩
abbrev mq_174 : mx_Q := (⟨"LeagueOfficeModel", "gate", "(I)I"⟩, prog_14_method_13_code, 1, (some .int))
theorem mo_174 : mx_Mok mq_174 := ⟨rfl, by decide, mx_gt 1360 (by decide +kernel) rfl, mx_gt 94 (by decide +kernel) rfl, by decide, by decide⟩
abbrev mq_175 : mx_Q := (⟨"LeagueOfficeModel", "homePart", "(I)I"⟩, prog_14_method_14_code, 1, (some .int))
theorem mo_175 : mx_Mok mq_175 := ⟨rfl, by decide, mx_gt 1363 (by decide +kernel) rfl, mx_gt 94 (by decide +kernel) rfl, by decide, by decide⟩
abbrev mq_176 : mx_Q := (⟨"LeagueOfficeModel", "game", "(IIII)I"⟩, prog_14_method_15_code, 5, (some .int))
theorem mo_176 : mx_Mok mq_176 := ⟨rfl, by decide, mx_gt 1340 (by decide +kernel) rfl, mx_gt 94 (by decide +kernel) rfl, by decide, by decide⟩
abbrev mq_177 : mx_Q := (⟨"LeagueOfficeModel", "gameTold", "(II)I"⟩, prog_14_method_16_code, 3, (some .int))
theorem mo_177 : mx_Mok mq_177 := ⟨rfl, by decide, mx_gt 1347 (by decide +kernel) rfl, mx_gt 94 (by decide +kernel) rfl, by decide, by decide⟩
abbrev mq_178 : mx_Q := (⟨"LeagueOfficeModel", "result", "(III)I"⟩, prog_14_method_17_code, 4, (some .int))
theorem mo_178 : mx_Mok mq_178 := ⟨rfl, by decide, mx_gt 1367 (by decide +kernel) rfl, mx_gt 94 (by decide +kernel) rfl, by decide, by decide⟩
abbrev mq_179 : mx_Q := (⟨"LeagueOfficeModel", "knownIn", "(II)I"⟩, prog_14_method_18_code, 4, (some .int))
theorem mo_179 : mx_Mok mq_179 := ⟨rfl, by decide, mx_gt 1375 (by decide +kernel) rfl, mx_gt 94 (by decide +kernel) rfl, by decide, by decide⟩
abbrev mq_180 : mx_Q := (⟨"LeagueOfficeModel", "known", "(II)I"⟩, prog_14_method_19_code, 3, (some .int))
theorem mo_180 : mx_Mok mq_180 := ⟨rfl, by decide, mx_gt 1371 (by decide +kernel) rfl, mx_gt 94 (by decide +kernel) rfl, by decide, by decide⟩
abbrev mq_181 : mx_Q := (⟨"LeagueOfficeModel", "<init>", "()V"⟩, prog_14_method_20_code, 3, none)
theorem mo_181 : mx_Mok mq_181 := ⟨rfl, by decide, mx_gt 1379 (by decide +kernel) rfl, mx_gt 94 (by decide +kernel) rfl, by decide, by decide⟩
abbrev mq_182 : mx_Q := (⟨"LeagueOfficeModel", "feed", "(IJ)I"⟩, prog_14_method_21_code, 5, (some .int))
theorem mo_182 : mx_Mok mq_182 := ⟨rfl, by decide, mx_gt 1691 (by decide +kernel) rfl, mx_gt 94 (by decide +kernel) rfl, by decide, by decide⟩
abbrev mq_183 : mx_Q := (⟨"LeagueOfficeModel", "isLetter", "(I)Z"⟩, prog_14_method_22_code, 1, (some .boolean))
theorem mo_183 : mx_Mok mq_183 := ⟨rfl, by decide, mx_gt 1393 (by decide +kernel) rfl, mx_gt 94 (by decide +kernel) rfl, by decide, by decide⟩
abbrev mq_184 : mx_Q := (⟨"LeagueOfficeModel", "isDigit", "(I)Z"⟩, prog_14_method_23_code, 1, (some .boolean))
theorem mo_184 : mx_Mok mq_184 := ⟨rfl, by decide, mx_gt 1396 (by decide +kernel) rfl, mx_gt 94 (by decide +kernel) rfl, by decide, by decide⟩
abbrev mq_185 : mx_Q := (⟨"LeagueOfficeModel", "isSign", "(I)Z"⟩, prog_14_method_24_code, 1, (some .boolean))
theorem mo_185 : mx_Mok mq_185 := ⟨rfl, by decide, mx_gt 1399 (by decide +kernel) rfl, mx_gt 94 (by decide +kernel) rfl, by decide, by decide⟩
abbrev mq_186 : mx_Q := (⟨"LeagueOfficeModel", "nextToken", "()V"⟩, prog_14_method_25_code, 1, none)
theorem mo_186 : mx_Mok mq_186 := ⟨rfl, by decide, mx_gt 1390 (by decide +kernel) rfl, mx_gt 94 (by decide +kernel) rfl, by decide, by decide⟩
abbrev mq_187 : mx_Q := (⟨"LeagueOfficeModel", "isWord", "(J)Z"⟩, prog_14_method_26_code, 6, (some .boolean))
theorem mo_187 : mx_Mok mq_187 := ⟨rfl, by decide, mx_gt 1405 (by decide +kernel) rfl, mx_gt 94 (by decide +kernel) rfl, by decide, by decide⟩
abbrev mq_188 : mx_Q := (⟨"LeagueOfficeModel", "faultHere", "()V"⟩, prog_14_method_27_code, 1, none)
theorem mo_188 : mx_Mok mq_188 := ⟨rfl, by decide, mx_gt 1411 (by decide +kernel) rfl, mx_gt 94 (by decide +kernel) rfl, by decide, by decide⟩
abbrev mq_189 : mx_Q := (⟨"LeagueOfficeModel", "lay", "(II)V"⟩, prog_14_method_28_code, 3, none)
theorem mo_189 : mx_Mok mq_189 := ⟨rfl, by decide, mx_gt 1432 (by decide +kernel) rfl, mx_gt 94 (by decide +kernel) rfl, by decide, by decide⟩
abbrev mq_190 : mx_Q := (⟨"LeagueOfficeModel", "opens", "()Z"⟩, prog_14_method_29_code, 1, (some .boolean))
theorem mo_190 : mx_Mok mq_190 := ⟨rfl, by decide, mx_gt 1428 (by decide +kernel) rfl, mx_gt 94 (by decide +kernel) rfl, by decide, by decide⟩
abbrev mq_191 : mx_Q := (⟨"LeagueOfficeModel", "nameOf", "()I"⟩, prog_14_method_30_code, 2, (some .int))
theorem mo_191 : mx_Mok mq_191 := ⟨rfl, by decide, mx_gt 1448 (by decide +kernel) rfl, mx_gt 94 (by decide +kernel) rfl, by decide, by decide⟩
abbrev mq_192 : mx_Q := (⟨"LeagueOfficeModel", "one", "()V"⟩, prog_14_method_31_code, 1, none)
theorem mo_192 : mx_Mok mq_192 := ⟨rfl, by decide, mx_gt 1444 (by decide +kernel) rfl, mx_gt 94 (by decide +kernel) rfl, by decide, by decide⟩
abbrev mq_193 : mx_Q := (⟨"LeagueOfficeModel", "term", "()V"⟩, prog_14_method_32_code, 1, none)
theorem mo_193 : mx_Mok mq_193 := ⟨rfl, by decide, mx_gt 1440 (by decide +kernel) rfl, mx_gt 94 (by decide +kernel) rfl, by decide, by decide⟩
abbrev mq_194 : mx_Q := (⟨"LeagueOfficeModel", "sum", "()V"⟩, prog_14_method_33_code, 2, none)
theorem mo_194 : mx_Mok mq_194 := ⟨rfl, by decide, mx_gt 1436 (by decide +kernel) rfl, mx_gt 94 (by decide +kernel) rfl, by decide, by decide⟩
abbrev mq_195 : mx_Q := (⟨"LeagueOfficeModel", "not", "()V"⟩, prog_14_method_34_code, 2, none)
theorem mo_195 : mx_Mok mq_195 := ⟨rfl, by decide, mx_gt 1423 (by decide +kernel) rfl, mx_gt 94 (by decide +kernel) rfl, by decide, by decide⟩
abbrev mq_196 : mx_Q := (⟨"LeagueOfficeModel", "and", "()V"⟩, prog_14_method_35_code, 1, none)
theorem mo_196 : mx_Mok mq_196 := ⟨rfl, by decide, mx_gt 1419 (by decide +kernel) rfl, mx_gt 94 (by decide +kernel) rfl, by decide, by decide⟩
abbrev mq_197 : mx_Q := (⟨"LeagueOfficeModel", "either", "()V"⟩, prog_14_method_36_code, 1, none)
theorem mo_197 : mx_Mok mq_197 := ⟨rfl, by decide, mx_gt 1415 (by decide +kernel) rfl, mx_gt 94 (by decide +kernel) rfl, by decide, by decide⟩
abbrev mq_198 : mx_Q := (⟨"LeagueOfficeModel", "readText", "()I"⟩, prog_14_method_37_code, 2, (some .int))
theorem mo_198 : mx_Mok mq_198 := ⟨rfl, by decide, mx_gt 1386 (by decide +kernel) rfl, mx_gt 94 (by decide +kernel) rfl, by decide, by decide⟩
abbrev mq_199 : mx_Q := (⟨"LeagueOfficeModel", "text", "()I"⟩, prog_14_method_38_code, 1, (some .int))
theorem mo_199 : mx_Mok mq_199 := ⟨rfl, by decide, mx_gt 1695 (by decide +kernel) rfl, mx_gt 94 (by decide +kernel) rfl, by decide, by decide⟩
abbrev mq_200 : mx_Q := (⟨"LeagueOfficeModel", "rule", "(II)I"⟩, prog_14_method_39_code, 3, (some .int))
theorem mo_200 : mx_Mok mq_200 := ⟨rfl, by decide, mx_gt 1699 (by decide +kernel) rfl, mx_gt 94 (by decide +kernel) rfl, by decide, by decide⟩
abbrev mq_201 : mx_Q := (⟨"LeagueOfficeModel", "textOn", "(I)I"⟩, prog_14_method_40_code, 4, (some .int))
theorem mo_201 : mx_Mok mq_201 := ⟨rfl, by decide, mx_gt 1707 (by decide +kernel) rfl, mx_gt 94 (by decide +kernel) rfl, by decide, by decide⟩
abbrev mq_202 : mx_Q := (⟨"LeagueOfficeModel", "ruleOf", "(I)I"⟩, prog_14_method_41_code, 2, (some .int))
theorem mo_202 : mx_Mok mq_202 := ⟨rfl, by decide, mx_gt 1703 (by decide +kernel) rfl, mx_gt 94 (by decide +kernel) rfl, by decide, by decide⟩
abbrev mq_203 : mx_Q := (⟨"LeagueOfficeModel", "both", "(III)I"⟩, prog_14_method_42_code, 3, (some .int))
theorem mo_203 : mx_Mok mq_203 := ⟨rfl, by decide, mx_gt 1745 (by decide +kernel) rfl, mx_gt 94 (by decide +kernel) rfl, by decide, by decide⟩
abbrev mq_204 : mx_Q := (⟨"LeagueOfficeModel", "says", "(II)I"⟩, prog_14_method_43_code, 6, (some .int))
theorem mo_204 : mx_Mok mq_204 := ⟨rfl, by decide, mx_gt 1742 (by decide +kernel) rfl, mx_gt 94 (by decide +kernel) rfl, by decide, by decide⟩
abbrev mq_205 : mx_Q := (⟨"LeagueOfficeModel", "setFacts", "(IIIIII)V"⟩, prog_14_method_44_code, 7, none)
theorem mo_205 : mx_Mok mq_205 := ⟨rfl, by decide, mx_gt 1738 (by decide +kernel) rfl, mx_gt 94 (by decide +kernel) rfl, by decide, by decide⟩
abbrev mq_206 : mx_Q := (⟨"LeagueOfficeModel", "take", "(III)I"⟩, prog_14_method_45_code, 4, (some .int))
theorem mo_206 : mx_Mok mq_206 := ⟨rfl, by decide, mx_gt 1711 (by decide +kernel) rfl, mx_gt 94 (by decide +kernel) rfl, by decide, by decide⟩
abbrev mq_207 : mx_Q := (⟨"LeagueOfficeModel", "endOf", "(II)I"⟩, prog_14_method_46_code, 3, (some .int))
theorem mo_207 : mx_Mok mq_207 := ⟨rfl, by decide, mx_gt 1727 (by decide +kernel) rfl, mx_gt 94 (by decide +kernel) rfl, by decide, by decide⟩
abbrev mq_208 : mx_Q := (⟨"LeagueOfficeModel", "isIn", "(II)Z"⟩, prog_14_method_47_code, 3, (some .boolean))
theorem mo_208 : mx_Mok mq_208 := ⟨rfl, by decide, mx_gt 1723 (by decide +kernel) rfl, mx_gt 94 (by decide +kernel) rfl, by decide, by decide⟩
abbrev mq_209 : mx_Q := (⟨"LeagueOfficeModel", "made", "(IZ)I"⟩, prog_14_method_48_code, 2, (some .int))
theorem mo_209 : mx_Mok mq_209 := ⟨rfl, by decide, mx_gt 1734 (by decide +kernel) rfl, mx_gt 94 (by decide +kernel) rfl, by decide, by decide⟩
abbrev mq_210 : mx_Q := (⟨"LeagueOfficeModel", "pointsIn", "(III)I"⟩, prog_14_method_49_code, 6, (some .int))
theorem mo_210 : mx_Mok mq_210 := ⟨rfl, by decide, mx_gt 1731 (by decide +kernel) rfl, mx_gt 94 (by decide +kernel) rfl, by decide, by decide⟩
abbrev mq_211 : mx_Q := (⟨"LeagueOfficeModel", "pointsOf", "(II)J"⟩, prog_14_method_50_code, 6, (some .long))
theorem mo_211 : mx_Mok mq_211 := ⟨rfl, by decide, mx_gt 1719 (by decide +kernel) rfl, mx_gt 94 (by decide +kernel) rfl, by decide, by decide⟩
abbrev mq_212 : mx_Q := (⟨"LeagueOfficeModel", "tally", "(III)V"⟩, prog_14_method_51_code, 6, none)
theorem mo_212 : mx_Mok mq_212 := ⟨rfl, by decide, mx_gt 1758 (by decide +kernel) rfl, mx_gt 94 (by decide +kernel) rfl, by decide, by decide⟩
abbrev mq_213 : mx_Q := (⟨"LeagueOfficeModel", "likeBy", "(II)J"⟩, prog_14_method_52_code, 3, (some .long))
theorem mo_213 : mx_Mok mq_213 := ⟨rfl, by decide, mx_gt 1762 (by decide +kernel) rfl, mx_gt 94 (by decide +kernel) rfl, by decide, by decide⟩
abbrev mq_214 : mx_Q := (⟨"LeagueOfficeModel", "likeOf", "(II)J"⟩, prog_14_method_53_code, 4, (some .long))
theorem mo_214 : mx_Mok mq_214 := ⟨rfl, by decide, mx_gt 1754 (by decide +kernel) rfl, mx_gt 94 (by decide +kernel) rfl, by decide, by decide⟩
abbrev mq_215 : mx_Q := (⟨"LeagueOfficeModel", "points", "(II)J"⟩, prog_14_method_54_code, 3, (some .long))
theorem mo_215 : mx_Mok mq_215 := ⟨rfl, by decide, mx_gt 1715 (by decide +kernel) rfl, mx_gt 94 (by decide +kernel) rfl, by decide, by decide⟩
abbrev mq_216 : mx_Q := (⟨"LeagueOfficeModel", "like", "(II)J"⟩, prog_14_method_55_code, 3, (some .long))
theorem mo_216 : mx_Mok mq_216 := ⟨rfl, by decide, mx_gt 1750 (by decide +kernel) rfl, mx_gt 94 (by decide +kernel) rfl, by decide, by decide⟩
abbrev mq_217 : mx_Q := (⟨"LeagueOfficeModel", "findAll", "(II)V"⟩, prog_14_method_56_code, 4, none)
theorem mo_217 : mx_Mok mq_217 := ⟨rfl, by decide, mx_gt 1770 (by decide +kernel) rfl, mx_gt 94 (by decide +kernel) rfl, by decide, by decide⟩
abbrev mq_218 : mx_Q := (⟨"LeagueOfficeModel", "isAhead", "(II)Z"⟩, prog_14_method_57_code, 3, (some .boolean))
theorem mo_218 : mx_Mok mq_218 := ⟨rfl, by decide, mx_gt 1778 (by decide +kernel) rfl, mx_gt 94 (by decide +kernel) rfl, by decide, by decide⟩
abbrev mq_219 : mx_Q := (⟨"LeagueOfficeModel", "placeNow", "(I)I"⟩, prog_14_method_58_code, 4, (some .int))
theorem mo_219 : mx_Mok mq_219 := ⟨rfl, by decide, mx_gt 1774 (by decide +kernel) rfl, mx_gt 94 (by decide +kernel) rfl, by decide, by decide⟩
abbrev mq_220 : mx_Q := (⟨"LeagueOfficeModel", "table", "(III)I"⟩, prog_14_method_59_code, 5, (some .int))
theorem mo_220 : mx_Mok mq_220 := ⟨rfl, by decide, mx_gt 1766 (by decide +kernel) rfl, mx_gt 94 (by decide +kernel) rfl, by decide, by decide⟩
abbrev mq_221 : mx_Q := (⟨"LeagueOfficeModel", "place", "(II)I"⟩, prog_14_method_60_code, 3, (some .int))
theorem mo_221 : mx_Mok mq_221 := ⟨rfl, by decide, mx_gt 1782 (by decide +kernel) rfl, mx_gt 94 (by decide +kernel) rfl, by decide, by decide⟩
abbrev mq_222 : mx_Q := (⟨"LeagueOfficeModel", "isPlayer", "(I)Z"⟩, prog_14_method_61_code, 2, (some .boolean))
theorem mo_222 : mx_Mok mq_222 := ⟨rfl, by decide, mx_gt 1794 (by decide +kernel) rfl, mx_gt 94 (by decide +kernel) rfl, by decide, by decide⟩
abbrev mq_223 : mx_Q := (⟨"LeagueOfficeModel", "player", "()I"⟩, prog_14_method_62_code, 1, (some .int))
theorem mo_223 : mx_Mok mq_223 := ⟨rfl, by decide, mx_gt 1786 (by decide +kernel) rfl, mx_gt 94 (by decide +kernel) rfl, by decide, by decide⟩
abbrev mq_224 : mx_Q := (⟨"LeagueOfficeModel", "register", "(III)I"⟩, prog_14_method_63_code, 4, (some .int))
theorem mo_224 : mx_Mok mq_224 := ⟨rfl, by decide, mx_gt 1790 (by decide +kernel) rfl, mx_gt 94 (by decide +kernel) rfl, by decide, by decide⟩
abbrev mq_225 : mx_Q := (⟨"LeagueOfficeModel", "clubFor", "(II)I"⟩, prog_14_method_64_code, 5, (some .int))
theorem mo_225 : mx_Mok mq_225 := ⟨rfl, by decide, mx_gt 1802 (by decide +kernel) rfl, mx_gt 94 (by decide +kernel) rfl, by decide, by decide⟩
abbrev mq_226 : mx_Q := (⟨"LeagueOfficeModel", "clubOf", "(II)I"⟩, prog_14_method_65_code, 3, (some .int))
theorem mo_226 : mx_Mok mq_226 := ⟨rfl, by decide, mx_gt 1798 (by decide +kernel) rfl, mx_gt 94 (by decide +kernel) rfl, by decide, by decide⟩
abbrev mq_227 : mx_Q := (⟨"LeagueOfficeModel", "card", "(III)I"⟩, prog_14_method_66_code, 4, (some .int))
theorem mo_227 : mx_Mok mq_227 := ⟨rfl, by decide, mx_gt 1806 (by decide +kernel) rfl, mx_gt 94 (by decide +kernel) rfl, by decide, by decide⟩
abbrev mq_228 : mx_Q := (⟨"LeagueOfficeModel", "bansOf", "(I)I"⟩, prog_14_method_67_code, 4, (some .int))
theorem mo_228 : mx_Mok mq_228 := ⟨rfl, by decide, mx_gt 1814 (by decide +kernel) rfl, mx_gt 94 (by decide +kernel) rfl, by decide, by decide⟩
abbrev mq_229 : mx_Q := (⟨"LeagueOfficeModel", "bans", "(I)I"⟩, prog_14_method_68_code, 2, (some .int))
theorem mo_229 : mx_Mok mq_229 := ⟨rfl, by decide, mx_gt 1810 (by decide +kernel) rfl, mx_gt 94 (by decide +kernel) rfl, by decide, by decide⟩
abbrev mq_230 : mx_Q := (⟨"LeagueOfficeModel", "isBehind", "(II)Z"⟩, prog_14_method_69_code, 3, (some .boolean))
theorem mo_230 : mx_Mok mq_230 := ⟨rfl, by decide, mx_gt 1826 (by decide +kernel) rfl, mx_gt 94 (by decide +kernel) rfl, by decide, by decide⟩
abbrev mq_231 : mx_Q := (⟨"LeagueOfficeModel", "findBanned", "(I)V"⟩, prog_14_method_70_code, 8, none)
theorem mo_231 : mx_Mok mq_231 := ⟨rfl, by decide, mx_gt 1822 (by decide +kernel) rfl, mx_gt 94 (by decide +kernel) rfl, by decide, by decide⟩
abbrev mq_232 : mx_Q := (⟨"LeagueOfficeModel", "banned", "(II)I"⟩, prog_14_method_71_code, 3, (some .int))
theorem mo_232 : mx_Mok mq_232 := ⟨rfl, by decide, mx_gt 1818 (by decide +kernel) rfl, mx_gt 94 (by decide +kernel) rfl, by decide, by decide⟩
abbrev mq_233 : mx_Q := (⟨"LeagueOfficeModel", "mayPlay", "(II)Z"⟩, prog_14_method_72_code, 4, (some .boolean))
theorem mo_233 : mx_Mok mq_233 := ⟨rfl, by decide, mx_gt 1834 (by decide +kernel) rfl, mx_gt 94 (by decide +kernel) rfl, by decide, by decide⟩
abbrev mq_234 : mx_Q := (⟨"LeagueOfficeModel", "may", "(II)I"⟩, prog_14_method_73_code, 3, (some .int))
theorem mo_234 : mx_Mok mq_234 := ⟨rfl, by decide, mx_gt 1830 (by decide +kernel) rfl, mx_gt 94 (by decide +kernel) rfl, by decide, by decide⟩
abbrev mq_235 : mx_Q := (⟨"LeagueOfficeModel", "played", "(II)I"⟩, prog_14_method_74_code, 4, (some .int))
theorem mo_235 : mx_Mok mq_235 := ⟨rfl, by decide, mx_gt 1838 (by decide +kernel) rfl, mx_gt 94 (by decide +kernel) rfl, by decide, by decide⟩
abbrev mq_236 : mx_Q := (⟨"LeagueOfficeModel", "isWrong", "(I)Z"⟩, prog_14_method_75_code, 3, (some .boolean))
theorem mo_236 : mx_Mok mq_236 := ⟨rfl, by decide, mx_gt 1846 (by decide +kernel) rfl, mx_gt 94 (by decide +kernel) rfl, by decide, by decide⟩
abbrev mq_237 : mx_Q := (⟨"LeagueOfficeModel", "wrong", "(I)I"⟩, prog_14_method_76_code, 4, (some .int))
theorem mo_237 : mx_Mok mq_237 := ⟨rfl, by decide, mx_gt 1842 (by decide +kernel) rfl, mx_gt 94 (by decide +kernel) rfl, by decide, by decide⟩
abbrev mq_238 : mx_Q := (⟨"LeagueOfficeModel", "change", "(IIIII)V"⟩, prog_14_method_77_code, 7, none)
theorem mo_238 : mx_Mok mq_238 := ⟨rfl, by decide, mx_gt 1854 (by decide +kernel) rfl, mx_gt 94 (by decide +kernel) rfl, by decide, by decide⟩
abbrev mq_239 : mx_Q := (⟨"LeagueOfficeModel", "fail", "(I)I"⟩, prog_14_method_78_code, 6, (some .int))
theorem mo_239 : mx_Mok mq_239 := ⟨rfl, by decide, mx_gt 1850 (by decide +kernel) rfl, mx_gt 94 (by decide +kernel) rfl, by decide, by decide⟩
abbrev mq_240 : mx_Q := (⟨"LeagueOfficeModel", "undo", "(I)I"⟩, prog_14_method_79_code, 5, (some .int))
theorem mo_240 : mx_Mok mq_240 := ⟨rfl, by decide, mx_gt 1858 (by decide +kernel) rfl, mx_gt 94 (by decide +kernel) rfl, by decide, by decide⟩
abbrev mq_241 : mx_Q := (⟨"LeagueOfficeModel", "findStill", "(I)V"⟩, prog_14_method_80_code, 3, none)
theorem mo_241 : mx_Mok mq_241 := ⟨rfl, by decide, mx_gt 1866 (by decide +kernel) rfl, mx_gt 94 (by decide +kernel) rfl, by decide, by decide⟩
abbrev mq_242 : mx_Q := (⟨"LeagueOfficeModel", "open", "(I)I"⟩, prog_14_method_81_code, 2, (some .int))
theorem mo_242 : mx_Mok mq_242 := ⟨rfl, by decide, mx_gt 1862 (by decide +kernel) rfl, mx_gt 94 (by decide +kernel) rfl, by decide, by decide⟩
abbrev mq_243 : mx_Q := (⟨"LeagueOfficeModel", "endBy", "(I)I"⟩, prog_14_method_82_code, 1, (some .int))
theorem mo_243 : mx_Mok mq_243 := ⟨rfl, by decide, mx_gt 1892 (by decide +kernel) rfl, mx_gt 94 (by decide +kernel) rfl, by decide, by decide⟩
abbrev mq_244 : mx_Q := (⟨"LeagueOfficeModel", "power3", "(I)I"⟩, prog_14_method_83_code, 3, (some .int))
theorem mo_244 : mx_Mok mq_244 := ⟨rfl, by decide, mx_gt 1885 (by decide +kernel) rfl, mx_gt 94 (by decide +kernel) rfl, by decide, by decide⟩
abbrev mq_245 : mx_Q := (⟨"LeagueOfficeModel", "findBase", "(I)V"⟩, prog_14_method_84_code, 3, none)
theorem mo_245 : mx_Mok mq_245 := ⟨rfl, by decide, mx_gt 1882 (by decide +kernel) rfl, mx_gt 94 (by decide +kernel) rfl, by decide, by decide⟩
abbrev mq_246 : mx_Q := (⟨"LeagueOfficeModel", "addEnds", "(III)V"⟩, prog_14_method_85_code, 8, none)
theorem mo_246 : mx_Mok mq_246 := ⟨rfl, by decide, mx_gt 1889 (by decide +kernel) rfl, mx_gt 94 (by decide +kernel) rfl, by decide, by decide⟩
abbrev mq_247 : mx_Q := (⟨"LeagueOfficeModel", "goThrough", "(I)I"⟩, prog_14_method_86_code, 4, (some .int))
theorem mo_247 : mx_Mok mq_247 := ⟨rfl, by decide, mx_gt 1878 (by decide +kernel) rfl, mx_gt 94 (by decide +kernel) rfl, by decide, by decide⟩
abbrev mq_248 : mx_Q := (⟨"LeagueOfficeModel", "canHave", "(IZ)I"⟩, prog_14_method_87_code, 6, (some .int))
theorem mo_248 : mx_Mok mq_248 := ⟨rfl, by decide, mx_gt 1874 (by decide +kernel) rfl, mx_gt 94 (by decide +kernel) rfl, by decide, by decide⟩
abbrev mq_249 : mx_Q := (⟨"LeagueOfficeModel", "can", "(II)I"⟩, prog_14_method_88_code, 3, (some .int))
theorem mo_249 : mx_Mok mq_249 := ⟨rfl, by decide, mx_gt 1870 (by decide +kernel) rfl, mx_gt 94 (by decide +kernel) rfl, by decide, by decide⟩
abbrev mq_250 : mx_Q := (⟨"LeagueOfficeModel", "sure", "(II)I"⟩, prog_14_method_89_code, 3, (some .int))
theorem mo_250 : mx_Mok mq_250 := ⟨rfl, by decide, mx_gt 1896 (by decide +kernel) rfl, mx_gt 94 (by decide +kernel) rfl, by decide, by decide⟩
abbrev mq_251 : mx_Q := (⟨"LeagueOfficeModel", "needs", "(II)I"⟩, prog_14_method_90_code, 10, (some .int))
theorem mo_251 : mx_Mok mq_251 := ⟨rfl, by decide, mx_gt 1900 (by decide +kernel) rfl, mx_gt 94 (by decide +kernel) rfl, by decide, by decide⟩
abbrev mq_252 : mx_Q := (⟨"LeagueOfficeModel", "gatePart", "(I)I"⟩, prog_14_method_91_code, 5, (some .int))
theorem mo_252 : mx_Mok mq_252 := ⟨rfl, by decide, mx_gt 1909 (by decide +kernel) rfl, mx_gt 94 (by decide +kernel) rfl, by decide, by decide⟩
abbrev mq_253 : mx_Q := (⟨"LeagueOfficeModel", "coin", "(III)J"⟩, prog_14_method_92_code, 19, (some .long))
theorem mo_253 : mx_Mok mq_253 := ⟨rfl, by decide, mx_gt 1904 (by decide +kernel) rfl, mx_gt 94 (by decide +kernel) rfl, by decide, by decide⟩
abbrev mq_254 : mx_Q := (⟨"LeagueOfficeModel", "hasMeeting", "(I)Z"⟩, prog_14_method_93_code, 3, (some .boolean))
theorem mo_254 : mx_Mok mq_254 := ⟨rfl, by decide, mx_gt 1918 (by decide +kernel) rfl, mx_gt 94 (by decide +kernel) rfl, by decide, by decide⟩
abbrev mq_255 : mx_Q := (⟨"LeagueOfficeModel", "meet", "(I)I"⟩, prog_14_method_94_code, 2, (some .int))
theorem mo_255 : mx_Mok mq_255 := ⟨rfl, by decide, mx_gt 1914 (by decide +kernel) rfl, mx_gt 94 (by decide +kernel) rfl, by decide, by decide⟩
abbrev mq_256 : mx_Q := (⟨"LeagueOfficeModel", "was", "(II)I"⟩, prog_14_method_95_code, 5, (some .int))
theorem mo_256 : mx_Mok mq_256 := ⟨rfl, by decide, mx_gt 1930 (by decide +kernel) rfl, mx_gt 94 (by decide +kernel) rfl, by decide, by decide⟩
abbrev mq_257 : mx_Q := (⟨"LeagueOfficeModel", "breaksBy", "(II)I"⟩, prog_14_method_96_code, 8, (some .int))
theorem mo_257 : mx_Mok mq_257 := ⟨rfl, by decide, mx_gt 1926 (by decide +kernel) rfl, mx_gt 94 (by decide +kernel) rfl, by decide, by decide⟩
abbrev mq_258 : mx_Q := (⟨"LeagueOfficeModel", "laid", "(II)I"⟩, prog_14_method_97_code, 7, (some .int))
theorem mo_258 : mx_Mok mq_258 := ⟨rfl, by decide, mx_gt 1922 (by decide +kernel) rfl, mx_gt 94 (by decide +kernel) rfl, by decide, by decide⟩
abbrev mq_259 : mx_Q := (⟨"LeagueOfficeModel", "count", "(I)I"⟩, prog_14_method_98_code, 2, (some .int))
theorem mo_259 : mx_Mok mq_259 := ⟨rfl, by decide, mx_gt 1934 (by decide +kernel) rfl, mx_gt 94 (by decide +kernel) rfl, by decide, by decide⟩
abbrev mq_260 : mx_Q := (⟨"LeagueOfficeModel", "isSheet", "(I)Z"⟩, prog_14_method_99_code, 1, (some .boolean))
theorem mo_260 : mx_Mok mq_260 := ⟨rfl, by decide, mx_gt 1941 (by decide +kernel) rfl, mx_gt 94 (by decide +kernel) rfl, by decide, by decide⟩
abbrev mq_261 : mx_Q := (⟨"LeagueOfficeModel", "sheet", "(III)I"⟩, prog_14_method_100_code, 5, (some .int))
theorem mo_261 : mx_Mok mq_261 := ⟨rfl, by decide, mx_gt 1938 (by decide +kernel) rfl, mx_gt 94 (by decide +kernel) rfl, by decide, by decide⟩
abbrev mq_262 : mx_Q := (⟨"LeagueOfficeModel", "cell", "(III)I"⟩, prog_14_method_101_code, 4, (some .int))
theorem mo_262 : mx_Mok mq_262 := ⟨rfl, by decide, mx_gt 1945 (by decide +kernel) rfl, mx_gt 94 (by decide +kernel) rfl, by decide, by decide⟩
abbrev mq_263 : mx_Q := (⟨"LeagueOfficeModel", "copy", "(IIIII)I"⟩, prog_14_method_102_code, 7, (some .int))
theorem mo_263 : mx_Mok mq_263 := ⟨rfl, by decide, mx_gt 1949 (by decide +kernel) rfl, mx_gt 94 (by decide +kernel) rfl, by decide, by decide⟩
abbrev mq_264 : mx_Q := (⟨"LeagueOfficeModel", "results", "(IIII)I"⟩, prog_14_method_103_code, 10, (some .int))
theorem mo_264 : mx_Mok mq_264 := ⟨rfl, by decide, mx_gt 1953 (by decide +kernel) rfl, mx_gt 94 (by decide +kernel) rfl, by decide, by decide⟩
abbrev mq_265 : mx_Q := (⟨"LeagueOfficeModel", "taken", "(II)I"⟩, prog_14_method_104_code, 3, (some .int))
theorem mo_265 : mx_Mok mq_265 := ⟨rfl, by decide, mx_gt 1958 (by decide +kernel) rfl, mx_gt 94 (by decide +kernel) rfl, by decide, by decide⟩
abbrev mq_266 : mx_Q := (⟨"java/lang/Math", "max", "(II)I"⟩, prog_15_method_65_code, 2, (some .int))
theorem mo_266 : mx_Mok mq_266 := ⟨rfl, by decide, mx_gt 119 (by decide +kernel) rfl, mx_gt 80 (by decide +kernel) rfl, by decide, by decide⟩
abbrev mq_267 : mx_Q := (⟨"java/lang/Math", "min", "(II)I"⟩, prog_15_method_69_code, 2, (some .int))
theorem mo_267 : mx_Mok mq_267 := ⟨rfl, by decide, mx_gt 996 (by decide +kernel) rfl, mx_gt 80 (by decide +kernel) rfl, by decide, by decide⟩
abbrev mq_268 : mx_Q := (⟨"java/lang/String", "length", "()I"⟩, prog_16_method_54_code, 1, (some .int))
theorem mo_268 : mx_Mok mq_268 := ⟨rfl, by decide, mx_gt 521 (by decide +kernel) rfl, mx_gt 90 (by decide +kernel) rfl, by decide, by decide⟩
abbrev mq_269 : mx_Q := (⟨"java/lang/String", "charAt", "(I)C"⟩, prog_16_method_56_code, 2, (some .char))
theorem mo_269 : mx_Mok mq_269 := ⟨rfl, by decide, mx_gt 531 (by decide +kernel) rfl, mx_gt 90 (by decide +kernel) rfl, by decide, by decide⟩
abbrev mq_270 : mx_Q := (⟨"java/lang/String", "coder", "()B"⟩, prog_16_method_152_code, 1, (some .byte))
theorem mo_270 : mx_Mok mq_270 := ⟨rfl, by decide, mx_gt 525 (by decide +kernel) rfl, mx_gt 90 (by decide +kernel) rfl, by decide, by decide⟩
abbrev mq_271 : mx_Q := (⟨"java/lang/String", "isLatin1", "()Z"⟩, prog_16_method_154_code, 1, (some .boolean))
theorem mo_271 : mx_Mok mq_271 := ⟨rfl, by decide, mx_gt 535 (by decide +kernel) rfl, mx_gt 90 (by decide +kernel) rfl, by decide, by decide⟩
abbrev mq_272 : mx_Q := (⟨"java/lang/String", "checkIndex", "(II)V"⟩, prog_16_method_155_code, 2, none)
theorem mo_272 : mx_Mok mq_272 := ⟨rfl, by decide, mx_gt 541 (by decide +kernel) rfl, mx_gt 90 (by decide +kernel) rfl, by decide, by decide⟩
abbrev mq_273 : mx_Q := (⟨"java/lang/StringLatin1", "charAt", "([BI)C"⟩, prog_17_method_2_code, 2, (some .char))
theorem mo_273 : mx_Mok mq_273 := ⟨rfl, by decide, mx_gt 538 (by decide +kernel) rfl, mx_gt 91 (by decide +kernel) rfl, by decide, by decide⟩
abbrev mq_274 : mx_Q := (⟨"java/util/Arrays", "fill", "([JJ)V"⟩, prog_20_method_101_code, 5, none)
theorem mo_274 : mx_Mok mq_274 := ⟨rfl, by decide, mx_gt 855 (by decide +kernel) rfl, mx_gt 96 (by decide +kernel) rfl, by decide, by decide⟩
abbrev mq_275 : mx_Q := (⟨"java/util/Arrays", "fill", "([II)V"⟩, prog_20_method_103_code, 4, none)
theorem mo_275 : mx_Mok mq_275 := ⟨rfl, by decide, mx_gt 862 (by decide +kernel) rfl, mx_gt 96 (by decide +kernel) rfl, by decide, by decide⟩
abbrev mq_276 : mx_Q := (⟨"jdk/internal/util/Preconditions", "checkIndex", "(IILjava/util/function/BiFunction;)I"⟩, prog_21_method_11_code, 3, (some .int))
theorem mo_276 : mx_Mok mq_276 := ⟨rfl, by decide, mx_gt 546 (by decide +kernel) rfl, mx_gt 92 (by decide +kernel) rfl, by decide, by decide⟩
def mx_MTl : List mx_Q := [mq_0, mq_1, mq_2, mq_3, mq_4, mq_5, mq_6, mq_7, mq_8, mq_9, mq_10, mq_11, mq_12, mq_13, mq_14, mq_15, mq_16, mq_17, mq_18, mq_19, mq_20, mq_21, mq_22, mq_23, mq_24, mq_25, mq_26, mq_27, mq_28, mq_29, mq_30, mq_31, mq_32, mq_33, mq_34, mq_35, mq_36, mq_37, mq_38, mq_39, mq_40, mq_41, mq_42, mq_43, mq_44, mq_45, mq_46, mq_47, mq_48, mq_49, mq_50, mq_51, mq_52, mq_53, mq_54, mq_55, mq_56, mq_57, mq_58, mq_59, mq_60, mq_61, mq_62, mq_63, mq_64, mq_65, mq_66, mq_67, mq_68, mq_69, mq_70, mq_71, mq_72, mq_73, mq_74, mq_75, mq_76, mq_77, mq_78, mq_79, mq_80, mq_81, mq_82, mq_83, mq_84, mq_85, mq_86, mq_87, mq_88, mq_89, mq_90, mq_91, mq_92, mq_93, mq_94, mq_95, mq_96, mq_97, mq_98, mq_99, mq_100, mq_101, mq_102, mq_103, mq_104, mq_105, mq_106, mq_107, mq_108, mq_109, mq_110, mq_111, mq_112, mq_113, mq_114, mq_115, mq_116, mq_117, mq_118, mq_119, mq_120, mq_121, mq_122, mq_123, mq_124, mq_125, mq_126, mq_127, mq_128, mq_129, mq_130, mq_131, mq_132, mq_133, mq_134, mq_135, mq_136, mq_137, mq_138, mq_139, mq_140, mq_141, mq_142, mq_143, mq_144, mq_145, mq_146, mq_147, mq_148, mq_149, mq_150, mq_151, mq_152, mq_153, mq_154, mq_155, mq_156, mq_157, mq_158, mq_159, mq_160, mq_161, mq_162, mq_163, mq_164, mq_165, mq_166, mq_167, mq_168, mq_169, mq_170, mq_171, mq_172, mq_173, mq_174, mq_175, mq_176, mq_177, mq_178, mq_179, mq_180, mq_181, mq_182, mq_183, mq_184, mq_185, mq_186, mq_187, mq_188, mq_189, mq_190, mq_191, mq_192, mq_193, mq_194, mq_195, mq_196, mq_197, mq_198, mq_199, mq_200, mq_201, mq_202, mq_203, mq_204, mq_205, mq_206, mq_207, mq_208, mq_209, mq_210, mq_211, mq_212, mq_213, mq_214, mq_215, mq_216, mq_217, mq_218, mq_219, mq_220, mq_221, mq_222, mq_223, mq_224, mq_225, mq_226, mq_227, mq_228, mq_229, mq_230, mq_231, mq_232, mq_233, mq_234, mq_235, mq_236, mq_237, mq_238, mq_239, mq_240, mq_241, mq_242, mq_243, mq_244, mq_245, mq_246, mq_247, mq_248, mq_249, mq_250, mq_251, mq_252, mq_253, mq_254, mq_255, mq_256, mq_257, mq_258, mq_259, mq_260, mq_261, mq_262, mq_263, mq_264, mq_265, mq_266, mq_267, mq_268, mq_269, mq_270, mq_271, mq_272, mq_273, mq_274, mq_275, mq_276]
def mx_MT (k : Nat) : Option mx_Q := mx_nth mx_MTl k
abbrev mq_L : mx_Q := (x, code, maxLocals, ret)
theorem ml_m_LeagueOffice_Book_11 : mx_ml "LeagueOffice$Book" 11 (⟨"LeagueOffice$Row", "<init>", "(I)V"⟩ : MethodName) 113 none := mx_ml_n (by decide +kernel)
theorem ml_in_114 : Cond.instanceMethod (⟨"LeagueOffice$Row", "<init>", "(I)V"⟩ : MethodName) ∈ mx_GT := mx_gt 114 (by decide +kernel) rfl
theorem ml_f_LeagueOffice_Book_14 : mx_fl "LeagueOffice$Book" 14 (TX0 1) 134 none := mx_fl_n (by decide +kernel)
theorem ml_f_LeagueOffice_Book_20 : mx_fl "LeagueOffice$Book" 20 (TX0 2) 139 none := mx_fl_n (by decide +kernel)
theorem ml_f_LeagueOffice_Book_23 : mx_fl "LeagueOffice$Book" 23 (TX0 3) 142 none := mx_fl_n (by decide +kernel)
theorem ml_f_LeagueOffice_Book_26 : mx_fl "LeagueOffice$Book" 26 (TX0 4) 149 none := mx_fl_n (by decide +kernel)
theorem ml_f_LeagueOffice_Book_29 : mx_fl "LeagueOffice$Book" 29 (TX0 5) 156 none := mx_fl_n (by decide +kernel)
theorem ml_f_LeagueOffice_Book_32 : mx_fl "LeagueOffice$Book" 32 (TX0 6) 163 none := mx_fl_n (by decide +kernel)
theorem ml_f_LeagueOffice_Book_35 : mx_fl "LeagueOffice$Book" 35 (TX0 7) 169 none := mx_fl_n (by decide +kernel)
theorem ml_f_LeagueOffice_Book_38 : mx_fl "LeagueOffice$Book" 38 (TX0 8) 172 none := mx_fl_n (by decide +kernel)
theorem ml_f_LeagueOffice_Book_41 : mx_fl "LeagueOffice$Book" 41 (TX0 9) 174 none := mx_fl_n (by decide +kernel)
theorem ml_f_LeagueOffice_Book_44 : mx_fl "LeagueOffice$Book" 44 (TX0 10) 175 none := mx_fl_n (by decide +kernel)
theorem ml_f_LeagueOffice_Book_47 : mx_fl "LeagueOffice$Book" 47 (TX0 11) 176 none := mx_fl_n (by decide +kernel)
theorem ml_m_LeagueOffice_Book_50 : mx_ml "LeagueOffice$Book" 50 (⟨"LeagueOffice$Row", "has", "(I)Z"⟩ : MethodName) 751 none := mx_ml_n (by decide +kernel)
theorem ml_in_752 : Cond.instanceMethod (⟨"LeagueOffice$Row", "has", "(I)Z"⟩ : MethodName) ∈ mx_GT := mx_gt 752 (by decide +kernel) rfl
theorem ml_se_753 : Cond.selects "LeagueOffice$Row" (⟨"LeagueOffice$Row", "has", "(I)Z"⟩ : MethodName) (⟨"LeagueOffice$Row", "has", "(I)Z"⟩ : MethodName) ∈ mx_GT := mx_gt 753 (by decide +kernel) rfl
theorem ml_f_LeagueOffice_Book_54 : mx_fl "LeagueOffice$Book" 54 (TX0 0) 133 none := mx_fl_n (by decide +kernel)
theorem ml_m_LeagueOffice_Book_58 : mx_ml "LeagueOffice$Book" 58 (⟨"LeagueOffice$Row", "get", "(I)I"⟩ : MethodName) 766 none := mx_ml_n (by decide +kernel)
theorem ml_in_591 : Cond.instanceMethod (⟨"LeagueOffice$Row", "get", "(I)I"⟩ : MethodName) ∈ mx_GT := mx_gt 591 (by decide +kernel) rfl
theorem ml_se_592 : Cond.selects "LeagueOffice$Row" (⟨"LeagueOffice$Row", "get", "(I)I"⟩ : MethodName) (⟨"LeagueOffice$Row", "get", "(I)I"⟩ : MethodName) ∈ mx_GT := mx_gt 592 (by decide +kernel) rfl
theorem ml_f_LeagueOffice_Book_62 : mx_fl "LeagueOffice$Book" 62 ("LeagueOffice", "COUNTS", "[I", false) 870 (some "LeagueOffice") := mx_fl_s (by decide +kernel)
theorem ml_m_LeagueOffice_Book_66 : mx_ml "LeagueOffice$Book" 66 (⟨"LeagueOffice", "ofKind", "([II)I"⟩ : MethodName) 871 (some "LeagueOffice") := mx_ml_s (by decide +kernel)
theorem ml_st_786 : Cond.static (⟨"LeagueOffice", "ofKind", "([II)I"⟩ : MethodName) ∈ mx_GT := mx_gt 786 (by decide +kernel) rfl
theorem ml_f_LeagueOffice_Book_70 : mx_fl "LeagueOffice$Book" 70 ("LeagueOffice", "SERVES", "[I", false) 1025 (some "LeagueOffice") := mx_fl_s (by decide +kernel)
theorem ml_m_LeagueOffice_Book_73 : mx_ml "LeagueOffice$Book" 73 (⟨"LeagueOffice", "isUnder", "(II)Z"⟩ : MethodName) 889 (some "LeagueOffice") := mx_ml_s (by decide +kernel)
theorem ml_st_890 : Cond.static (⟨"LeagueOffice", "isUnder", "(II)Z"⟩ : MethodName) ∈ mx_GT := mx_gt 890 (by decide +kernel) rfl
theorem ml_m_LeagueOffice_Book_77 : mx_ml "LeagueOffice$Book" 77 (⟨"LeagueOffice$Row", "size", "()I"⟩ : MethodName) 765 none := mx_ml_n (by decide +kernel)
theorem ml_in_587 : Cond.instanceMethod (⟨"LeagueOffice$Row", "size", "()I"⟩ : MethodName) ∈ mx_GT := mx_gt 587 (by decide +kernel) rfl
theorem ml_se_588 : Cond.selects "LeagueOffice$Row" (⟨"LeagueOffice$Row", "size", "()I"⟩ : MethodName) (⟨"LeagueOffice$Row", "size", "()I"⟩ : MethodName) ∈ mx_GT := mx_gt 588 (by decide +kernel) rfl
theorem ml_m_LeagueOffice_Book_81 : mx_ml "LeagueOffice$Book" 81 (⟨"LeagueOffice$Row", "insert", "(II)V"⟩ : MethodName) 767 none := mx_ml_n (by decide +kernel)
theorem ml_in_768 : Cond.instanceMethod (⟨"LeagueOffice$Row", "insert", "(II)V"⟩ : MethodName) ∈ mx_GT := mx_gt 768 (by decide +kernel) rfl
theorem ml_se_769 : Cond.selects "LeagueOffice$Row" (⟨"LeagueOffice$Row", "insert", "(II)V"⟩ : MethodName) (⟨"LeagueOffice$Row", "insert", "(II)V"⟩ : MethodName) ∈ mx_GT := mx_gt 769 (by decide +kernel) rfl
theorem ml_m_LeagueOffice_Book_85 : mx_ml "LeagueOffice$Book" 85 (⟨"LeagueOffice$Row", "add", "(I)I"⟩ : MethodName) 774 none := mx_ml_n (by decide +kernel)
theorem ml_in_567 : Cond.instanceMethod (⟨"LeagueOffice$Row", "add", "(I)I"⟩ : MethodName) ∈ mx_GT := mx_gt 567 (by decide +kernel) rfl
theorem ml_se_568 : Cond.selects "LeagueOffice$Row" (⟨"LeagueOffice$Row", "add", "(I)I"⟩ : MethodName) (⟨"LeagueOffice$Row", "add", "(I)I"⟩ : MethodName) ∈ mx_GT := mx_gt 568 (by decide +kernel) rfl
theorem ml_m_LeagueOffice_Book_88 : mx_ml "LeagueOffice$Book" 88 (⟨"LeagueOffice$Row", "put", "(II)V"⟩ : MethodName) 818 none := mx_ml_n (by decide +kernel)
theorem ml_in_665 : Cond.instanceMethod (⟨"LeagueOffice$Row", "put", "(II)V"⟩ : MethodName) ∈ mx_GT := mx_gt 665 (by decide +kernel) rfl
theorem ml_se_666 : Cond.selects "LeagueOffice$Row" (⟨"LeagueOffice$Row", "put", "(II)V"⟩ : MethodName) (⟨"LeagueOffice$Row", "put", "(II)V"⟩ : MethodName) ∈ mx_GT := mx_gt 666 (by decide +kernel) rfl
theorem ml_m_LeagueOffice_Chances_11 : mx_ml "LeagueOffice$Chances" 11 (⟨"LeagueOffice$Row", "<init>", "(I)V"⟩ : MethodName) 419 none := mx_ml_n (by decide +kernel)
theorem ml_f_LeagueOffice_Chances_14 : mx_fl "LeagueOffice$Chances" 14 (TX1 3) 423 none := mx_fl_n (by decide +kernel)
theorem ml_f_LeagueOffice_Chances_20 : mx_fl "LeagueOffice$Chances" 20 (TX1 4) 424 none := mx_fl_n (by decide +kernel)
theorem ml_f_LeagueOffice_Chances_23 : mx_fl "LeagueOffice$Chances" 23 (TX1 5) 425 none := mx_fl_n (by decide +kernel)
theorem ml_f_LeagueOffice_Chances_26 : mx_fl "LeagueOffice$Chances" 26 (TX1 6) 426 none := mx_fl_n (by decide +kernel)
theorem ml_f_LeagueOffice_Chances_29 : mx_fl "LeagueOffice$Chances" 29 (TX1 7) 427 none := mx_fl_n (by decide +kernel)
theorem ml_f_LeagueOffice_Chances_32 : mx_fl "LeagueOffice$Chances" 32 (TX1 8) 428 none := mx_fl_n (by decide +kernel)
theorem ml_f_LeagueOffice_Chances_36 : mx_fl "LeagueOffice$Chances" 36 (TX1 0) 420 none := mx_fl_n (by decide +kernel)
theorem ml_f_LeagueOffice_Chances_40 : mx_fl "LeagueOffice$Chances" 40 (TX1 1) 421 none := mx_fl_n (by decide +kernel)
theorem ml_f_LeagueOffice_Chances_44 : mx_fl "LeagueOffice$Chances" 44 (TX1 2) 422 none := mx_fl_n (by decide +kernel)
theorem ml_f_LeagueOffice_Chances_48 : mx_fl "LeagueOffice$Chances" 48 (TX0 0) 129 (some "LeagueOffice") := mx_fl_s (by decide +kernel)
theorem ml_m_LeagueOffice_Chances_54 : mx_ml "LeagueOffice$Chances" 54 (⟨"LeagueOffice$Book", "learn", "(I)V"⟩ : MethodName) 1110 none := mx_ml_n (by decide +kernel)
theorem ml_in_815 : Cond.instanceMethod (⟨"LeagueOffice$Book", "learn", "(I)V"⟩ : MethodName) ∈ mx_GT := mx_gt 815 (by decide +kernel) rfl
theorem ml_se_816 : Cond.selects "LeagueOffice$Book" (⟨"LeagueOffice$Book", "learn", "(I)V"⟩ : MethodName) (⟨"LeagueOffice$Book", "learn", "(I)V"⟩ : MethodName) ∈ mx_GT := mx_gt 816 (by decide +kernel) rfl
theorem ml_m_LeagueOffice_Chances_57 : mx_ml "LeagueOffice$Chances" 57 (⟨"LeagueOffice$Row", "clear", "()V"⟩ : MethodName) 1111 none := mx_ml_n (by decide +kernel)
theorem ml_in_579 : Cond.instanceMethod (⟨"LeagueOffice$Row", "clear", "()V"⟩ : MethodName) ∈ mx_GT := mx_gt 579 (by decide +kernel) rfl
theorem ml_se_580 : Cond.selects "LeagueOffice$Row" (⟨"LeagueOffice$Row", "clear", "()V"⟩ : MethodName) (⟨"LeagueOffice$Row", "clear", "()V"⟩ : MethodName) ∈ mx_GT := mx_gt 580 (by decide +kernel) rfl
theorem ml_f_LeagueOffice_Chances_60 : mx_fl "LeagueOffice$Chances" 60 (TX0 3) 143 (some "LeagueOffice") := mx_fl_s (by decide +kernel)
theorem ml_m_LeagueOffice_Chances_63 : mx_ml "LeagueOffice$Chances" 63 (⟨"LeagueOffice$Row", "size", "()I"⟩ : MethodName) 1112 none := mx_ml_n (by decide +kernel)
theorem ml_f_LeagueOffice_Chances_67 : mx_fl "LeagueOffice$Chances" 67 (TX0 4) 150 (some "LeagueOffice") := mx_fl_s (by decide +kernel)
theorem ml_m_LeagueOffice_Chances_70 : mx_ml "LeagueOffice$Chances" 70 (⟨"LeagueOffice$Row", "get", "(I)I"⟩ : MethodName) 1113 none := mx_ml_n (by decide +kernel)
theorem ml_m_LeagueOffice_Chances_74 : mx_ml "LeagueOffice$Chances" 74 (⟨"LeagueOffice$Book", "isIn", "(II)Z"⟩ : MethodName) 1114 none := mx_ml_n (by decide +kernel)
theorem ml_in_1115 : Cond.instanceMethod (⟨"LeagueOffice$Book", "isIn", "(II)Z"⟩ : MethodName) ∈ mx_GT := mx_gt 1115 (by decide +kernel) rfl
theorem ml_se_1116 : Cond.selects "LeagueOffice$Book" (⟨"LeagueOffice$Book", "isIn", "(II)Z"⟩ : MethodName) (⟨"LeagueOffice$Book", "isIn", "(II)Z"⟩ : MethodName) ∈ mx_GT := mx_gt 1116 (by decide +kernel) rfl
theorem ml_f_LeagueOffice_Chances_78 : mx_fl "LeagueOffice$Chances" 78 (TX0 5) 157 (some "LeagueOffice") := mx_fl_s (by decide +kernel)
theorem ml_m_LeagueOffice_Chances_81 : mx_ml "LeagueOffice$Chances" 81 (⟨"LeagueOffice$Book", "doesCount", "(I)Z"⟩ : MethodName) 1118 none := mx_ml_n (by decide +kernel)
theorem ml_in_867 : Cond.instanceMethod (⟨"LeagueOffice$Book", "doesCount", "(I)Z"⟩ : MethodName) ∈ mx_GT := mx_gt 867 (by decide +kernel) rfl
theorem ml_se_868 : Cond.selects "LeagueOffice$Book" (⟨"LeagueOffice$Book", "doesCount", "(I)Z"⟩ : MethodName) (⟨"LeagueOffice$Book", "doesCount", "(I)Z"⟩ : MethodName) ∈ mx_GT := mx_gt 868 (by decide +kernel) rfl
theorem ml_f_LeagueOffice_Chances_85 : mx_fl "LeagueOffice$Chances" 85 (TX0 11) 178 (some "LeagueOffice") := mx_fl_s (by decide +kernel)
theorem ml_m_LeagueOffice_Chances_88 : mx_ml "LeagueOffice$Chances" 88 (⟨"LeagueOffice$Row", "add", "(I)I"⟩ : MethodName) 1119 none := mx_ml_n (by decide +kernel)
theorem ml_f_LeagueOffice_Chances_91 : mx_fl "LeagueOffice$Chances" 91 (TX0 1) 136 (some "LeagueOffice") := mx_fl_s (by decide +kernel)
theorem ml_m_LeagueOffice_Chances_94 : mx_ml "LeagueOffice$Chances" 94 (⟨"LeagueOffice$Chances", "gather", "(I)I"⟩ : MethodName) 1128 none := mx_ml_n (by decide +kernel)
theorem ml_in_1107 : Cond.instanceMethod (⟨"LeagueOffice$Chances", "gather", "(I)I"⟩ : MethodName) ∈ mx_GT := mx_gt 1107 (by decide +kernel) rfl
theorem ml_se_1108 : Cond.selects "LeagueOffice$Chances" (⟨"LeagueOffice$Chances", "gather", "(I)I"⟩ : MethodName) (⟨"LeagueOffice$Chances", "gather", "(I)I"⟩ : MethodName) ∈ mx_GT := mx_gt 1108 (by decide +kernel) rfl
theorem ml_m_LeagueOffice_Chances_97 : mx_ml "LeagueOffice$Chances" 97 (⟨"LeagueOffice$Tables", "tally", "(I)V"⟩ : MethodName) 1129 none := mx_ml_n (by decide +kernel)
theorem ml_in_850 : Cond.instanceMethod (⟨"LeagueOffice$Tables", "tally", "(I)V"⟩ : MethodName) ∈ mx_GT := mx_gt 850 (by decide +kernel) rfl
theorem ml_se_851 : Cond.selects "LeagueOffice$Tables" (⟨"LeagueOffice$Tables", "tally", "(I)V"⟩ : MethodName) (⟨"LeagueOffice$Tables", "tally", "(I)V"⟩ : MethodName) ∈ mx_GT := mx_gt 851 (by decide +kernel) rfl
theorem ml_m_LeagueOffice_Chances_102 : mx_ml "LeagueOffice$Chances" 102 (⟨"LeagueOffice$Tables", "pointsOf", "(I)J"⟩ : MethodName) 1130 none := mx_ml_n (by decide +kernel)
theorem ml_in_917 : Cond.instanceMethod (⟨"LeagueOffice$Tables", "pointsOf", "(I)J"⟩ : MethodName) ∈ mx_GT := mx_gt 917 (by decide +kernel) rfl
theorem ml_se_918 : Cond.selects "LeagueOffice$Tables" (⟨"LeagueOffice$Tables", "pointsOf", "(I)J"⟩ : MethodName) (⟨"LeagueOffice$Tables", "pointsOf", "(I)J"⟩ : MethodName) ∈ mx_GT := mx_gt 918 (by decide +kernel) rfl
theorem ml_m_LeagueOffice_Chances_106 : mx_ml "LeagueOffice$Chances" 106 (⟨"LeagueOffice$Chances", "enterFirst", "()I"⟩ : MethodName) 1131 none := mx_ml_n (by decide +kernel)
theorem ml_in_1133 : Cond.instanceMethod (⟨"LeagueOffice$Chances", "enterFirst", "()I"⟩ : MethodName) ∈ mx_GT := mx_gt 1133 (by decide +kernel) rfl
theorem ml_se_21 : Cond.selects "LeagueOffice$Chances" (⟨"LeagueOffice$Chances", "enterFirst", "()I"⟩ : MethodName) (⟨"LeagueOffice$Chances", "enterFirst", "()I"⟩ : MethodName) ∈ mx_GT := mx_gt 21 (by decide +kernel) rfl
theorem ml_f_LeagueOffice_Chances_109 : mx_fl "LeagueOffice$Chances" 109 (TX1 9) 429 none := mx_fl_n (by decide +kernel)
theorem ml_m_LeagueOffice_Chances_112 : mx_ml "LeagueOffice$Chances" 112 (⟨"LeagueOffice$Tables", "placeOf", "(I)I"⟩ : MethodName) 1152 none := mx_ml_n (by decide +kernel)
theorem ml_in_941 : Cond.instanceMethod (⟨"LeagueOffice$Tables", "placeOf", "(I)I"⟩ : MethodName) ∈ mx_GT := mx_gt 941 (by decide +kernel) rfl
theorem ml_se_942 : Cond.selects "LeagueOffice$Tables" (⟨"LeagueOffice$Tables", "placeOf", "(I)I"⟩ : MethodName) (⟨"LeagueOffice$Tables", "placeOf", "(I)I"⟩ : MethodName) ∈ mx_GT := mx_gt 942 (by decide +kernel) rfl
theorem ml_m_LeagueOffice_Chances_115 : mx_ml "LeagueOffice$Chances" 115 (⟨"LeagueOffice$Row", "put", "(II)V"⟩ : MethodName) 1137 none := mx_ml_n (by decide +kernel)
theorem ml_m_LeagueOffice_Chances_119 : mx_ml "LeagueOffice$Chances" 119 (⟨"LeagueOffice$Chances", "enterNext", "()V"⟩ : MethodName) 1153 none := mx_ml_n (by decide +kernel)
theorem ml_in_1155 : Cond.instanceMethod (⟨"LeagueOffice$Chances", "enterNext", "()V"⟩ : MethodName) ∈ mx_GT := mx_gt 1155 (by decide +kernel) rfl
theorem ml_se_25 : Cond.selects "LeagueOffice$Chances" (⟨"LeagueOffice$Chances", "enterNext", "()V"⟩ : MethodName) (⟨"LeagueOffice$Chances", "enterNext", "()V"⟩ : MethodName) ∈ mx_GT := mx_gt 25 (by decide +kernel) rfl
theorem ml_f_LeagueOffice_Chances_122 : mx_fl "LeagueOffice$Chances" 122 (TX0 6) 165 (some "LeagueOffice") := mx_fl_s (by decide +kernel)
theorem ml_m_LeagueOffice_Chances_125 : mx_ml "LeagueOffice$Chances" 125 (⟨"LeagueOffice$Book", "isLate", "(I)I"⟩ : MethodName) 1135 none := mx_ml_n (by decide +kernel)
theorem ml_in_886 : Cond.instanceMethod (⟨"LeagueOffice$Book", "isLate", "(I)I"⟩ : MethodName) ∈ mx_GT := mx_gt 886 (by decide +kernel) rfl
theorem ml_se_887 : Cond.selects "LeagueOffice$Book" (⟨"LeagueOffice$Book", "isLate", "(I)I"⟩ : MethodName) (⟨"LeagueOffice$Book", "isLate", "(I)I"⟩ : MethodName) ∈ mx_GT := mx_gt 887 (by decide +kernel) rfl
theorem ml_m_LeagueOffice_Chances_128 : mx_ml "LeagueOffice$Chances" 128 (⟨"LeagueOffice$Texts", "askGame", "(IIIIII)I"⟩ : MethodName) 1136 none := mx_ml_n (by decide +kernel)
theorem ml_in_895 : Cond.instanceMethod (⟨"LeagueOffice$Texts", "askGame", "(IIIIII)I"⟩ : MethodName) ∈ mx_GT := mx_gt 895 (by decide +kernel) rfl
theorem ml_se_896 : Cond.selects "LeagueOffice$Texts" (⟨"LeagueOffice$Texts", "askGame", "(IIIIII)I"⟩ : MethodName) (⟨"LeagueOffice$Texts", "askGame", "(IIIIII)I"⟩ : MethodName) ∈ mx_GT := mx_gt 896 (by decide +kernel) rfl
theorem ml_m_LeagueOffice_Chances_134 : mx_ml "LeagueOffice$Chances" 134 (⟨"LeagueOffice$Chances", "enter", "(II)V"⟩ : MethodName) 1138 none := mx_ml_n (by decide +kernel)
theorem ml_in_1140 : Cond.instanceMethod (⟨"LeagueOffice$Chances", "enter", "(II)V"⟩ : MethodName) ∈ mx_GT := mx_gt 1140 (by decide +kernel) rfl
theorem ml_se_22 : Cond.selects "LeagueOffice$Chances" (⟨"LeagueOffice$Chances", "enter", "(II)V"⟩ : MethodName) (⟨"LeagueOffice$Chances", "enter", "(II)V"⟩ : MethodName) ∈ mx_GT := mx_gt 22 (by decide +kernel) rfl
theorem ml_m_LeagueOffice_Chances_137 : mx_ml "LeagueOffice$Chances" 137 (⟨"LeagueOffice$Chances", "enterWin", "(IIII)V"⟩ : MethodName) 1142 none := mx_ml_n (by decide +kernel)
theorem ml_in_1144 : Cond.instanceMethod (⟨"LeagueOffice$Chances", "enterWin", "(IIII)V"⟩ : MethodName) ∈ mx_GT := mx_gt 1144 (by decide +kernel) rfl
theorem ml_se_23 : Cond.selects "LeagueOffice$Chances" (⟨"LeagueOffice$Chances", "enterWin", "(IIII)V"⟩ : MethodName) (⟨"LeagueOffice$Chances", "enterWin", "(IIII)V"⟩ : MethodName) ∈ mx_GT := mx_gt 23 (by decide +kernel) rfl
theorem ml_m_LeagueOffice_Chances_141 : mx_ml "LeagueOffice$Chances" 141 (⟨"LeagueOffice$Chances", "enterDraw", "(IIII)V"⟩ : MethodName) 1148 none := mx_ml_n (by decide +kernel)
theorem ml_in_1150 : Cond.instanceMethod (⟨"LeagueOffice$Chances", "enterDraw", "(IIII)V"⟩ : MethodName) ∈ mx_GT := mx_gt 1150 (by decide +kernel) rfl
theorem ml_se_24 : Cond.selects "LeagueOffice$Chances" (⟨"LeagueOffice$Chances", "enterDraw", "(IIII)V"⟩ : MethodName) (⟨"LeagueOffice$Chances", "enterDraw", "(IIII)V"⟩ : MethodName) ∈ mx_GT := mx_gt 24 (by decide +kernel) rfl
theorem ml_m_LeagueOffice_Chances_144 : mx_ml "LeagueOffice$Chances" 144 (⟨"LeagueOffice$Tables", "addPoints", "(IJ)V"⟩ : MethodName) 1146 none := mx_ml_n (by decide +kernel)
theorem ml_in_913 : Cond.instanceMethod (⟨"LeagueOffice$Tables", "addPoints", "(IJ)V"⟩ : MethodName) ∈ mx_GT := mx_gt 913 (by decide +kernel) rfl
theorem ml_se_914 : Cond.selects "LeagueOffice$Tables" (⟨"LeagueOffice$Tables", "addPoints", "(IJ)V"⟩ : MethodName) (⟨"LeagueOffice$Tables", "addPoints", "(IJ)V"⟩ : MethodName) ∈ mx_GT := mx_gt 914 (by decide +kernel) rfl
theorem ml_m_LeagueOffice_Chances_148 : mx_ml "LeagueOffice$Chances" 148 (⟨"LeagueOffice$Tables", "addGoals", "(IIII)V"⟩ : MethodName) 1147 none := mx_ml_n (by decide +kernel)
theorem ml_in_877 : Cond.instanceMethod (⟨"LeagueOffice$Tables", "addGoals", "(IIII)V"⟩ : MethodName) ∈ mx_GT := mx_gt 877 (by decide +kernel) rfl
theorem ml_se_878 : Cond.selects "LeagueOffice$Tables" (⟨"LeagueOffice$Tables", "addGoals", "(IIII)V"⟩ : MethodName) (⟨"LeagueOffice$Tables", "addGoals", "(IIII)V"⟩ : MethodName) ∈ mx_GT := mx_gt 878 (by decide +kernel) rfl
theorem ml_m_LeagueOffice_Chances_151 : mx_ml "LeagueOffice$Chances" 151 (⟨"java/lang/Math", "min", "(II)I"⟩ : MethodName) 1161 none := mx_ml_n (by decide +kernel)
theorem ml_st_995 : Cond.static (⟨"java/lang/Math", "min", "(II)I"⟩ : MethodName) ∈ mx_GT := mx_gt 995 (by decide +kernel) rfl
theorem ml_m_LeagueOffice_Chances_157 : mx_ml "LeagueOffice$Chances" 157 (⟨"java/lang/Math", "max", "(II)I"⟩ : MethodName) 1166 none := mx_ml_n (by decide +kernel)
theorem ml_st_118 : Cond.static (⟨"java/lang/Math", "max", "(II)I"⟩ : MethodName) ∈ mx_GT := mx_gt 118 (by decide +kernel) rfl
theorem ml_m_LeagueOffice_Chances_160 : mx_ml "LeagueOffice$Chances" 160 (⟨"LeagueOffice$Chances", "sumOf", "(I)J"⟩ : MethodName) 1179 none := mx_ml_n (by decide +kernel)
theorem ml_in_1181 : Cond.instanceMethod (⟨"LeagueOffice$Chances", "sumOf", "(I)J"⟩ : MethodName) ∈ mx_GT := mx_gt 1181 (by decide +kernel) rfl
theorem ml_se_26 : Cond.selects "LeagueOffice$Chances" (⟨"LeagueOffice$Chances", "sumOf", "(I)J"⟩ : MethodName) (⟨"LeagueOffice$Chances", "sumOf", "(I)J"⟩ : MethodName) ∈ mx_GT := mx_gt 26 (by decide +kernel) rfl
theorem ml_m_LeagueOffice_Failures_11 : mx_ml "LeagueOffice$Failures" 11 (⟨"LeagueOffice$Row", "<init>", "(I)V"⟩ : MethodName) 389 none := mx_ml_n (by decide +kernel)
theorem ml_f_LeagueOffice_Failures_14 : mx_fl "LeagueOffice$Failures" 14 (TX2 2) 392 none := mx_fl_n (by decide +kernel)
theorem ml_f_LeagueOffice_Failures_20 : mx_fl "LeagueOffice$Failures" 20 (TX2 3) 393 none := mx_fl_n (by decide +kernel)
theorem ml_f_LeagueOffice_Failures_23 : mx_fl "LeagueOffice$Failures" 23 (TX2 4) 394 none := mx_fl_n (by decide +kernel)
theorem ml_f_LeagueOffice_Failures_26 : mx_fl "LeagueOffice$Failures" 26 (TX2 5) 395 none := mx_fl_n (by decide +kernel)
theorem ml_f_LeagueOffice_Failures_29 : mx_fl "LeagueOffice$Failures" 29 (TX2 6) 396 none := mx_fl_n (by decide +kernel)
theorem ml_f_LeagueOffice_Failures_32 : mx_fl "LeagueOffice$Failures" 32 (TX2 0) 390 none := mx_fl_n (by decide +kernel)
theorem ml_m_LeagueOffice_Failures_36 : mx_ml "LeagueOffice$Failures" 36 (⟨"LeagueOffice$Row", "get", "(I)I"⟩ : MethodName) 1063 none := mx_ml_n (by decide +kernel)
theorem ml_f_LeagueOffice_Failures_40 : mx_fl "LeagueOffice$Failures" 40 (TX2 1) 391 none := mx_fl_n (by decide +kernel)
theorem ml_m_LeagueOffice_Failures_44 : mx_ml "LeagueOffice$Failures" 44 (⟨"LeagueOffice$Row", "put", "(II)V"⟩ : MethodName) 1068 none := mx_ml_n (by decide +kernel)
theorem ml_f_LeagueOffice_Failures_48 : mx_fl "LeagueOffice$Failures" 48 (TX0 0) 132 (some "LeagueOffice") := mx_fl_s (by decide +kernel)
theorem ml_m_LeagueOffice_Failures_53 : mx_ml "LeagueOffice$Failures" 53 (⟨"LeagueOffice$Book", "learn", "(I)V"⟩ : MethodName) 1069 none := mx_ml_n (by decide +kernel)
theorem ml_f_LeagueOffice_Failures_56 : mx_fl "LeagueOffice$Failures" 56 (TX0 3) 145 (some "LeagueOffice") := mx_fl_s (by decide +kernel)
theorem ml_m_LeagueOffice_Failures_59 : mx_ml "LeagueOffice$Failures" 59 (⟨"LeagueOffice$Row", "size", "()I"⟩ : MethodName) 1070 none := mx_ml_n (by decide +kernel)
theorem ml_m_LeagueOffice_Failures_63 : mx_ml "LeagueOffice$Failures" 63 (⟨"LeagueOffice$Book", "plays", "(II)Z"⟩ : MethodName) 1071 none := mx_ml_n (by decide +kernel)
theorem ml_in_1018 : Cond.instanceMethod (⟨"LeagueOffice$Book", "plays", "(II)Z"⟩ : MethodName) ∈ mx_GT := mx_gt 1018 (by decide +kernel) rfl
theorem ml_se_1019 : Cond.selects "LeagueOffice$Book" (⟨"LeagueOffice$Book", "plays", "(II)Z"⟩ : MethodName) (⟨"LeagueOffice$Book", "plays", "(II)Z"⟩ : MethodName) ∈ mx_GT := mx_gt 1019 (by decide +kernel) rfl
theorem ml_m_LeagueOffice_Failures_67 : mx_ml "LeagueOffice$Failures" 67 (⟨"LeagueOffice$Book", "doesCount", "(I)Z"⟩ : MethodName) 1072 none := mx_ml_n (by decide +kernel)
theorem ml_f_LeagueOffice_Failures_71 : mx_fl "LeagueOffice$Failures" 71 (TX0 11) 179 (some "LeagueOffice") := mx_fl_s (by decide +kernel)
theorem ml_m_LeagueOffice_Failures_74 : mx_ml "LeagueOffice$Failures" 74 (⟨"LeagueOffice$Failures", "changeGames", "(IZ)I"⟩ : MethodName) 1073 none := mx_ml_n (by decide +kernel)
theorem ml_in_1075 : Cond.instanceMethod (⟨"LeagueOffice$Failures", "changeGames", "(IZ)I"⟩ : MethodName) ∈ mx_GT := mx_gt 1075 (by decide +kernel) rfl
theorem ml_se_17 : Cond.selects "LeagueOffice$Failures" (⟨"LeagueOffice$Failures", "changeGames", "(IZ)I"⟩ : MethodName) (⟨"LeagueOffice$Failures", "changeGames", "(IZ)I"⟩ : MethodName) ∈ mx_GT := mx_gt 17 (by decide +kernel) rfl
theorem ml_m_LeagueOffice_Failures_78 : mx_ml "LeagueOffice$Failures" 78 (⟨"LeagueOffice$Failures", "keep", "(II)V"⟩ : MethodName) 1077 none := mx_ml_n (by decide +kernel)
theorem ml_in_1079 : Cond.instanceMethod (⟨"LeagueOffice$Failures", "keep", "(II)V"⟩ : MethodName) ∈ mx_GT := mx_gt 1079 (by decide +kernel) rfl
theorem ml_se_18 : Cond.selects "LeagueOffice$Failures" (⟨"LeagueOffice$Failures", "keep", "(II)V"⟩ : MethodName) (⟨"LeagueOffice$Failures", "keep", "(II)V"⟩ : MethodName) ∈ mx_GT := mx_gt 18 (by decide +kernel) rfl
theorem ml_m_LeagueOffice_Failures_81 : mx_ml "LeagueOffice$Failures" 81 (⟨"LeagueOffice$Failures", "give", "(II)V"⟩ : MethodName) 1081 none := mx_ml_n (by decide +kernel)
theorem ml_in_1083 : Cond.instanceMethod (⟨"LeagueOffice$Failures", "give", "(II)V"⟩ : MethodName) ∈ mx_GT := mx_gt 1083 (by decide +kernel) rfl
theorem ml_se_19 : Cond.selects "LeagueOffice$Failures" (⟨"LeagueOffice$Failures", "give", "(II)V"⟩ : MethodName) (⟨"LeagueOffice$Failures", "give", "(II)V"⟩ : MethodName) ∈ mx_GT := mx_gt 19 (by decide +kernel) rfl
theorem ml_f_LeagueOffice_Failures_84 : mx_fl "LeagueOffice$Failures" 84 (TX0 4) 153 (some "LeagueOffice") := mx_fl_s (by decide +kernel)
theorem ml_f_LeagueOffice_Failures_87 : mx_fl "LeagueOffice$Failures" 87 (TX0 5) 160 (some "LeagueOffice") := mx_fl_s (by decide +kernel)
theorem ml_m_LeagueOffice_Failures_90 : mx_ml "LeagueOffice$Failures" 90 (⟨"LeagueOffice$Failures", "hasFailed", "(I)Z"⟩ : MethodName) 1093 none := mx_ml_n (by decide +kernel)
theorem ml_in_1060 : Cond.instanceMethod (⟨"LeagueOffice$Failures", "hasFailed", "(I)Z"⟩ : MethodName) ∈ mx_GT := mx_gt 1060 (by decide +kernel) rfl
theorem ml_se_1061 : Cond.selects "LeagueOffice$Failures" (⟨"LeagueOffice$Failures", "hasFailed", "(I)Z"⟩ : MethodName) (⟨"LeagueOffice$Failures", "hasFailed", "(I)Z"⟩ : MethodName) ∈ mx_GT := mx_gt 1061 (by decide +kernel) rfl
theorem ml_m_LeagueOffice_Failures_93 : mx_ml "LeagueOffice$Failures" 93 (⟨"LeagueOffice$Failures", "hasChanged", "(II)Z"⟩ : MethodName) 1094 none := mx_ml_n (by decide +kernel)
theorem ml_in_1096 : Cond.instanceMethod (⟨"LeagueOffice$Failures", "hasChanged", "(II)Z"⟩ : MethodName) ∈ mx_GT := mx_gt 1096 (by decide +kernel) rfl
theorem ml_se_20 : Cond.selects "LeagueOffice$Failures" (⟨"LeagueOffice$Failures", "hasChanged", "(II)Z"⟩ : MethodName) (⟨"LeagueOffice$Failures", "hasChanged", "(II)Z"⟩ : MethodName) ∈ mx_GT := mx_gt 20 (by decide +kernel) rfl
theorem ml_m_LeagueOffice_Plan_11 : mx_ml "LeagueOffice$Plan" 11 (⟨"LeagueOffice$Row", "<init>", "(I)V"⟩ : MethodName) 476 none := mx_ml_n (by decide +kernel)
theorem ml_f_LeagueOffice_Plan_14 : mx_fl "LeagueOffice$Plan" 14 (TX3 1) 478 none := mx_fl_n (by decide +kernel)
theorem ml_f_LeagueOffice_Plan_20 : mx_fl "LeagueOffice$Plan" 20 (TX3 2) 480 none := mx_fl_n (by decide +kernel)
theorem ml_f_LeagueOffice_Plan_23 : mx_fl "LeagueOffice$Plan" 23 (TX3 3) 481 none := mx_fl_n (by decide +kernel)
theorem ml_f_LeagueOffice_Plan_26 : mx_fl "LeagueOffice$Plan" 26 (TX3 0) 477 none := mx_fl_n (by decide +kernel)
theorem ml_m_LeagueOffice_Plan_30 : mx_ml "LeagueOffice$Plan" 30 (⟨"LeagueOffice$Row", "clear", "()V"⟩ : MethodName) 1220 none := mx_ml_n (by decide +kernel)
theorem ml_m_LeagueOffice_Plan_33 : mx_ml "LeagueOffice$Plan" 33 (⟨"LeagueOffice$Row", "size", "()I"⟩ : MethodName) 1225 none := mx_ml_n (by decide +kernel)
theorem ml_m_LeagueOffice_Plan_37 : mx_ml "LeagueOffice$Plan" 37 (⟨"LeagueOffice$Row", "get", "(I)I"⟩ : MethodName) 1226 none := mx_ml_n (by decide +kernel)
theorem ml_m_LeagueOffice_Plan_41 : mx_ml "LeagueOffice$Plan" 41 (⟨"LeagueOffice$Row", "add", "(I)I"⟩ : MethodName) 1231 none := mx_ml_n (by decide +kernel)
theorem ml_m_LeagueOffice_Plan_44 : mx_ml "LeagueOffice$Plan" 44 (⟨"LeagueOffice$Plan", "look", "(I)V"⟩ : MethodName) 1240 none := mx_ml_n (by decide +kernel)
theorem ml_in_1242 : Cond.instanceMethod (⟨"LeagueOffice$Plan", "look", "(I)V"⟩ : MethodName) ∈ mx_GT := mx_gt 1242 (by decide +kernel) rfl
theorem ml_se_28 : Cond.selects "LeagueOffice$Plan" (⟨"LeagueOffice$Plan", "look", "(I)V"⟩ : MethodName) (⟨"LeagueOffice$Plan", "look", "(I)V"⟩ : MethodName) ∈ mx_GT := mx_gt 28 (by decide +kernel) rfl
theorem ml_f_LeagueOffice_Plan_47 : mx_fl "LeagueOffice$Plan" 47 (TX3 4) 482 none := mx_fl_n (by decide +kernel)
theorem ml_f_LeagueOffice_Plan_51 : mx_fl "LeagueOffice$Plan" 51 (TX3 5) 484 none := mx_fl_n (by decide +kernel)
theorem ml_m_LeagueOffice_Plan_54 : mx_ml "LeagueOffice$Plan" 54 (⟨"LeagueOffice$Plan", "breaksOf", "(I)I"⟩ : MethodName) 1246 none := mx_ml_n (by decide +kernel)
theorem ml_in_1248 : Cond.instanceMethod (⟨"LeagueOffice$Plan", "breaksOf", "(I)I"⟩ : MethodName) ∈ mx_GT := mx_gt 1248 (by decide +kernel) rfl
theorem ml_se_29 : Cond.selects "LeagueOffice$Plan" (⟨"LeagueOffice$Plan", "breaksOf", "(I)I"⟩ : MethodName) (⟨"LeagueOffice$Plan", "breaksOf", "(I)I"⟩ : MethodName) ∈ mx_GT := mx_gt 29 (by decide +kernel) rfl
theorem ml_m_LeagueOffice_Plan_57 : mx_ml "LeagueOffice$Plan" 57 (⟨"LeagueOffice$Row", "fill", "(I)V"⟩ : MethodName) 1244 none := mx_ml_n (by decide +kernel)
theorem ml_in_857 : Cond.instanceMethod (⟨"LeagueOffice$Row", "fill", "(I)V"⟩ : MethodName) ∈ mx_GT := mx_gt 857 (by decide +kernel) rfl
theorem ml_se_858 : Cond.selects "LeagueOffice$Row" (⟨"LeagueOffice$Row", "fill", "(I)V"⟩ : MethodName) (⟨"LeagueOffice$Row", "fill", "(I)V"⟩ : MethodName) ∈ mx_GT := mx_gt 858 (by decide +kernel) rfl
theorem ml_f_LeagueOffice_Plan_60 : mx_fl "LeagueOffice$Plan" 60 (TX0 7) 170 (some "LeagueOffice") := mx_fl_s (by decide +kernel)
theorem ml_f_LeagueOffice_Plan_65 : mx_fl "LeagueOffice$Plan" 65 (TX0 6) 167 (some "LeagueOffice") := mx_fl_s (by decide +kernel)
theorem ml_f_LeagueOffice_Plan_68 : mx_fl "LeagueOffice$Plan" 68 (TX0 4) 154 (some "LeagueOffice") := mx_fl_s (by decide +kernel)
theorem ml_m_LeagueOffice_Plan_71 : mx_ml "LeagueOffice$Plan" 71 (⟨"LeagueOffice$Row", "put", "(II)V"⟩ : MethodName) 1245 none := mx_ml_n (by decide +kernel)
theorem ml_f_LeagueOffice_Plan_75 : mx_fl "LeagueOffice$Plan" 75 (TX0 5) 161 (some "LeagueOffice") := mx_fl_s (by decide +kernel)
theorem ml_f_LeagueOffice_Plan_78 : mx_fl "LeagueOffice$Plan" 78 (TX0 2) 141 (some "LeagueOffice") := mx_fl_s (by decide +kernel)
theorem ml_m_LeagueOffice_Purse_11 : mx_ml "LeagueOffice$Purse" 11 (⟨"LeagueOffice$Row", "<init>", "(I)V"⟩ : MethodName) 458 none := mx_ml_n (by decide +kernel)
theorem ml_f_LeagueOffice_Purse_14 : mx_fl "LeagueOffice$Purse" 14 (TX4 2) 461 none := mx_fl_n (by decide +kernel)
theorem ml_f_LeagueOffice_Purse_20 : mx_fl "LeagueOffice$Purse" 20 (TX4 0) 459 none := mx_fl_n (by decide +kernel)
theorem ml_f_LeagueOffice_Purse_24 : mx_fl "LeagueOffice$Purse" 24 (TX4 1) 460 none := mx_fl_n (by decide +kernel)
theorem ml_f_LeagueOffice_Purse_28 : mx_fl "LeagueOffice$Purse" 28 (TX0 0) 130 (some "LeagueOffice") := mx_fl_s (by decide +kernel)
theorem ml_m_LeagueOffice_Purse_34 : mx_ml "LeagueOffice$Purse" 34 (⟨"LeagueOffice$Tables", "tally", "(I)V"⟩ : MethodName) 1193 none := mx_ml_n (by decide +kernel)
theorem ml_m_LeagueOffice_Purse_39 : mx_ml "LeagueOffice$Purse" 39 (⟨"LeagueOffice$Purse", "sumGates", "()V"⟩ : MethodName) 1194 none := mx_ml_n (by decide +kernel)
theorem ml_in_1196 : Cond.instanceMethod (⟨"LeagueOffice$Purse", "sumGates", "()V"⟩ : MethodName) ∈ mx_GT := mx_gt 1196 (by decide +kernel) rfl
theorem ml_se_27 : Cond.selects "LeagueOffice$Purse" (⟨"LeagueOffice$Purse", "sumGates", "()V"⟩ : MethodName) (⟨"LeagueOffice$Purse", "sumGates", "()V"⟩ : MethodName) ∈ mx_GT := mx_gt 27 (by decide +kernel) rfl
theorem ml_f_LeagueOffice_Purse_42 : mx_fl "LeagueOffice$Purse" 42 (TX0 1) 135 (some "LeagueOffice") := mx_fl_s (by decide +kernel)
theorem ml_m_LeagueOffice_Purse_45 : mx_ml "LeagueOffice$Purse" 45 (⟨"LeagueOffice$Row", "size", "()I"⟩ : MethodName) 1199 none := mx_ml_n (by decide +kernel)
theorem ml_m_LeagueOffice_Purse_49 : mx_ml "LeagueOffice$Purse" 49 (⟨"LeagueOffice$Book", "isIn", "(II)Z"⟩ : MethodName) 1205 none := mx_ml_n (by decide +kernel)
theorem ml_m_LeagueOffice_Purse_53 : mx_ml "LeagueOffice$Purse" 53 (⟨"LeagueOffice$Row", "get", "(I)I"⟩ : MethodName) 1200 none := mx_ml_n (by decide +kernel)
theorem ml_m_LeagueOffice_Purse_57 : mx_ml "LeagueOffice$Purse" 57 (⟨"LeagueOffice$Tables", "placeOf", "(I)I"⟩ : MethodName) 1206 none := mx_ml_n (by decide +kernel)
theorem ml_m_LeagueOffice_Purse_60 : mx_ml "LeagueOffice$Purse" 60 (⟨"LeagueOffice$Purse", "part", "(IIIII)J"⟩ : MethodName) 1207 none := mx_ml_n (by decide +kernel)
theorem ml_st_1208 : Cond.static (⟨"LeagueOffice$Purse", "part", "(IIIII)J"⟩ : MethodName) ∈ mx_GT := mx_gt 1208 (by decide +kernel) rfl
theorem ml_m_LeagueOffice_Purse_66 : mx_ml "LeagueOffice$Purse" 66 (⟨"java/lang/Math", "max", "(II)I"⟩ : MethodName) 1211 none := mx_ml_n (by decide +kernel)
theorem ml_m_LeagueOffice_Purse_72 : mx_ml "LeagueOffice$Purse" 72 (⟨"LeagueOffice$Row", "fill", "(I)V"⟩ : MethodName) 1198 none := mx_ml_n (by decide +kernel)
theorem ml_f_LeagueOffice_Purse_75 : mx_fl "LeagueOffice$Purse" 75 (TX0 3) 146 (some "LeagueOffice") := mx_fl_s (by decide +kernel)
theorem ml_f_LeagueOffice_Purse_78 : mx_fl "LeagueOffice$Purse" 78 (TX0 11) 180 (some "LeagueOffice") := mx_fl_s (by decide +kernel)
theorem ml_f_LeagueOffice_Purse_81 : mx_fl "LeagueOffice$Purse" 81 ("LeagueOffice", "GATES", "[I", false) 1201 (some "LeagueOffice") := mx_fl_s (by decide +kernel)
theorem ml_m_LeagueOffice_Purse_85 : mx_ml "LeagueOffice$Purse" 85 (⟨"LeagueOffice", "ofKind", "([II)I"⟩ : MethodName) 1202 (some "LeagueOffice") := mx_ml_s (by decide +kernel)
theorem ml_f_LeagueOffice_Purse_89 : mx_fl "LeagueOffice$Purse" 89 ("LeagueOffice", "HOME_PARTS", "[I", false) 1203 (some "LeagueOffice") := mx_fl_s (by decide +kernel)
theorem ml_f_LeagueOffice_Purse_92 : mx_fl "LeagueOffice$Purse" 92 (TX0 4) 152 (some "LeagueOffice") := mx_fl_s (by decide +kernel)
theorem ml_m_LeagueOffice_Purse_95 : mx_ml "LeagueOffice$Purse" 95 (⟨"LeagueOffice$Row", "raise", "(II)V"⟩ : MethodName) 1204 none := mx_ml_n (by decide +kernel)
theorem ml_in_881 : Cond.instanceMethod (⟨"LeagueOffice$Row", "raise", "(II)V"⟩ : MethodName) ∈ mx_GT := mx_gt 881 (by decide +kernel) rfl
theorem ml_se_882 : Cond.selects "LeagueOffice$Row" (⟨"LeagueOffice$Row", "raise", "(II)V"⟩ : MethodName) (⟨"LeagueOffice$Row", "raise", "(II)V"⟩ : MethodName) ∈ mx_GT := mx_gt 882 (by decide +kernel) rfl
theorem ml_f_LeagueOffice_Purse_99 : mx_fl "LeagueOffice$Purse" 99 (TX0 5) 159 (some "LeagueOffice") := mx_fl_s (by decide +kernel)
theorem ml_m_LeagueOffice_Reader_11 : mx_ml "LeagueOffice$Reader" 11 (⟨"LeagueOffice$Row", "<init>", "(I)V"⟩ : MethodName) 251 none := mx_ml_n (by decide +kernel)
theorem ml_f_LeagueOffice_Reader_14 : mx_fl "LeagueOffice$Reader" 14 (TX5 1) 253 none := mx_fl_n (by decide +kernel)
theorem ml_f_LeagueOffice_Reader_20 : mx_fl "LeagueOffice$Reader" 20 (TX5 2) 255 none := mx_fl_n (by decide +kernel)
theorem ml_f_LeagueOffice_Reader_23 : mx_fl "LeagueOffice$Reader" 23 (TX5 3) 256 none := mx_fl_n (by decide +kernel)
theorem ml_f_LeagueOffice_Reader_26 : mx_fl "LeagueOffice$Reader" 26 (TX5 4) 257 none := mx_fl_n (by decide +kernel)
theorem ml_f_LeagueOffice_Reader_29 : mx_fl "LeagueOffice$Reader" 29 (TX5 0) 252 none := mx_fl_n (by decide +kernel)
theorem ml_m_LeagueOffice_Reader_33 : mx_ml "LeagueOffice$Reader" 33 (⟨"LeagueOffice$Reader", "split", "()V"⟩ : MethodName) 574 none := mx_ml_n (by decide +kernel)
theorem ml_in_576 : Cond.instanceMethod (⟨"LeagueOffice$Reader", "split", "()V"⟩ : MethodName) ∈ mx_GT := mx_gt 576 (by decide +kernel) rfl
theorem ml_se_0 : Cond.selects "LeagueOffice$Reader" (⟨"LeagueOffice$Reader", "split", "()V"⟩ : MethodName) (⟨"LeagueOffice$Reader", "split", "()V"⟩ : MethodName) ∈ mx_GT := mx_gt 0 (by decide +kernel) rfl
theorem ml_m_LeagueOffice_Reader_36 : mx_ml "LeagueOffice$Reader" 36 (⟨"LeagueOffice$Texts", "begin", "()V"⟩ : MethodName) 646 none := mx_ml_n (by decide +kernel)
theorem ml_in_647 : Cond.instanceMethod (⟨"LeagueOffice$Texts", "begin", "()V"⟩ : MethodName) ∈ mx_GT := mx_gt 647 (by decide +kernel) rfl
theorem ml_se_648 : Cond.selects "LeagueOffice$Texts" (⟨"LeagueOffice$Texts", "begin", "()V"⟩ : MethodName) (⟨"LeagueOffice$Texts", "begin", "()V"⟩ : MethodName) ∈ mx_GT := mx_gt 648 (by decide +kernel) rfl
theorem ml_f_LeagueOffice_Reader_41 : mx_fl "LeagueOffice$Reader" 41 (TX5 5) 258 none := mx_fl_n (by decide +kernel)
theorem ml_m_LeagueOffice_Reader_45 : mx_ml "LeagueOffice$Reader" 45 (⟨"LeagueOffice$Reader", "readPart", "(I)Z"⟩ : MethodName) 651 none := mx_ml_n (by decide +kernel)
theorem ml_in_653 : Cond.instanceMethod (⟨"LeagueOffice$Reader", "readPart", "(I)Z"⟩ : MethodName) ∈ mx_GT := mx_gt 653 (by decide +kernel) rfl
theorem ml_se_8 : Cond.selects "LeagueOffice$Reader" (⟨"LeagueOffice$Reader", "readPart", "(I)Z"⟩ : MethodName) (⟨"LeagueOffice$Reader", "readPart", "(I)Z"⟩ : MethodName) ∈ mx_GT := mx_gt 8 (by decide +kernel) rfl
theorem ml_m_LeagueOffice_Reader_49 : mx_ml "LeagueOffice$Reader" 49 (⟨"LeagueOffice$Row", "clear", "()V"⟩ : MethodName) 578 none := mx_ml_n (by decide +kernel)
theorem ml_m_LeagueOffice_Reader_52 : mx_ml "LeagueOffice$Reader" 52 (⟨"LeagueOffice$Row", "get", "(I)I"⟩ : MethodName) 590 none := mx_ml_n (by decide +kernel)
theorem ml_f_LeagueOffice_Reader_56 : mx_fl "LeagueOffice$Reader" 56 (TX10 0) 216 (some "LeagueOffice") := mx_fl_s (by decide +kernel)
theorem ml_m_LeagueOffice_Reader_59 : mx_ml "LeagueOffice$Reader" 59 (⟨"LeagueOffice$Reader", "behindBlanks", "(I)I"⟩ : MethodName) 582 none := mx_ml_n (by decide +kernel)
theorem ml_in_584 : Cond.instanceMethod (⟨"LeagueOffice$Reader", "behindBlanks", "(I)I"⟩ : MethodName) ∈ mx_GT := mx_gt 584 (by decide +kernel) rfl
theorem ml_se_1 : Cond.selects "LeagueOffice$Reader" (⟨"LeagueOffice$Reader", "behindBlanks", "(I)I"⟩ : MethodName) (⟨"LeagueOffice$Reader", "behindBlanks", "(I)I"⟩ : MethodName) ∈ mx_GT := mx_gt 1 (by decide +kernel) rfl
theorem ml_m_LeagueOffice_Reader_62 : mx_ml "LeagueOffice$Reader" 62 (⟨"LeagueOffice$Row", "size", "()I"⟩ : MethodName) 586 none := mx_ml_n (by decide +kernel)
theorem ml_m_LeagueOffice_Reader_65 : mx_ml "LeagueOffice$Reader" 65 (⟨"LeagueOffice$Reader", "addToken", "(III)V"⟩ : MethodName) 594 none := mx_ml_n (by decide +kernel)
theorem ml_in_596 : Cond.instanceMethod (⟨"LeagueOffice$Reader", "addToken", "(III)V"⟩ : MethodName) ∈ mx_GT := mx_gt 596 (by decide +kernel) rfl
theorem ml_se_2 : Cond.selects "LeagueOffice$Reader" (⟨"LeagueOffice$Reader", "addToken", "(III)V"⟩ : MethodName) (⟨"LeagueOffice$Reader", "addToken", "(III)V"⟩ : MethodName) ∈ mx_GT := mx_gt 2 (by decide +kernel) rfl
theorem ml_m_LeagueOffice_Reader_69 : mx_ml "LeagueOffice$Reader" 69 (⟨"LeagueOffice$Reader", "isDigit", "(I)Z"⟩ : MethodName) 599 none := mx_ml_n (by decide +kernel)
theorem ml_st_600 : Cond.static (⟨"LeagueOffice$Reader", "isDigit", "(I)Z"⟩ : MethodName) ∈ mx_GT := mx_gt 600 (by decide +kernel) rfl
theorem ml_m_LeagueOffice_Reader_72 : mx_ml "LeagueOffice$Reader" 72 (⟨"LeagueOffice$Reader", "behindDigits", "(I)I"⟩ : MethodName) 602 none := mx_ml_n (by decide +kernel)
theorem ml_in_604 : Cond.instanceMethod (⟨"LeagueOffice$Reader", "behindDigits", "(I)I"⟩ : MethodName) ∈ mx_GT := mx_gt 604 (by decide +kernel) rfl
theorem ml_se_3 : Cond.selects "LeagueOffice$Reader" (⟨"LeagueOffice$Reader", "behindDigits", "(I)I"⟩ : MethodName) (⟨"LeagueOffice$Reader", "behindDigits", "(I)I"⟩ : MethodName) ∈ mx_GT := mx_gt 3 (by decide +kernel) rfl
theorem ml_m_LeagueOffice_Reader_75 : mx_ml "LeagueOffice$Reader" 75 (⟨"LeagueOffice$Reader", "numberAt", "(II)I"⟩ : MethodName) 606 none := mx_ml_n (by decide +kernel)
theorem ml_in_608 : Cond.instanceMethod (⟨"LeagueOffice$Reader", "numberAt", "(II)I"⟩ : MethodName) ∈ mx_GT := mx_gt 608 (by decide +kernel) rfl
theorem ml_se_4 : Cond.selects "LeagueOffice$Reader" (⟨"LeagueOffice$Reader", "numberAt", "(II)I"⟩ : MethodName) (⟨"LeagueOffice$Reader", "numberAt", "(II)I"⟩ : MethodName) ∈ mx_GT := mx_gt 4 (by decide +kernel) rfl
theorem ml_m_LeagueOffice_Reader_79 : mx_ml "LeagueOffice$Reader" 79 (⟨"LeagueOffice$Reader", "isLetter", "(I)Z"⟩ : MethodName) 610 none := mx_ml_n (by decide +kernel)
theorem ml_st_611 : Cond.static (⟨"LeagueOffice$Reader", "isLetter", "(I)Z"⟩ : MethodName) ∈ mx_GT := mx_gt 611 (by decide +kernel) rfl
theorem ml_m_LeagueOffice_Reader_82 : mx_ml "LeagueOffice$Reader" 82 (⟨"LeagueOffice$Reader", "behindLetters", "(I)I"⟩ : MethodName) 613 none := mx_ml_n (by decide +kernel)
theorem ml_in_615 : Cond.instanceMethod (⟨"LeagueOffice$Reader", "behindLetters", "(I)I"⟩ : MethodName) ∈ mx_GT := mx_gt 615 (by decide +kernel) rfl
theorem ml_se_5 : Cond.selects "LeagueOffice$Reader" (⟨"LeagueOffice$Reader", "behindLetters", "(I)I"⟩ : MethodName) (⟨"LeagueOffice$Reader", "behindLetters", "(I)I"⟩ : MethodName) ∈ mx_GT := mx_gt 5 (by decide +kernel) rfl
theorem ml_m_LeagueOffice_Reader_85 : mx_ml "LeagueOffice$Reader" 85 (⟨"LeagueOffice$Reader", "wordAt", "(II)I"⟩ : MethodName) 617 none := mx_ml_n (by decide +kernel)
theorem ml_in_619 : Cond.instanceMethod (⟨"LeagueOffice$Reader", "wordAt", "(II)I"⟩ : MethodName) ∈ mx_GT := mx_gt 619 (by decide +kernel) rfl
theorem ml_se_6 : Cond.selects "LeagueOffice$Reader" (⟨"LeagueOffice$Reader", "wordAt", "(II)I"⟩ : MethodName) (⟨"LeagueOffice$Reader", "wordAt", "(II)I"⟩ : MethodName) ∈ mx_GT := mx_gt 6 (by decide +kernel) rfl
theorem ml_m_LeagueOffice_Reader_88 : mx_ml "LeagueOffice$Reader" 88 (⟨"LeagueOffice$Reader", "isSign", "(I)Z"⟩ : MethodName) 643 none := mx_ml_n (by decide +kernel)
theorem ml_st_644 : Cond.static (⟨"LeagueOffice$Reader", "isSign", "(I)Z"⟩ : MethodName) ∈ mx_GT := mx_gt 644 (by decide +kernel) rfl
theorem ml_m_LeagueOffice_Reader_91 : mx_ml "LeagueOffice$Reader" 91 (⟨"LeagueOffice$Row", "add", "(I)I"⟩ : MethodName) 598 none := mx_ml_n (by decide +kernel)
theorem ml_m_LeagueOffice_Reader_94 : mx_ml "LeagueOffice$Reader" 94 (⟨"LeagueOffice$Reader", "wordOf", "(I)Ljava/lang/String;"⟩ : MethodName) 621 none := mx_ml_n (by decide +kernel)
theorem ml_st_622 : Cond.static (⟨"LeagueOffice$Reader", "wordOf", "(I)Ljava/lang/String;"⟩ : MethodName) ∈ mx_GT := mx_gt 622 (by decide +kernel) rfl
theorem ml_m_LeagueOffice_Reader_98 : mx_ml "LeagueOffice$Reader" 98 (⟨"LeagueOffice$Reader", "isWord", "(Ljava/lang/String;II)Z"⟩ : MethodName) 637 none := mx_ml_n (by decide +kernel)
theorem ml_in_639 : Cond.instanceMethod (⟨"LeagueOffice$Reader", "isWord", "(Ljava/lang/String;II)Z"⟩ : MethodName) ∈ mx_GT := mx_gt 639 (by decide +kernel) rfl
theorem ml_se_7 : Cond.selects "LeagueOffice$Reader" (⟨"LeagueOffice$Reader", "isWord", "(Ljava/lang/String;II)Z"⟩ : MethodName) (⟨"LeagueOffice$Reader", "isWord", "(Ljava/lang/String;II)Z"⟩ : MethodName) ∈ mx_GT := mx_gt 7 (by decide +kernel) rfl
theorem ml_m_LeagueOffice_Reader_102 : mx_ml "LeagueOffice$Reader" 102 (⟨"java/lang/String", "length", "()I"⟩ : MethodName) 641 none := mx_ml_n (by decide +kernel)
theorem ml_in_519 : Cond.instanceMethod (⟨"java/lang/String", "length", "()I"⟩ : MethodName) ∈ mx_GT := mx_gt 519 (by decide +kernel) rfl
theorem ml_se_520 : Cond.selects "java/lang/String" (⟨"java/lang/String", "length", "()I"⟩ : MethodName) (⟨"java/lang/String", "length", "()I"⟩ : MethodName) ∈ mx_GT := mx_gt 520 (by decide +kernel) rfl
theorem ml_m_LeagueOffice_Reader_107 : mx_ml "LeagueOffice$Reader" 107 (⟨"java/lang/String", "charAt", "(I)C"⟩ : MethodName) 642 none := mx_ml_n (by decide +kernel)
theorem ml_in_529 : Cond.instanceMethod (⟨"java/lang/String", "charAt", "(I)C"⟩ : MethodName) ∈ mx_GT := mx_gt 529 (by decide +kernel) rfl
theorem ml_se_530 : Cond.selects "java/lang/String" (⟨"java/lang/String", "charAt", "(I)C"⟩ : MethodName) (⟨"java/lang/String", "charAt", "(I)C"⟩ : MethodName) ∈ mx_GT := mx_gt 530 (by decide +kernel) rfl
theorem ml_m_LeagueOffice_Reader_137 : mx_ml "LeagueOffice$Reader" 137 (⟨"LeagueOffice$Reader", "readToken", "(I)Z"⟩ : MethodName) 655 none := mx_ml_n (by decide +kernel)
theorem ml_in_657 : Cond.instanceMethod (⟨"LeagueOffice$Reader", "readToken", "(I)Z"⟩ : MethodName) ∈ mx_GT := mx_gt 657 (by decide +kernel) rfl
theorem ml_se_9 : Cond.selects "LeagueOffice$Reader" (⟨"LeagueOffice$Reader", "readToken", "(I)Z"⟩ : MethodName) (⟨"LeagueOffice$Reader", "readToken", "(I)Z"⟩ : MethodName) ∈ mx_GT := mx_gt 9 (by decide +kernel) rfl
theorem ml_m_LeagueOffice_Reader_140 : mx_ml "LeagueOffice$Reader" 140 (⟨"LeagueOffice$Texts", "beginPart", "(I)V"⟩ : MethodName) 659 none := mx_ml_n (by decide +kernel)
theorem ml_in_660 : Cond.instanceMethod (⟨"LeagueOffice$Texts", "beginPart", "(I)V"⟩ : MethodName) ∈ mx_GT := mx_gt 660 (by decide +kernel) rfl
theorem ml_se_661 : Cond.selects "LeagueOffice$Texts" (⟨"LeagueOffice$Texts", "beginPart", "(I)V"⟩ : MethodName) (⟨"LeagueOffice$Texts", "beginPart", "(I)V"⟩ : MethodName) ∈ mx_GT := mx_gt 661 (by decide +kernel) rfl
theorem ml_m_LeagueOffice_Reader_143 : mx_ml "LeagueOffice$Reader" 143 (⟨"LeagueOffice$Reader", "readLevel", "(II)Z"⟩ : MethodName) 668 none := mx_ml_n (by decide +kernel)
theorem ml_in_670 : Cond.instanceMethod (⟨"LeagueOffice$Reader", "readLevel", "(II)Z"⟩ : MethodName) ∈ mx_GT := mx_gt 670 (by decide +kernel) rfl
theorem ml_se_10 : Cond.selects "LeagueOffice$Reader" (⟨"LeagueOffice$Reader", "readLevel", "(II)Z"⟩ : MethodName) (⟨"LeagueOffice$Reader", "readLevel", "(II)Z"⟩ : MethodName) ∈ mx_GT := mx_gt 10 (by decide +kernel) rfl
theorem ml_m_LeagueOffice_Reader_147 : mx_ml "LeagueOffice$Reader" 147 (⟨"LeagueOffice$Texts", "endPart", "(I)V"⟩ : MethodName) 692 none := mx_ml_n (by decide +kernel)
theorem ml_in_693 : Cond.instanceMethod (⟨"LeagueOffice$Texts", "endPart", "(I)V"⟩ : MethodName) ∈ mx_GT := mx_gt 693 (by decide +kernel) rfl
theorem ml_se_694 : Cond.selects "LeagueOffice$Texts" (⟨"LeagueOffice$Texts", "endPart", "(I)V"⟩ : MethodName) (⟨"LeagueOffice$Texts", "endPart", "(I)V"⟩ : MethodName) ∈ mx_GT := mx_gt 694 (by decide +kernel) rfl
theorem ml_m_LeagueOffice_Reader_150 : mx_ml "LeagueOffice$Reader" 150 (⟨"LeagueOffice$Reader", "readOne", "(I)Z"⟩ : MethodName) 672 none := mx_ml_n (by decide +kernel)
theorem ml_in_674 : Cond.instanceMethod (⟨"LeagueOffice$Reader", "readOne", "(I)Z"⟩ : MethodName) ∈ mx_GT := mx_gt 674 (by decide +kernel) rfl
theorem ml_se_11 : Cond.selects "LeagueOffice$Reader" (⟨"LeagueOffice$Reader", "readOne", "(I)Z"⟩ : MethodName) (⟨"LeagueOffice$Reader", "readOne", "(I)Z"⟩ : MethodName) ∈ mx_GT := mx_gt 11 (by decide +kernel) rfl
theorem ml_m_LeagueOffice_Reader_153 : mx_ml "LeagueOffice$Reader" 153 (⟨"LeagueOffice$Reader", "readNot", "(I)Z"⟩ : MethodName) 685 none := mx_ml_n (by decide +kernel)
theorem ml_in_687 : Cond.instanceMethod (⟨"LeagueOffice$Reader", "readNot", "(I)Z"⟩ : MethodName) ∈ mx_GT := mx_gt 687 (by decide +kernel) rfl
theorem ml_se_12 : Cond.selects "LeagueOffice$Reader" (⟨"LeagueOffice$Reader", "readNot", "(I)Z"⟩ : MethodName) (⟨"LeagueOffice$Reader", "readNot", "(I)Z"⟩ : MethodName) ∈ mx_GT := mx_gt 12 (by decide +kernel) rfl
theorem ml_m_LeagueOffice_Reader_156 : mx_ml "LeagueOffice$Reader" 156 (⟨"LeagueOffice$Reader", "joins", "(III)Z"⟩ : MethodName) 689 none := mx_ml_n (by decide +kernel)
theorem ml_st_690 : Cond.static (⟨"LeagueOffice$Reader", "joins", "(III)Z"⟩ : MethodName) ∈ mx_GT := mx_gt 690 (by decide +kernel) rfl
theorem ml_m_LeagueOffice_Reader_160 : mx_ml "LeagueOffice$Reader" 160 (⟨"LeagueOffice$Texts", "emitToken", "(I)V"⟩ : MethodName) 681 none := mx_ml_n (by decide +kernel)
theorem ml_in_682 : Cond.instanceMethod (⟨"LeagueOffice$Texts", "emitToken", "(I)V"⟩ : MethodName) ∈ mx_GT := mx_gt 682 (by decide +kernel) rfl
theorem ml_se_683 : Cond.selects "LeagueOffice$Texts" (⟨"LeagueOffice$Texts", "emitToken", "(I)V"⟩ : MethodName) (⟨"LeagueOffice$Texts", "emitToken", "(I)V"⟩ : MethodName) ∈ mx_GT := mx_gt 683 (by decide +kernel) rfl
theorem ml_m_LeagueOffice_Reader_163 : mx_ml "LeagueOffice$Reader" 163 (⟨"LeagueOffice$Texts", "emitNumber", "(I)V"⟩ : MethodName) 676 none := mx_ml_n (by decide +kernel)
theorem ml_in_677 : Cond.instanceMethod (⟨"LeagueOffice$Texts", "emitNumber", "(I)V"⟩ : MethodName) ∈ mx_GT := mx_gt 677 (by decide +kernel) rfl
theorem ml_se_678 : Cond.selects "LeagueOffice$Texts" (⟨"LeagueOffice$Texts", "emitNumber", "(I)V"⟩ : MethodName) (⟨"LeagueOffice$Texts", "emitNumber", "(I)V"⟩ : MethodName) ∈ mx_GT := mx_gt 678 (by decide +kernel) rfl
theorem ml_m_LeagueOffice_Row_7 : mx_ml "LeagueOffice$Row" 7 (⟨"java/lang/Math", "max", "(II)I"⟩ : MethodName) 117 none := mx_ml_n (by decide +kernel)
theorem ml_f_LeagueOffice_Row_13 : mx_fl "LeagueOffice$Row" 13 (TX6 0) 120 none := mx_fl_n (by decide +kernel)
theorem ml_f_LeagueOffice_Row_19 : mx_fl "LeagueOffice$Row" 19 (TX6 1) 121 none := mx_fl_n (by decide +kernel)
theorem ml_m_LeagueOffice_Row_29 : mx_ml "LeagueOffice$Row" 29 (⟨"java/util/Arrays", "fill", "([II)V"⟩ : MethodName) 860 none := mx_ml_n (by decide +kernel)
theorem ml_st_861 : Cond.static (⟨"java/util/Arrays", "fill", "([II)V"⟩ : MethodName) ∈ mx_GT := mx_gt 861 (by decide +kernel) rfl
theorem ml_m_LeagueOffice_Sheets_11 : mx_ml "LeagueOffice$Sheets" 11 (⟨"LeagueOffice$Row", "<init>", "(I)V"⟩ : MethodName) 506 none := mx_ml_n (by decide +kernel)
theorem ml_f_LeagueOffice_Sheets_14 : mx_fl "LeagueOffice$Sheets" 14 (TX7 0) 507 none := mx_fl_n (by decide +kernel)
theorem ml_f_LeagueOffice_Sheets_20 : mx_fl "LeagueOffice$Sheets" 20 (TX7 1) 508 none := mx_fl_n (by decide +kernel)
theorem ml_f_LeagueOffice_Sheets_23 : mx_fl "LeagueOffice$Sheets" 23 (TX7 2) 509 none := mx_fl_n (by decide +kernel)
theorem ml_m_LeagueOffice_Sheets_26 : mx_ml "LeagueOffice$Sheets" 26 (⟨"LeagueOffice$Row", "put", "(II)V"⟩ : MethodName) 1262 none := mx_ml_n (by decide +kernel)
theorem ml_m_LeagueOffice_Sheets_30 : mx_ml "LeagueOffice$Sheets" 30 (⟨"LeagueOffice$Row", "get", "(I)I"⟩ : MethodName) 1275 none := mx_ml_n (by decide +kernel)
theorem ml_m_LeagueOffice_Sheets_34 : mx_ml "LeagueOffice$Sheets" 34 (⟨"LeagueOffice$Sheets", "sortOf", "(I)I"⟩ : MethodName) 1284 none := mx_ml_n (by decide +kernel)
theorem ml_in_1285 : Cond.instanceMethod (⟨"LeagueOffice$Sheets", "sortOf", "(I)I"⟩ : MethodName) ∈ mx_GT := mx_gt 1285 (by decide +kernel) rfl
theorem ml_se_1286 : Cond.selects "LeagueOffice$Sheets" (⟨"LeagueOffice$Sheets", "sortOf", "(I)I"⟩ : MethodName) (⟨"LeagueOffice$Sheets", "sortOf", "(I)I"⟩ : MethodName) ∈ mx_GT := mx_gt 1286 (by decide +kernel) rfl
theorem ml_m_LeagueOffice_Sheets_37 : mx_ml "LeagueOffice$Sheets" 37 (⟨"LeagueOffice$Row", "move", "(III)V"⟩ : MethodName) 1297 none := mx_ml_n (by decide +kernel)
theorem ml_in_1298 : Cond.instanceMethod (⟨"LeagueOffice$Row", "move", "(III)V"⟩ : MethodName) ∈ mx_GT := mx_gt 1298 (by decide +kernel) rfl
theorem ml_se_1299 : Cond.selects "LeagueOffice$Row" (⟨"LeagueOffice$Row", "move", "(III)V"⟩ : MethodName) (⟨"LeagueOffice$Row", "move", "(III)V"⟩ : MethodName) ∈ mx_GT := mx_gt 1299 (by decide +kernel) rfl
theorem ml_m_LeagueOffice_Squad_11 : mx_ml "LeagueOffice$Squad" 11 (⟨"LeagueOffice$Row", "<init>", "(I)V"⟩ : MethodName) 328 none := mx_ml_n (by decide +kernel)
theorem ml_f_LeagueOffice_Squad_14 : mx_fl "LeagueOffice$Squad" 14 (TX8 3) 333 none := mx_fl_n (by decide +kernel)
theorem ml_f_LeagueOffice_Squad_20 : mx_fl "LeagueOffice$Squad" 20 (TX8 4) 335 none := mx_fl_n (by decide +kernel)
theorem ml_f_LeagueOffice_Squad_23 : mx_fl "LeagueOffice$Squad" 23 (TX8 5) 337 none := mx_fl_n (by decide +kernel)
theorem ml_f_LeagueOffice_Squad_26 : mx_fl "LeagueOffice$Squad" 26 (TX8 6) 339 none := mx_fl_n (by decide +kernel)
theorem ml_f_LeagueOffice_Squad_29 : mx_fl "LeagueOffice$Squad" 29 (TX8 7) 341 none := mx_fl_n (by decide +kernel)
theorem ml_f_LeagueOffice_Squad_32 : mx_fl "LeagueOffice$Squad" 32 (TX8 8) 343 none := mx_fl_n (by decide +kernel)
theorem ml_f_LeagueOffice_Squad_35 : mx_fl "LeagueOffice$Squad" 35 (TX8 9) 345 none := mx_fl_n (by decide +kernel)
theorem ml_f_LeagueOffice_Squad_38 : mx_fl "LeagueOffice$Squad" 38 (TX8 10) 347 none := mx_fl_n (by decide +kernel)
theorem ml_f_LeagueOffice_Squad_41 : mx_fl "LeagueOffice$Squad" 41 (TX8 11) 349 none := mx_fl_n (by decide +kernel)
theorem ml_f_LeagueOffice_Squad_44 : mx_fl "LeagueOffice$Squad" 44 (TX8 12) 350 none := mx_fl_n (by decide +kernel)
theorem ml_f_LeagueOffice_Squad_47 : mx_fl "LeagueOffice$Squad" 47 (TX8 13) 351 none := mx_fl_n (by decide +kernel)
theorem ml_f_LeagueOffice_Squad_50 : mx_fl "LeagueOffice$Squad" 50 (TX8 0) 329 none := mx_fl_n (by decide +kernel)
theorem ml_f_LeagueOffice_Squad_54 : mx_fl "LeagueOffice$Squad" 54 (TX8 1) 330 none := mx_fl_n (by decide +kernel)
theorem ml_f_LeagueOffice_Squad_58 : mx_fl "LeagueOffice$Squad" 58 (TX8 2) 331 none := mx_fl_n (by decide +kernel)
theorem ml_m_LeagueOffice_Squad_62 : mx_ml "LeagueOffice$Squad" 62 (⟨"LeagueOffice$Row", "size", "()I"⟩ : MethodName) 971 none := mx_ml_n (by decide +kernel)
theorem ml_m_LeagueOffice_Squad_66 : mx_ml "LeagueOffice$Squad" 66 (⟨"LeagueOffice$Row", "get", "(I)I"⟩ : MethodName) 972 none := mx_ml_n (by decide +kernel)
theorem ml_f_LeagueOffice_Squad_70 : mx_fl "LeagueOffice$Squad" 70 (TX0 6) 166 (some "LeagueOffice") := mx_fl_s (by decide +kernel)
theorem ml_m_LeagueOffice_Squad_75 : mx_ml "LeagueOffice$Squad" 75 (⟨"LeagueOffice$Texts", "askBan", "(III)I"⟩ : MethodName) 990 none := mx_ml_n (by decide +kernel)
theorem ml_in_991 : Cond.instanceMethod (⟨"LeagueOffice$Texts", "askBan", "(III)I"⟩ : MethodName) ∈ mx_GT := mx_gt 991 (by decide +kernel) rfl
theorem ml_se_992 : Cond.selects "LeagueOffice$Texts" (⟨"LeagueOffice$Texts", "askBan", "(III)I"⟩ : MethodName) (⟨"LeagueOffice$Texts", "askBan", "(III)I"⟩ : MethodName) ∈ mx_GT := mx_gt 992 (by decide +kernel) rfl
theorem ml_m_LeagueOffice_Squad_81 : mx_ml "LeagueOffice$Squad" 81 (⟨"java/lang/Math", "min", "(II)I"⟩ : MethodName) 994 none := mx_ml_n (by decide +kernel)
theorem ml_m_LeagueOffice_Squad_87 : mx_ml "LeagueOffice$Squad" 87 (⟨"java/lang/Math", "max", "(II)I"⟩ : MethodName) 997 none := mx_ml_n (by decide +kernel)
theorem ml_m_LeagueOffice_Squad_90 : mx_ml "LeagueOffice$Squad" 90 (⟨"LeagueOffice$Row", "fill", "(I)V"⟩ : MethodName) 1010 none := mx_ml_n (by decide +kernel)
theorem ml_m_LeagueOffice_Squad_93 : mx_ml "LeagueOffice$Squad" 93 (⟨"LeagueOffice$Squad", "banOf", "(II)I"⟩ : MethodName) 1011 none := mx_ml_n (by decide +kernel)
theorem ml_in_987 : Cond.instanceMethod (⟨"LeagueOffice$Squad", "banOf", "(II)I"⟩ : MethodName) ∈ mx_GT := mx_gt 987 (by decide +kernel) rfl
theorem ml_se_988 : Cond.selects "LeagueOffice$Squad" (⟨"LeagueOffice$Squad", "banOf", "(II)I"⟩ : MethodName) (⟨"LeagueOffice$Squad", "banOf", "(II)I"⟩ : MethodName) ∈ mx_GT := mx_gt 988 (by decide +kernel) rfl
theorem ml_m_LeagueOffice_Squad_96 : mx_ml "LeagueOffice$Squad" 96 (⟨"LeagueOffice$Squad", "hold", "(II)V"⟩ : MethodName) 1012 none := mx_ml_n (by decide +kernel)
theorem ml_in_1014 : Cond.instanceMethod (⟨"LeagueOffice$Squad", "hold", "(II)V"⟩ : MethodName) ∈ mx_GT := mx_gt 1014 (by decide +kernel) rfl
theorem ml_se_16 : Cond.selects "LeagueOffice$Squad" (⟨"LeagueOffice$Squad", "hold", "(II)V"⟩ : MethodName) (⟨"LeagueOffice$Squad", "hold", "(II)V"⟩ : MethodName) ∈ mx_GT := mx_gt 16 (by decide +kernel) rfl
theorem ml_m_LeagueOffice_Squad_100 : mx_ml "LeagueOffice$Squad" 100 (⟨"LeagueOffice$Squad", "clubIn", "(II)I"⟩ : MethodName) 1016 none := mx_ml_n (by decide +kernel)
theorem ml_in_968 : Cond.instanceMethod (⟨"LeagueOffice$Squad", "clubIn", "(II)I"⟩ : MethodName) ∈ mx_GT := mx_gt 968 (by decide +kernel) rfl
theorem ml_se_969 : Cond.selects "LeagueOffice$Squad" (⟨"LeagueOffice$Squad", "clubIn", "(II)I"⟩ : MethodName) (⟨"LeagueOffice$Squad", "clubIn", "(II)I"⟩ : MethodName) ∈ mx_GT := mx_gt 969 (by decide +kernel) rfl
theorem ml_f_LeagueOffice_Squad_103 : mx_fl "LeagueOffice$Squad" 103 (TX0 7) 171 (some "LeagueOffice") := mx_fl_s (by decide +kernel)
theorem ml_m_LeagueOffice_Squad_106 : mx_ml "LeagueOffice$Squad" 106 (⟨"LeagueOffice$Book", "plays", "(II)Z"⟩ : MethodName) 1017 none := mx_ml_n (by decide +kernel)
theorem ml_m_LeagueOffice_Squad_110 : mx_ml "LeagueOffice$Squad" 110 (⟨"LeagueOffice$Book", "doesServe", "(I)Z"⟩ : MethodName) 1021 none := mx_ml_n (by decide +kernel)
theorem ml_in_1022 : Cond.instanceMethod (⟨"LeagueOffice$Book", "doesServe", "(I)Z"⟩ : MethodName) ∈ mx_GT := mx_gt 1022 (by decide +kernel) rfl
theorem ml_se_1023 : Cond.selects "LeagueOffice$Book" (⟨"LeagueOffice$Book", "doesServe", "(I)Z"⟩ : MethodName) (⟨"LeagueOffice$Book", "doesServe", "(I)Z"⟩ : MethodName) ∈ mx_GT := mx_gt 1023 (by decide +kernel) rfl
theorem ml_m_LeagueOffice_Squad_114 : mx_ml "LeagueOffice$Squad" 114 (⟨"LeagueOffice$Row", "put", "(II)V"⟩ : MethodName) 1026 none := mx_ml_n (by decide +kernel)
theorem ml_m_LeagueOffice_Squad_117 : mx_ml "LeagueOffice$Squad" 117 (⟨"LeagueOffice$Squad", "holdGames", "(I)V"⟩ : MethodName) 1006 none := mx_ml_n (by decide +kernel)
theorem ml_in_1007 : Cond.instanceMethod (⟨"LeagueOffice$Squad", "holdGames", "(I)V"⟩ : MethodName) ∈ mx_GT := mx_gt 1007 (by decide +kernel) rfl
theorem ml_se_1008 : Cond.selects "LeagueOffice$Squad" (⟨"LeagueOffice$Squad", "holdGames", "(I)V"⟩ : MethodName) (⟨"LeagueOffice$Squad", "holdGames", "(I)V"⟩ : MethodName) ∈ mx_GT := mx_gt 1008 (by decide +kernel) rfl
theorem ml_m_LeagueOffice_Squad_120 : mx_ml "LeagueOffice$Squad" 120 (⟨"LeagueOffice$Squad", "isFree", "(II)Z"⟩ : MethodName) 1052 none := mx_ml_n (by decide +kernel)
theorem ml_in_1033 : Cond.instanceMethod (⟨"LeagueOffice$Squad", "isFree", "(II)Z"⟩ : MethodName) ∈ mx_GT := mx_gt 1033 (by decide +kernel) rfl
theorem ml_se_1034 : Cond.selects "LeagueOffice$Squad" (⟨"LeagueOffice$Squad", "isFree", "(II)Z"⟩ : MethodName) (⟨"LeagueOffice$Squad", "isFree", "(II)Z"⟩ : MethodName) ∈ mx_GT := mx_gt 1034 (by decide +kernel) rfl
theorem ml_m_LeagueOffice_Squad_123 : mx_ml "LeagueOffice$Squad" 123 (⟨"LeagueOffice$Row", "clear", "()V"⟩ : MethodName) 1053 none := mx_ml_n (by decide +kernel)
theorem ml_f_LeagueOffice_Squad_126 : mx_fl "LeagueOffice$Squad" 126 (TX0 3) 148 (some "LeagueOffice") := mx_fl_s (by decide +kernel)
theorem ml_m_LeagueOffice_Squad_129 : mx_ml "LeagueOffice$Squad" 129 (⟨"LeagueOffice$Row", "add", "(I)I"⟩ : MethodName) 1054 none := mx_ml_n (by decide +kernel)
theorem ml_m_LeagueOffice_Tables_11 : mx_ml "LeagueOffice$Tables" 11 (⟨"LeagueOffice$Row", "<init>", "(I)V"⟩ : MethodName) 279 none := mx_ml_n (by decide +kernel)
theorem ml_f_LeagueOffice_Tables_14 : mx_fl "LeagueOffice$Tables" 14 (TX9 2) 282 none := mx_fl_n (by decide +kernel)
theorem ml_f_LeagueOffice_Tables_20 : mx_fl "LeagueOffice$Tables" 20 (TX9 3) 284 none := mx_fl_n (by decide +kernel)
theorem ml_f_LeagueOffice_Tables_23 : mx_fl "LeagueOffice$Tables" 23 (TX9 4) 286 none := mx_fl_n (by decide +kernel)
theorem ml_f_LeagueOffice_Tables_26 : mx_fl "LeagueOffice$Tables" 26 (TX9 5) 288 none := mx_fl_n (by decide +kernel)
theorem ml_f_LeagueOffice_Tables_30 : mx_fl "LeagueOffice$Tables" 30 (TX9 6) 289 none := mx_fl_n (by decide +kernel)
theorem ml_f_LeagueOffice_Tables_33 : mx_fl "LeagueOffice$Tables" 33 (TX9 7) 290 none := mx_fl_n (by decide +kernel)
theorem ml_f_LeagueOffice_Tables_36 : mx_fl "LeagueOffice$Tables" 36 (TX9 8) 291 none := mx_fl_n (by decide +kernel)
theorem ml_f_LeagueOffice_Tables_39 : mx_fl "LeagueOffice$Tables" 39 (TX9 9) 292 none := mx_fl_n (by decide +kernel)
theorem ml_f_LeagueOffice_Tables_42 : mx_fl "LeagueOffice$Tables" 42 (TX9 10) 293 none := mx_fl_n (by decide +kernel)
theorem ml_f_LeagueOffice_Tables_45 : mx_fl "LeagueOffice$Tables" 45 (TX9 0) 280 none := mx_fl_n (by decide +kernel)
theorem ml_f_LeagueOffice_Tables_49 : mx_fl "LeagueOffice$Tables" 49 (TX9 1) 281 none := mx_fl_n (by decide +kernel)
theorem ml_m_LeagueOffice_Tables_53 : mx_ml "LeagueOffice$Tables" 53 (⟨"java/util/Arrays", "fill", "([JJ)V"⟩ : MethodName) 853 none := mx_ml_n (by decide +kernel)
theorem ml_st_854 : Cond.static (⟨"java/util/Arrays", "fill", "([JJ)V"⟩ : MethodName) ∈ mx_GT := mx_gt 854 (by decide +kernel) rfl
theorem ml_m_LeagueOffice_Tables_59 : mx_ml "LeagueOffice$Tables" 59 (⟨"LeagueOffice$Row", "fill", "(I)V"⟩ : MethodName) 856 none := mx_ml_n (by decide +kernel)
theorem ml_f_LeagueOffice_Tables_61 : mx_fl "LeagueOffice$Tables" 61 (TX9 11) 294 none := mx_fl_n (by decide +kernel)
theorem ml_m_LeagueOffice_Tables_65 : mx_ml "LeagueOffice$Tables" 65 (⟨"LeagueOffice$Book", "learn", "(I)V"⟩ : MethodName) 863 none := mx_ml_n (by decide +kernel)
theorem ml_f_LeagueOffice_Tables_70 : mx_fl "LeagueOffice$Tables" 70 (TX0 3) 144 (some "LeagueOffice") := mx_fl_s (by decide +kernel)
theorem ml_m_LeagueOffice_Tables_73 : mx_ml "LeagueOffice$Tables" 73 (⟨"LeagueOffice$Row", "size", "()I"⟩ : MethodName) 864 none := mx_ml_n (by decide +kernel)
theorem ml_f_LeagueOffice_Tables_77 : mx_fl "LeagueOffice$Tables" 77 (TX0 11) 177 (some "LeagueOffice") := mx_fl_s (by decide +kernel)
theorem ml_m_LeagueOffice_Tables_80 : mx_ml "LeagueOffice$Tables" 80 (⟨"LeagueOffice$Row", "get", "(I)I"⟩ : MethodName) 865 none := mx_ml_n (by decide +kernel)
theorem ml_f_LeagueOffice_Tables_84 : mx_fl "LeagueOffice$Tables" 84 (TX0 6) 164 (some "LeagueOffice") := mx_fl_s (by decide +kernel)
theorem ml_m_LeagueOffice_Tables_87 : mx_ml "LeagueOffice$Tables" 87 (⟨"LeagueOffice$Book", "doesCount", "(I)Z"⟩ : MethodName) 866 none := mx_ml_n (by decide +kernel)
theorem ml_f_LeagueOffice_Tables_91 : mx_fl "LeagueOffice$Tables" 91 (TX0 4) 151 (some "LeagueOffice") := mx_fl_s (by decide +kernel)
theorem ml_m_LeagueOffice_Tables_94 : mx_ml "LeagueOffice$Tables" 94 (⟨"LeagueOffice$Tables", "enter", "(IIII)V"⟩ : MethodName) 872 none := mx_ml_n (by decide +kernel)
theorem ml_in_874 : Cond.instanceMethod (⟨"LeagueOffice$Tables", "enter", "(IIII)V"⟩ : MethodName) ∈ mx_GT := mx_gt 874 (by decide +kernel) rfl
theorem ml_se_14 : Cond.selects "LeagueOffice$Tables" (⟨"LeagueOffice$Tables", "enter", "(IIII)V"⟩ : MethodName) (⟨"LeagueOffice$Tables", "enter", "(IIII)V"⟩ : MethodName) ∈ mx_GT := mx_gt 14 (by decide +kernel) rfl
theorem ml_f_LeagueOffice_Tables_98 : mx_fl "LeagueOffice$Tables" 98 (TX0 5) 158 (some "LeagueOffice") := mx_fl_s (by decide +kernel)
theorem ml_m_LeagueOffice_Tables_101 : mx_ml "LeagueOffice$Tables" 101 (⟨"LeagueOffice$Tables", "addPoints", "(IJ)V"⟩ : MethodName) 912 none := mx_ml_n (by decide +kernel)
theorem ml_m_LeagueOffice_Tables_105 : mx_ml "LeagueOffice$Tables" 105 (⟨"LeagueOffice$Tables", "addGoals", "(IIII)V"⟩ : MethodName) 876 none := mx_ml_n (by decide +kernel)
theorem ml_m_LeagueOffice_Tables_108 : mx_ml "LeagueOffice$Tables" 108 (⟨"LeagueOffice$Book", "isLate", "(I)I"⟩ : MethodName) 885 none := mx_ml_n (by decide +kernel)
theorem ml_m_LeagueOffice_Tables_111 : mx_ml "LeagueOffice$Tables" 111 (⟨"LeagueOffice$Texts", "askGame", "(IIIIII)I"⟩ : MethodName) 894 none := mx_ml_n (by decide +kernel)
theorem ml_m_LeagueOffice_Tables_117 : mx_ml "LeagueOffice$Tables" 117 (⟨"LeagueOffice$Row", "raise", "(II)V"⟩ : MethodName) 880 none := mx_ml_n (by decide +kernel)
theorem ml_m_LeagueOffice_Tables_121 : mx_ml "LeagueOffice$Tables" 121 (⟨"LeagueOffice$Row", "put", "(II)V"⟩ : MethodName) 884 none := mx_ml_n (by decide +kernel)
theorem ml_m_LeagueOffice_Tables_124 : mx_ml "LeagueOffice$Tables" 124 (⟨"LeagueOffice$Texts", "askLike", "(IIII)I"⟩ : MethodName) 928 none := mx_ml_n (by decide +kernel)
theorem ml_in_929 : Cond.instanceMethod (⟨"LeagueOffice$Texts", "askLike", "(IIII)I"⟩ : MethodName) ∈ mx_GT := mx_gt 929 (by decide +kernel) rfl
theorem ml_se_930 : Cond.selects "LeagueOffice$Texts" (⟨"LeagueOffice$Texts", "askLike", "(IIII)I"⟩ : MethodName) (⟨"LeagueOffice$Texts", "askLike", "(IIII)I"⟩ : MethodName) ∈ mx_GT := mx_gt 930 (by decide +kernel) rfl
theorem ml_f_LeagueOffice_Tables_128 : mx_fl "LeagueOffice$Tables" 128 (TX0 1) 138 (some "LeagueOffice") := mx_fl_s (by decide +kernel)
theorem ml_m_LeagueOffice_Tables_131 : mx_ml "LeagueOffice$Tables" 131 (⟨"LeagueOffice$Tables", "pointsOf", "(I)J"⟩ : MethodName) 944 none := mx_ml_n (by decide +kernel)
theorem ml_m_LeagueOffice_Tables_135 : mx_ml "LeagueOffice$Tables" 135 (⟨"LeagueOffice$Tables", "likeOf", "(I)I"⟩ : MethodName) 945 none := mx_ml_n (by decide +kernel)
theorem ml_in_925 : Cond.instanceMethod (⟨"LeagueOffice$Tables", "likeOf", "(I)I"⟩ : MethodName) ∈ mx_GT := mx_gt 925 (by decide +kernel) rfl
theorem ml_se_926 : Cond.selects "LeagueOffice$Tables" (⟨"LeagueOffice$Tables", "likeOf", "(I)I"⟩ : MethodName) (⟨"LeagueOffice$Tables", "likeOf", "(I)I"⟩ : MethodName) ∈ mx_GT := mx_gt 926 (by decide +kernel) rfl
theorem ml_m_LeagueOffice_Tables_138 : mx_ml "LeagueOffice$Tables" 138 (⟨"LeagueOffice$Tables", "placeOf", "(I)I"⟩ : MethodName) 940 none := mx_ml_n (by decide +kernel)
theorem ml_m_LeagueOffice_Texts_11 : mx_ml "LeagueOffice$Texts" 11 (⟨"LeagueOffice$Row", "<init>", "(I)V"⟩ : MethodName) 214 none := mx_ml_n (by decide +kernel)
theorem ml_f_LeagueOffice_Texts_14 : mx_fl "LeagueOffice$Texts" 14 (TX10 1) 218 none := mx_fl_n (by decide +kernel)
theorem ml_f_LeagueOffice_Texts_20 : mx_fl "LeagueOffice$Texts" 20 (TX10 2) 219 none := mx_fl_n (by decide +kernel)
theorem ml_f_LeagueOffice_Texts_23 : mx_fl "LeagueOffice$Texts" 23 (TX10 3) 220 none := mx_fl_n (by decide +kernel)
theorem ml_f_LeagueOffice_Texts_26 : mx_fl "LeagueOffice$Texts" 26 (TX10 4) 221 none := mx_fl_n (by decide +kernel)
theorem ml_f_LeagueOffice_Texts_29 : mx_fl "LeagueOffice$Texts" 29 (TX10 5) 222 none := mx_fl_n (by decide +kernel)
theorem ml_f_LeagueOffice_Texts_32 : mx_fl "LeagueOffice$Texts" 32 (TX10 6) 223 none := mx_fl_n (by decide +kernel)
theorem ml_f_LeagueOffice_Texts_35 : mx_fl "LeagueOffice$Texts" 35 (TX10 7) 225 none := mx_fl_n (by decide +kernel)
theorem ml_f_LeagueOffice_Texts_38 : mx_fl "LeagueOffice$Texts" 38 (TX10 0) 215 none := mx_fl_n (by decide +kernel)
theorem ml_m_LeagueOffice_Texts_42 : mx_ml "LeagueOffice$Texts" 42 (⟨"LeagueOffice$Row", "get", "(I)I"⟩ : MethodName) 650 none := mx_ml_n (by decide +kernel)
theorem ml_f_LeagueOffice_Texts_46 : mx_fl "LeagueOffice$Texts" 46 (TX6 1) 122 (some "LeagueOffice") := mx_fl_s (by decide +kernel)
theorem ml_m_LeagueOffice_Texts_49 : mx_ml "LeagueOffice$Texts" 49 (⟨"LeagueOffice$Row", "size", "()I"⟩ : MethodName) 663 none := mx_ml_n (by decide +kernel)
theorem ml_m_LeagueOffice_Texts_52 : mx_ml "LeagueOffice$Texts" 52 (⟨"LeagueOffice$Row", "put", "(II)V"⟩ : MethodName) 664 none := mx_ml_n (by decide +kernel)
theorem ml_m_LeagueOffice_Texts_56 : mx_ml "LeagueOffice$Texts" 56 (⟨"LeagueOffice$Row", "add", "(I)I"⟩ : MethodName) 680 none := mx_ml_n (by decide +kernel)
theorem ml_m_LeagueOffice_Texts_59 : mx_ml "LeagueOffice$Texts" 59 (⟨"LeagueOffice$Row", "fill", "(I)V"⟩ : MethodName) 898 none := mx_ml_n (by decide +kernel)
theorem ml_m_LeagueOffice_Texts_62 : mx_ml "LeagueOffice$Texts" 62 (⟨"LeagueOffice$Texts", "textFor", "(I)I"⟩ : MethodName) 899 none := mx_ml_n (by decide +kernel)
theorem ml_in_837 : Cond.instanceMethod (⟨"LeagueOffice$Texts", "textFor", "(I)I"⟩ : MethodName) ∈ mx_GT := mx_gt 837 (by decide +kernel) rfl
theorem ml_se_838 : Cond.selects "LeagueOffice$Texts" (⟨"LeagueOffice$Texts", "textFor", "(I)I"⟩ : MethodName) (⟨"LeagueOffice$Texts", "textFor", "(I)I"⟩ : MethodName) ∈ mx_GT := mx_gt 838 (by decide +kernel) rfl
theorem ml_m_LeagueOffice_Texts_65 : mx_ml "LeagueOffice$Texts" 65 (⟨"LeagueOffice$Texts", "value", "(II)I"⟩ : MethodName) 900 none := mx_ml_n (by decide +kernel)
theorem ml_in_902 : Cond.instanceMethod (⟨"LeagueOffice$Texts", "value", "(II)I"⟩ : MethodName) ∈ mx_GT := mx_gt 902 (by decide +kernel) rfl
theorem ml_se_15 : Cond.selects "LeagueOffice$Texts" (⟨"LeagueOffice$Texts", "value", "(II)I"⟩ : MethodName) (⟨"LeagueOffice$Texts", "value", "(II)I"⟩ : MethodName) ∈ mx_GT := mx_gt 15 (by decide +kernel) rfl
theorem ml_m_LeagueOffice_Texts_69 : mx_ml "LeagueOffice$Texts" 69 (⟨"LeagueOffice$Row", "clear", "()V"⟩ : MethodName) 904 none := mx_ml_n (by decide +kernel)
theorem ml_m_LeagueOffice_Texts_72 : mx_ml "LeagueOffice$Texts" 72 (⟨"LeagueOffice$Row", "pop", "()I"⟩ : MethodName) 905 none := mx_ml_n (by decide +kernel)
theorem ml_in_906 : Cond.instanceMethod (⟨"LeagueOffice$Row", "pop", "()I"⟩ : MethodName) ∈ mx_GT := mx_gt 906 (by decide +kernel) rfl
theorem ml_se_907 : Cond.selects "LeagueOffice$Row" (⟨"LeagueOffice$Row", "pop", "()I"⟩ : MethodName) (⟨"LeagueOffice$Row", "pop", "()I"⟩ : MethodName) ∈ mx_GT := mx_gt 907 (by decide +kernel) rfl
theorem ml_m_LeagueOffice_Texts_75 : mx_ml "LeagueOffice$Texts" 75 (⟨"LeagueOffice$Texts", "joined", "(III)I"⟩ : MethodName) 909 none := mx_ml_n (by decide +kernel)
theorem ml_st_910 : Cond.static (⟨"LeagueOffice$Texts", "joined", "(III)I"⟩ : MethodName) ∈ mx_GT := mx_gt 910 (by decide +kernel) rfl
theorem ml_m_LeagueOffice_11 : mx_ml "LeagueOffice" 11 (⟨"LeagueOffice$Book", "<init>", "()V"⟩ : MethodName) 107 (some "LeagueOffice") := mx_ml_s (by decide +kernel)
theorem ml_in_108 : Cond.instanceMethod (⟨"LeagueOffice$Book", "<init>", "()V"⟩ : MethodName) ∈ mx_GT := mx_gt 108 (by decide +kernel) rfl
theorem ml_f_LeagueOffice_12 : mx_fl "LeagueOffice" 12 (TX11 0) 696 none := mx_fl_n (by decide +kernel)
theorem ml_m_LeagueOffice_18 : mx_ml "LeagueOffice" 18 (⟨"LeagueOffice$Texts", "<init>", "()V"⟩ : MethodName) 209 (some "LeagueOffice") := mx_ml_s (by decide +kernel)
theorem ml_in_210 : Cond.instanceMethod (⟨"LeagueOffice$Texts", "<init>", "()V"⟩ : MethodName) ∈ mx_GT := mx_gt 210 (by decide +kernel) rfl
theorem ml_f_LeagueOffice_19 : mx_fl "LeagueOffice" 19 (TX11 1) 697 none := mx_fl_n (by decide +kernel)
theorem ml_m_LeagueOffice_25 : mx_ml "LeagueOffice" 25 (⟨"LeagueOffice$Reader", "<init>", "(LLeagueOffice$Texts;)V"⟩ : MethodName) 246 none := mx_ml_n (by decide +kernel)
theorem ml_in_247 : Cond.instanceMethod (⟨"LeagueOffice$Reader", "<init>", "(LLeagueOffice$Texts;)V"⟩ : MethodName) ∈ mx_GT := mx_gt 247 (by decide +kernel) rfl
theorem ml_f_LeagueOffice_28 : mx_fl "LeagueOffice" 28 (TX11 2) 698 none := mx_fl_n (by decide +kernel)
theorem ml_m_LeagueOffice_34 : mx_ml "LeagueOffice" 34 (⟨"LeagueOffice$Tables", "<init>", "(LLeagueOffice$Book;LLeagueOffice$Texts;)V"⟩ : MethodName) 274 none := mx_ml_n (by decide +kernel)
theorem ml_in_275 : Cond.instanceMethod (⟨"LeagueOffice$Tables", "<init>", "(LLeagueOffice$Book;LLeagueOffice$Texts;)V"⟩ : MethodName) ∈ mx_GT := mx_gt 275 (by decide +kernel) rfl
theorem ml_f_LeagueOffice_37 : mx_fl "LeagueOffice" 37 (TX11 3) 699 none := mx_fl_n (by decide +kernel)
theorem ml_m_LeagueOffice_43 : mx_ml "LeagueOffice" 43 (⟨"LeagueOffice$Squad", "<init>", "(LLeagueOffice$Book;LLeagueOffice$Texts;)V"⟩ : MethodName) 323 none := mx_ml_n (by decide +kernel)
theorem ml_in_324 : Cond.instanceMethod (⟨"LeagueOffice$Squad", "<init>", "(LLeagueOffice$Book;LLeagueOffice$Texts;)V"⟩ : MethodName) ∈ mx_GT := mx_gt 324 (by decide +kernel) rfl
theorem ml_f_LeagueOffice_44 : mx_fl "LeagueOffice" 44 (TX11 4) 700 none := mx_fl_n (by decide +kernel)
theorem ml_m_LeagueOffice_50 : mx_ml "LeagueOffice" 50 (⟨"LeagueOffice$Failures", "<init>", "(LLeagueOffice$Book;)V"⟩ : MethodName) 384 none := mx_ml_n (by decide +kernel)
theorem ml_in_385 : Cond.instanceMethod (⟨"LeagueOffice$Failures", "<init>", "(LLeagueOffice$Book;)V"⟩ : MethodName) ∈ mx_GT := mx_gt 385 (by decide +kernel) rfl
theorem ml_f_LeagueOffice_53 : mx_fl "LeagueOffice" 53 (TX11 5) 701 none := mx_fl_n (by decide +kernel)
theorem ml_m_LeagueOffice_59 : mx_ml "LeagueOffice" 59 (⟨"LeagueOffice$Chances", "<init>", "(LLeagueOffice$Book;LLeagueOffice$Texts;LLeagueOffice$Tables;)V"⟩ : MethodName) 414 none := mx_ml_n (by decide +kernel)
theorem ml_in_415 : Cond.instanceMethod (⟨"LeagueOffice$Chances", "<init>", "(LLeagueOffice$Book;LLeagueOffice$Texts;LLeagueOffice$Tables;)V"⟩ : MethodName) ∈ mx_GT := mx_gt 415 (by decide +kernel) rfl
theorem ml_f_LeagueOffice_62 : mx_fl "LeagueOffice" 62 (TX11 6) 702 none := mx_fl_n (by decide +kernel)
theorem ml_m_LeagueOffice_68 : mx_ml "LeagueOffice" 68 (⟨"LeagueOffice$Purse", "<init>", "(LLeagueOffice$Book;LLeagueOffice$Tables;)V"⟩ : MethodName) 453 none := mx_ml_n (by decide +kernel)
theorem ml_in_454 : Cond.instanceMethod (⟨"LeagueOffice$Purse", "<init>", "(LLeagueOffice$Book;LLeagueOffice$Tables;)V"⟩ : MethodName) ∈ mx_GT := mx_gt 454 (by decide +kernel) rfl
theorem ml_f_LeagueOffice_71 : mx_fl "LeagueOffice" 71 (TX11 7) 703 none := mx_fl_n (by decide +kernel)
theorem ml_m_LeagueOffice_77 : mx_ml "LeagueOffice" 77 (⟨"LeagueOffice$Plan", "<init>", "(LLeagueOffice$Book;)V"⟩ : MethodName) 471 none := mx_ml_n (by decide +kernel)
theorem ml_in_472 : Cond.instanceMethod (⟨"LeagueOffice$Plan", "<init>", "(LLeagueOffice$Book;)V"⟩ : MethodName) ∈ mx_GT := mx_gt 472 (by decide +kernel) rfl
theorem ml_f_LeagueOffice_78 : mx_fl "LeagueOffice" 78 (TX11 8) 704 none := mx_fl_n (by decide +kernel)
theorem ml_m_LeagueOffice_84 : mx_ml "LeagueOffice" 84 (⟨"LeagueOffice$Sheets", "<init>", "()V"⟩ : MethodName) 501 (some "LeagueOffice") := mx_ml_s (by decide +kernel)
theorem ml_in_502 : Cond.instanceMethod (⟨"LeagueOffice$Sheets", "<init>", "()V"⟩ : MethodName) ∈ mx_GT := mx_gt 502 (by decide +kernel) rfl
theorem ml_f_LeagueOffice_85 : mx_fl "LeagueOffice" 85 (TX11 9) 705 none := mx_fl_n (by decide +kernel)
theorem ml_m_LeagueOffice_91 : mx_ml "LeagueOffice" 91 (⟨"java/lang/String", "length", "()I"⟩ : MethodName) 518 none := mx_ml_n (by decide +kernel)
theorem ml_f_LeagueOffice_97 : mx_fl "LeagueOffice" 97 (TX5 1) 254 (some "LeagueOffice") := mx_fl_s (by decide +kernel)
theorem ml_m_LeagueOffice_101 : mx_ml "LeagueOffice" 101 (⟨"java/lang/String", "charAt", "(I)C"⟩ : MethodName) 528 none := mx_ml_n (by decide +kernel)
theorem ml_m_LeagueOffice_105 : mx_ml "LeagueOffice" 105 (⟨"LeagueOffice$Row", "add", "(I)I"⟩ : MethodName) 566 none := mx_ml_n (by decide +kernel)
theorem ml_m_LeagueOffice_111 : mx_ml "LeagueOffice" 111 (⟨"LeagueOffice$Reader", "readTape", "()I"⟩ : MethodName) 570 none := mx_ml_n (by decide +kernel)
theorem ml_in_571 : Cond.instanceMethod (⟨"LeagueOffice$Reader", "readTape", "()I"⟩ : MethodName) ∈ mx_GT := mx_gt 571 (by decide +kernel) rfl
theorem ml_se_572 : Cond.selects "LeagueOffice$Reader" (⟨"LeagueOffice$Reader", "readTape", "()I"⟩ : MethodName) (⟨"LeagueOffice$Reader", "readTape", "()I"⟩ : MethodName) ∈ mx_GT := mx_gt 572 (by decide +kernel) rfl
theorem ml_f_LeagueOffice_114 : mx_fl "LeagueOffice" 114 (TX0 0) 131 (some "LeagueOffice") := mx_fl_s (by decide +kernel)
theorem ml_m_LeagueOffice_118 : mx_ml "LeagueOffice" 118 (⟨"LeagueOffice", "inside", "(II)Z"⟩ : MethodName) 736 none := mx_ml_n (by decide +kernel)
theorem ml_st_737 : Cond.static (⟨"LeagueOffice", "inside", "(II)Z"⟩ : MethodName) ∈ mx_GT := mx_gt 737 (by decide +kernel) rfl
theorem ml_f_LeagueOffice_122 : mx_fl "LeagueOffice" 122 (TX0 1) 137 (some "LeagueOffice") := mx_fl_s (by decide +kernel)
theorem ml_m_LeagueOffice_125 : mx_ml "LeagueOffice" 125 (⟨"LeagueOffice$Row", "isFull", "()Z"⟩ : MethodName) 739 none := mx_ml_n (by decide +kernel)
theorem ml_in_740 : Cond.instanceMethod (⟨"LeagueOffice$Row", "isFull", "()Z"⟩ : MethodName) ∈ mx_GT := mx_gt 740 (by decide +kernel) rfl
theorem ml_se_741 : Cond.selects "LeagueOffice$Row" (⟨"LeagueOffice$Row", "isFull", "()Z"⟩ : MethodName) (⟨"LeagueOffice$Row", "isFull", "()Z"⟩ : MethodName) ∈ mx_GT := mx_gt 741 (by decide +kernel) rfl
theorem ml_f_LeagueOffice_129 : mx_fl "LeagueOffice" 129 (TX0 2) 140 (some "LeagueOffice") := mx_fl_s (by decide +kernel)
theorem ml_m_LeagueOffice_132 : mx_ml "LeagueOffice" 132 (⟨"LeagueOffice$Book", "isClub", "(I)Z"⟩ : MethodName) 747 none := mx_ml_n (by decide +kernel)
theorem ml_in_748 : Cond.instanceMethod (⟨"LeagueOffice$Book", "isClub", "(I)Z"⟩ : MethodName) ∈ mx_GT := mx_gt 748 (by decide +kernel) rfl
theorem ml_se_749 : Cond.selects "LeagueOffice$Book" (⟨"LeagueOffice$Book", "isClub", "(I)Z"⟩ : MethodName) (⟨"LeagueOffice$Book", "isClub", "(I)Z"⟩ : MethodName) ∈ mx_GT := mx_gt 749 (by decide +kernel) rfl
theorem ml_m_LeagueOffice_136 : mx_ml "LeagueOffice" 136 (⟨"LeagueOffice$Row", "get", "(I)I"⟩ : MethodName) 755 none := mx_ml_n (by decide +kernel)
theorem ml_m_LeagueOffice_139 : mx_ml "LeagueOffice" 139 (⟨"LeagueOffice$Row", "put", "(II)V"⟩ : MethodName) 756 none := mx_ml_n (by decide +kernel)
theorem ml_f_LeagueOffice_143 : mx_fl "LeagueOffice" 143 (TX0 3) 147 (some "LeagueOffice") := mx_fl_s (by decide +kernel)
theorem ml_m_LeagueOffice_146 : mx_ml "LeagueOffice" 146 (⟨"LeagueOffice$Book", "addGame", "(IIII)I"⟩ : MethodName) 761 none := mx_ml_n (by decide +kernel)
theorem ml_in_762 : Cond.instanceMethod (⟨"LeagueOffice$Book", "addGame", "(IIII)I"⟩ : MethodName) ∈ mx_GT := mx_gt 762 (by decide +kernel) rfl
theorem ml_se_763 : Cond.selects "LeagueOffice$Book" (⟨"LeagueOffice$Book", "addGame", "(IIII)I"⟩ : MethodName) (⟨"LeagueOffice$Book", "addGame", "(IIII)I"⟩ : MethodName) ∈ mx_GT := mx_gt 763 (by decide +kernel) rfl
theorem ml_m_LeagueOffice_150 : mx_ml "LeagueOffice" 150 (⟨"LeagueOffice$Book", "isGame", "(I)Z"⟩ : MethodName) 779 none := mx_ml_n (by decide +kernel)
theorem ml_in_780 : Cond.instanceMethod (⟨"LeagueOffice$Book", "isGame", "(I)Z"⟩ : MethodName) ∈ mx_GT := mx_gt 780 (by decide +kernel) rfl
theorem ml_se_781 : Cond.selects "LeagueOffice$Book" (⟨"LeagueOffice$Book", "isGame", "(I)Z"⟩ : MethodName) (⟨"LeagueOffice$Book", "isGame", "(I)Z"⟩ : MethodName) ∈ mx_GT := mx_gt 781 (by decide +kernel) rfl
theorem ml_f_LeagueOffice_153 : mx_fl "LeagueOffice" 153 (TX0 4) 155 (some "LeagueOffice") := mx_fl_s (by decide +kernel)
theorem ml_f_LeagueOffice_156 : mx_fl "LeagueOffice" 156 (TX0 5) 162 (some "LeagueOffice") := mx_fl_s (by decide +kernel)
theorem ml_f_LeagueOffice_159 : mx_fl "LeagueOffice" 159 (TX0 6) 168 (some "LeagueOffice") := mx_fl_s (by decide +kernel)
theorem ml_f_LeagueOffice_162 : mx_fl "LeagueOffice" 162 ("LeagueOffice", "COUNTS", "[I", false) 783 none := mx_fl_n (by decide +kernel)
theorem ml_m_LeagueOffice_166 : mx_ml "LeagueOffice" 166 (⟨"LeagueOffice", "ofKind", "([II)I"⟩ : MethodName) 785 none := mx_ml_n (by decide +kernel)
theorem ml_f_LeagueOffice_170 : mx_fl "LeagueOffice" 170 ("LeagueOffice", "SERVES", "[I", false) 788 none := mx_fl_n (by decide +kernel)
theorem ml_f_LeagueOffice_173 : mx_fl "LeagueOffice" 173 ("LeagueOffice", "GATES", "[I", false) 790 none := mx_fl_n (by decide +kernel)
theorem ml_f_LeagueOffice_176 : mx_fl "LeagueOffice" 176 ("LeagueOffice", "HOME_PARTS", "[I", false) 792 none := mx_fl_n (by decide +kernel)
theorem ml_m_LeagueOffice_179 : mx_ml "LeagueOffice" 179 (⟨"LeagueOffice", "tellResult", "(III)I"⟩ : MethodName) 798 none := mx_ml_n (by decide +kernel)
theorem ml_in_800 : Cond.instanceMethod (⟨"LeagueOffice", "tellResult", "(III)I"⟩ : MethodName) ∈ mx_GT := mx_gt 800 (by decide +kernel) rfl
theorem ml_se_13 : Cond.selects "LeagueOffice" (⟨"LeagueOffice", "tellResult", "(III)I"⟩ : MethodName) (⟨"LeagueOffice", "tellResult", "(III)I"⟩ : MethodName) ∈ mx_GT := mx_gt 13 (by decide +kernel) rfl
theorem ml_m_LeagueOffice_183 : mx_ml "LeagueOffice" 183 (⟨"LeagueOffice$Book", "hasCome", "(I)Z"⟩ : MethodName) 810 none := mx_ml_n (by decide +kernel)
theorem ml_in_811 : Cond.instanceMethod (⟨"LeagueOffice$Book", "hasCome", "(I)Z"⟩ : MethodName) ∈ mx_GT := mx_gt 811 (by decide +kernel) rfl
theorem ml_se_812 : Cond.selects "LeagueOffice$Book" (⟨"LeagueOffice$Book", "hasCome", "(I)Z"⟩ : MethodName) (⟨"LeagueOffice$Book", "hasCome", "(I)Z"⟩ : MethodName) ∈ mx_GT := mx_gt 812 (by decide +kernel) rfl
theorem ml_m_LeagueOffice_186 : mx_ml "LeagueOffice" 186 (⟨"LeagueOffice$Book", "learn", "(I)V"⟩ : MethodName) 814 none := mx_ml_n (by decide +kernel)
theorem ml_f_LeagueOffice_190 : mx_fl "LeagueOffice" 190 (TX0 11) 181 (some "LeagueOffice") := mx_fl_s (by decide +kernel)
theorem ml_m_LeagueOffice_193 : mx_ml "LeagueOffice" 193 (⟨"LeagueOffice$Row", "size", "()I"⟩ : MethodName) 823 none := mx_ml_n (by decide +kernel)
theorem ml_f_LeagueOffice_196 : mx_fl "LeagueOffice" 196 (TX10 0) 217 (some "LeagueOffice") := mx_fl_s (by decide +kernel)
theorem ml_f_LeagueOffice_198 : mx_fl "LeagueOffice" 198 (TX10 6) 224 (some "LeagueOffice") := mx_fl_s (by decide +kernel)
theorem ml_f_LeagueOffice_201 : mx_fl "LeagueOffice" 201 (TX10 7) 226 (some "LeagueOffice") := mx_fl_s (by decide +kernel)
theorem ml_m_LeagueOffice_204 : mx_ml "LeagueOffice" 204 (⟨"LeagueOffice$Texts", "textFor", "(I)I"⟩ : MethodName) 836 none := mx_ml_n (by decide +kernel)
theorem ml_f_LeagueOffice_207 : mx_fl "LeagueOffice" 207 (TX9 2) 283 (some "LeagueOffice") := mx_fl_s (by decide +kernel)
theorem ml_f_LeagueOffice_210 : mx_fl "LeagueOffice" 210 (TX9 3) 285 (some "LeagueOffice") := mx_fl_s (by decide +kernel)
theorem ml_f_LeagueOffice_213 : mx_fl "LeagueOffice" 213 (TX9 4) 287 (some "LeagueOffice") := mx_fl_s (by decide +kernel)
theorem ml_m_LeagueOffice_218 : mx_ml "LeagueOffice" 218 (⟨"LeagueOffice$Tables", "tally", "(I)V"⟩ : MethodName) 849 none := mx_ml_n (by decide +kernel)
theorem ml_m_LeagueOffice_221 : mx_ml "LeagueOffice" 221 (⟨"LeagueOffice$Tables", "pointsOf", "(I)J"⟩ : MethodName) 916 none := mx_ml_n (by decide +kernel)
theorem ml_m_LeagueOffice_225 : mx_ml "LeagueOffice" 225 (⟨"LeagueOffice$Tables", "likeOf", "(I)I"⟩ : MethodName) 924 none := mx_ml_n (by decide +kernel)
theorem ml_m_LeagueOffice_228 : mx_ml "LeagueOffice" 228 (⟨"LeagueOffice$Tables", "clubAt", "(II)I"⟩ : MethodName) 936 none := mx_ml_n (by decide +kernel)
theorem ml_in_937 : Cond.instanceMethod (⟨"LeagueOffice$Tables", "clubAt", "(II)I"⟩ : MethodName) ∈ mx_GT := mx_gt 937 (by decide +kernel) rfl
theorem ml_se_938 : Cond.selects "LeagueOffice$Tables" (⟨"LeagueOffice$Tables", "clubAt", "(II)I"⟩ : MethodName) (⟨"LeagueOffice$Tables", "clubAt", "(II)I"⟩ : MethodName) ∈ mx_GT := mx_gt 938 (by decide +kernel) rfl
theorem ml_m_LeagueOffice_232 : mx_ml "LeagueOffice" 232 (⟨"LeagueOffice$Tables", "placeOf", "(I)I"⟩ : MethodName) 950 none := mx_ml_n (by decide +kernel)
theorem ml_f_LeagueOffice_235 : mx_fl "LeagueOffice" 235 (TX8 2) 332 (some "LeagueOffice") := mx_fl_s (by decide +kernel)
theorem ml_m_LeagueOffice_238 : mx_ml "LeagueOffice" 238 (⟨"LeagueOffice$Squad", "isPlayer", "(I)Z"⟩ : MethodName) 959 none := mx_ml_n (by decide +kernel)
theorem ml_in_960 : Cond.instanceMethod (⟨"LeagueOffice$Squad", "isPlayer", "(I)Z"⟩ : MethodName) ∈ mx_GT := mx_gt 960 (by decide +kernel) rfl
theorem ml_se_961 : Cond.selects "LeagueOffice$Squad" (⟨"LeagueOffice$Squad", "isPlayer", "(I)Z"⟩ : MethodName) (⟨"LeagueOffice$Squad", "isPlayer", "(I)Z"⟩ : MethodName) ∈ mx_GT := mx_gt 961 (by decide +kernel) rfl
theorem ml_f_LeagueOffice_241 : mx_fl "LeagueOffice" 241 (TX8 3) 334 (some "LeagueOffice") := mx_fl_s (by decide +kernel)
theorem ml_f_LeagueOffice_244 : mx_fl "LeagueOffice" 244 (TX8 4) 336 (some "LeagueOffice") := mx_fl_s (by decide +kernel)
theorem ml_f_LeagueOffice_247 : mx_fl "LeagueOffice" 247 (TX8 5) 338 (some "LeagueOffice") := mx_fl_s (by decide +kernel)
theorem ml_m_LeagueOffice_250 : mx_ml "LeagueOffice" 250 (⟨"LeagueOffice$Squad", "clubIn", "(II)I"⟩ : MethodName) 967 none := mx_ml_n (by decide +kernel)
theorem ml_f_LeagueOffice_253 : mx_fl "LeagueOffice" 253 (TX8 6) 340 (some "LeagueOffice") := mx_fl_s (by decide +kernel)
theorem ml_f_LeagueOffice_256 : mx_fl "LeagueOffice" 256 (TX8 7) 342 (some "LeagueOffice") := mx_fl_s (by decide +kernel)
theorem ml_f_LeagueOffice_259 : mx_fl "LeagueOffice" 259 (TX8 8) 344 (some "LeagueOffice") := mx_fl_s (by decide +kernel)
theorem ml_m_LeagueOffice_262 : mx_ml "LeagueOffice" 262 (⟨"LeagueOffice$Row", "has", "(I)Z"⟩ : MethodName) 981 none := mx_ml_n (by decide +kernel)
theorem ml_m_LeagueOffice_265 : mx_ml "LeagueOffice" 265 (⟨"LeagueOffice$Squad", "cardsTill", "(I)I"⟩ : MethodName) 982 none := mx_ml_n (by decide +kernel)
theorem ml_in_983 : Cond.instanceMethod (⟨"LeagueOffice$Squad", "cardsTill", "(I)I"⟩ : MethodName) ∈ mx_GT := mx_gt 983 (by decide +kernel) rfl
theorem ml_se_984 : Cond.selects "LeagueOffice$Squad" (⟨"LeagueOffice$Squad", "cardsTill", "(I)I"⟩ : MethodName) (⟨"LeagueOffice$Squad", "cardsTill", "(I)I"⟩ : MethodName) ∈ mx_GT := mx_gt 984 (by decide +kernel) rfl
theorem ml_m_LeagueOffice_268 : mx_ml "LeagueOffice" 268 (⟨"LeagueOffice$Squad", "banOf", "(II)I"⟩ : MethodName) 986 none := mx_ml_n (by decide +kernel)
theorem ml_m_LeagueOffice_271 : mx_ml "LeagueOffice" 271 (⟨"LeagueOffice$Squad", "heldBy", "(II)I"⟩ : MethodName) 1002 none := mx_ml_n (by decide +kernel)
theorem ml_in_1003 : Cond.instanceMethod (⟨"LeagueOffice$Squad", "heldBy", "(II)I"⟩ : MethodName) ∈ mx_GT := mx_gt 1003 (by decide +kernel) rfl
theorem ml_se_1004 : Cond.selects "LeagueOffice$Squad" (⟨"LeagueOffice$Squad", "heldBy", "(II)I"⟩ : MethodName) (⟨"LeagueOffice$Squad", "heldBy", "(II)I"⟩ : MethodName) ∈ mx_GT := mx_gt 1004 (by decide +kernel) rfl
theorem ml_m_LeagueOffice_274 : mx_ml "LeagueOffice" 274 (⟨"LeagueOffice$Squad", "holdGames", "(I)V"⟩ : MethodName) 1031 none := mx_ml_n (by decide +kernel)
theorem ml_m_LeagueOffice_277 : mx_ml "LeagueOffice" 277 (⟨"LeagueOffice$Squad", "isFree", "(II)Z"⟩ : MethodName) 1032 none := mx_ml_n (by decide +kernel)
theorem ml_m_LeagueOffice_280 : mx_ml "LeagueOffice" 280 (⟨"LeagueOffice$Squad", "hasPlayed", "(II)Z"⟩ : MethodName) 1040 none := mx_ml_n (by decide +kernel)
theorem ml_in_1041 : Cond.instanceMethod (⟨"LeagueOffice$Squad", "hasPlayed", "(II)Z"⟩ : MethodName) ∈ mx_GT := mx_gt 1041 (by decide +kernel) rfl
theorem ml_se_1042 : Cond.selects "LeagueOffice$Squad" (⟨"LeagueOffice$Squad", "hasPlayed", "(II)Z"⟩ : MethodName) (⟨"LeagueOffice$Squad", "hasPlayed", "(II)Z"⟩ : MethodName) ∈ mx_GT := mx_gt 1042 (by decide +kernel) rfl
theorem ml_f_LeagueOffice_283 : mx_fl "LeagueOffice" 283 (TX8 9) 346 (some "LeagueOffice") := mx_fl_s (by decide +kernel)
theorem ml_f_LeagueOffice_286 : mx_fl "LeagueOffice" 286 (TX8 10) 348 (some "LeagueOffice") := mx_fl_s (by decide +kernel)
theorem ml_m_LeagueOffice_289 : mx_ml "LeagueOffice" 289 (⟨"LeagueOffice$Squad", "listWrongs", "()V"⟩ : MethodName) 1048 none := mx_ml_n (by decide +kernel)
theorem ml_in_1049 : Cond.instanceMethod (⟨"LeagueOffice$Squad", "listWrongs", "()V"⟩ : MethodName) ∈ mx_GT := mx_gt 1049 (by decide +kernel) rfl
theorem ml_se_1050 : Cond.selects "LeagueOffice$Squad" (⟨"LeagueOffice$Squad", "listWrongs", "()V"⟩ : MethodName) (⟨"LeagueOffice$Squad", "listWrongs", "()V"⟩ : MethodName) ∈ mx_GT := mx_gt 1050 (by decide +kernel) rfl
theorem ml_f_LeagueOffice_292 : mx_fl "LeagueOffice" 292 (TX8 13) 352 (some "LeagueOffice") := mx_fl_s (by decide +kernel)
theorem ml_m_LeagueOffice_295 : mx_ml "LeagueOffice" 295 (⟨"LeagueOffice$Failures", "hasFailed", "(I)Z"⟩ : MethodName) 1059 none := mx_ml_n (by decide +kernel)
theorem ml_m_LeagueOffice_298 : mx_ml "LeagueOffice" 298 (⟨"LeagueOffice$Failures", "enter", "(I)I"⟩ : MethodName) 1064 none := mx_ml_n (by decide +kernel)
theorem ml_in_1065 : Cond.instanceMethod (⟨"LeagueOffice$Failures", "enter", "(I)I"⟩ : MethodName) ∈ mx_GT := mx_gt 1065 (by decide +kernel) rfl
theorem ml_se_1066 : Cond.selects "LeagueOffice$Failures" (⟨"LeagueOffice$Failures", "enter", "(I)I"⟩ : MethodName) (⟨"LeagueOffice$Failures", "enter", "(I)I"⟩ : MethodName) ∈ mx_GT := mx_gt 1066 (by decide +kernel) rfl
theorem ml_m_LeagueOffice_301 : mx_ml "LeagueOffice" 301 (⟨"LeagueOffice$Failures", "canGoBack", "(I)Z"⟩ : MethodName) 1089 none := mx_ml_n (by decide +kernel)
theorem ml_in_1090 : Cond.instanceMethod (⟨"LeagueOffice$Failures", "canGoBack", "(I)Z"⟩ : MethodName) ∈ mx_GT := mx_gt 1090 (by decide +kernel) rfl
theorem ml_se_1091 : Cond.selects "LeagueOffice$Failures" (⟨"LeagueOffice$Failures", "canGoBack", "(I)Z"⟩ : MethodName) (⟨"LeagueOffice$Failures", "canGoBack", "(I)Z"⟩ : MethodName) ∈ mx_GT := mx_gt 1091 (by decide +kernel) rfl
theorem ml_m_LeagueOffice_304 : mx_ml "LeagueOffice" 304 (⟨"LeagueOffice$Failures", "goBack", "(I)I"⟩ : MethodName) 1098 none := mx_ml_n (by decide +kernel)
theorem ml_in_1099 : Cond.instanceMethod (⟨"LeagueOffice$Failures", "goBack", "(I)I"⟩ : MethodName) ∈ mx_GT := mx_gt 1099 (by decide +kernel) rfl
theorem ml_se_1100 : Cond.selects "LeagueOffice$Failures" (⟨"LeagueOffice$Failures", "goBack", "(I)I"⟩ : MethodName) (⟨"LeagueOffice$Failures", "goBack", "(I)I"⟩ : MethodName) ∈ mx_GT := mx_gt 1100 (by decide +kernel) rfl
theorem ml_m_LeagueOffice_307 : mx_ml "LeagueOffice" 307 (⟨"LeagueOffice$Chances", "gather", "(I)I"⟩ : MethodName) 1106 none := mx_ml_n (by decide +kernel)
theorem ml_m_LeagueOffice_310 : mx_ml "LeagueOffice" 310 (⟨"LeagueOffice$Chances", "tryAll", "(I)Z"⟩ : MethodName) 1124 none := mx_ml_n (by decide +kernel)
theorem ml_in_1125 : Cond.instanceMethod (⟨"LeagueOffice$Chances", "tryAll", "(I)Z"⟩ : MethodName) ∈ mx_GT := mx_gt 1125 (by decide +kernel) rfl
theorem ml_se_1126 : Cond.selects "LeagueOffice$Chances" (⟨"LeagueOffice$Chances", "tryAll", "(I)Z"⟩ : MethodName) (⟨"LeagueOffice$Chances", "tryAll", "(I)Z"⟩ : MethodName) ∈ mx_GT := mx_gt 1126 (by decide +kernel) rfl
theorem ml_m_LeagueOffice_313 : mx_ml "LeagueOffice" 313 (⟨"LeagueOffice$Chances", "bestPlace", "()I"⟩ : MethodName) 1157 none := mx_ml_n (by decide +kernel)
theorem ml_in_1158 : Cond.instanceMethod (⟨"LeagueOffice$Chances", "bestPlace", "()I"⟩ : MethodName) ∈ mx_GT := mx_gt 1158 (by decide +kernel) rfl
theorem ml_se_1159 : Cond.selects "LeagueOffice$Chances" (⟨"LeagueOffice$Chances", "bestPlace", "()I"⟩ : MethodName) (⟨"LeagueOffice$Chances", "bestPlace", "()I"⟩ : MethodName) ∈ mx_GT := mx_gt 1159 (by decide +kernel) rfl
theorem ml_m_LeagueOffice_316 : mx_ml "LeagueOffice" 316 (⟨"LeagueOffice$Chances", "worstPlace", "()I"⟩ : MethodName) 1162 none := mx_ml_n (by decide +kernel)
theorem ml_in_1163 : Cond.instanceMethod (⟨"LeagueOffice$Chances", "worstPlace", "()I"⟩ : MethodName) ∈ mx_GT := mx_gt 1163 (by decide +kernel) rfl
theorem ml_se_1164 : Cond.selects "LeagueOffice$Chances" (⟨"LeagueOffice$Chances", "worstPlace", "()I"⟩ : MethodName) (⟨"LeagueOffice$Chances", "worstPlace", "()I"⟩ : MethodName) ∈ mx_GT := mx_gt 1164 (by decide +kernel) rfl
theorem ml_m_LeagueOffice_319 : mx_ml "LeagueOffice" 319 (⟨"LeagueOffice$Chances", "leastFor", "(I)I"⟩ : MethodName) 1175 none := mx_ml_n (by decide +kernel)
theorem ml_in_1176 : Cond.instanceMethod (⟨"LeagueOffice$Chances", "leastFor", "(I)I"⟩ : MethodName) ∈ mx_GT := mx_gt 1176 (by decide +kernel) rfl
theorem ml_se_1177 : Cond.selects "LeagueOffice$Chances" (⟨"LeagueOffice$Chances", "leastFor", "(I)I"⟩ : MethodName) (⟨"LeagueOffice$Chances", "leastFor", "(I)I"⟩ : MethodName) ∈ mx_GT := mx_gt 1177 (by decide +kernel) rfl
theorem ml_m_LeagueOffice_323 : mx_ml "LeagueOffice" 323 (⟨"LeagueOffice$Book", "isIn", "(II)Z"⟩ : MethodName) 1188 none := mx_ml_n (by decide +kernel)
theorem ml_m_LeagueOffice_326 : mx_ml "LeagueOffice" 326 (⟨"LeagueOffice$Purse", "share", "(III)J"⟩ : MethodName) 1189 none := mx_ml_n (by decide +kernel)
theorem ml_in_1190 : Cond.instanceMethod (⟨"LeagueOffice$Purse", "share", "(III)J"⟩ : MethodName) ∈ mx_GT := mx_gt 1190 (by decide +kernel) rfl
theorem ml_se_1191 : Cond.selects "LeagueOffice$Purse" (⟨"LeagueOffice$Purse", "share", "(III)J"⟩ : MethodName) (⟨"LeagueOffice$Purse", "share", "(III)J"⟩ : MethodName) ∈ mx_GT := mx_gt 1191 (by decide +kernel) rfl
theorem ml_m_LeagueOffice_330 : mx_ml "LeagueOffice" 330 (⟨"LeagueOffice$Plan", "forget", "()I"⟩ : MethodName) 1216 none := mx_ml_n (by decide +kernel)
theorem ml_in_1217 : Cond.instanceMethod (⟨"LeagueOffice$Plan", "forget", "()I"⟩ : MethodName) ∈ mx_GT := mx_gt 1217 (by decide +kernel) rfl
theorem ml_se_1218 : Cond.selects "LeagueOffice$Plan" (⟨"LeagueOffice$Plan", "forget", "()I"⟩ : MethodName) (⟨"LeagueOffice$Plan", "forget", "()I"⟩ : MethodName) ∈ mx_GT := mx_gt 1218 (by decide +kernel) rfl
theorem ml_m_LeagueOffice_333 : mx_ml "LeagueOffice" 333 (⟨"LeagueOffice$Plan", "hasMeeting", "(I)Z"⟩ : MethodName) 1221 none := mx_ml_n (by decide +kernel)
theorem ml_in_1222 : Cond.instanceMethod (⟨"LeagueOffice$Plan", "hasMeeting", "(I)Z"⟩ : MethodName) ∈ mx_GT := mx_gt 1222 (by decide +kernel) rfl
theorem ml_se_1223 : Cond.selects "LeagueOffice$Plan" (⟨"LeagueOffice$Plan", "hasMeeting", "(I)Z"⟩ : MethodName) (⟨"LeagueOffice$Plan", "hasMeeting", "(I)Z"⟩ : MethodName) ∈ mx_GT := mx_gt 1223 (by decide +kernel) rfl
theorem ml_m_LeagueOffice_336 : mx_ml "LeagueOffice" 336 (⟨"LeagueOffice$Plan", "add", "(II)I"⟩ : MethodName) 1227 none := mx_ml_n (by decide +kernel)
theorem ml_in_1228 : Cond.instanceMethod (⟨"LeagueOffice$Plan", "add", "(II)I"⟩ : MethodName) ∈ mx_GT := mx_gt 1228 (by decide +kernel) rfl
theorem ml_se_1229 : Cond.selects "LeagueOffice$Plan" (⟨"LeagueOffice$Plan", "add", "(II)I"⟩ : MethodName) (⟨"LeagueOffice$Plan", "add", "(II)I"⟩ : MethodName) ∈ mx_GT := mx_gt 1229 (by decide +kernel) rfl
theorem ml_m_LeagueOffice_338 : mx_ml "LeagueOffice" 338 (⟨"LeagueOffice$Plan", "lay", "(I)V"⟩ : MethodName) 1236 none := mx_ml_n (by decide +kernel)
theorem ml_in_1237 : Cond.instanceMethod (⟨"LeagueOffice$Plan", "lay", "(I)V"⟩ : MethodName) ∈ mx_GT := mx_gt 1237 (by decide +kernel) rfl
theorem ml_se_1238 : Cond.selects "LeagueOffice$Plan" (⟨"LeagueOffice$Plan", "lay", "(I)V"⟩ : MethodName) (⟨"LeagueOffice$Plan", "lay", "(I)V"⟩ : MethodName) ∈ mx_GT := mx_gt 1238 (by decide +kernel) rfl
theorem ml_f_LeagueOffice_341 : mx_fl "LeagueOffice" 341 (TX3 4) 483 (some "LeagueOffice") := mx_fl_s (by decide +kernel)
theorem ml_f_LeagueOffice_344 : mx_fl "LeagueOffice" 344 (TX3 5) 485 (some "LeagueOffice") := mx_fl_s (by decide +kernel)
theorem ml_f_LeagueOffice_347 : mx_fl "LeagueOffice" 347 (TX0 8) 173 (some "LeagueOffice") := mx_fl_s (by decide +kernel)
theorem ml_f_LeagueOffice_350 : mx_fl "LeagueOffice" 350 (TX3 1) 479 (some "LeagueOffice") := mx_fl_s (by decide +kernel)
theorem ml_m_LeagueOffice_353 : mx_ml "LeagueOffice" 353 (⟨"LeagueOffice$Sheets", "remove", "(I)I"⟩ : MethodName) 1258 none := mx_ml_n (by decide +kernel)
theorem ml_in_1259 : Cond.instanceMethod (⟨"LeagueOffice$Sheets", "remove", "(I)I"⟩ : MethodName) ∈ mx_GT := mx_gt 1259 (by decide +kernel) rfl
theorem ml_se_1260 : Cond.selects "LeagueOffice$Sheets" (⟨"LeagueOffice$Sheets", "remove", "(I)I"⟩ : MethodName) (⟨"LeagueOffice$Sheets", "remove", "(I)I"⟩ : MethodName) ∈ mx_GT := mx_gt 1260 (by decide +kernel) rfl
theorem ml_m_LeagueOffice_356 : mx_ml "LeagueOffice" 356 (⟨"LeagueOffice$Sheets", "lay", "(III)I"⟩ : MethodName) 1263 none := mx_ml_n (by decide +kernel)
theorem ml_in_1264 : Cond.instanceMethod (⟨"LeagueOffice$Sheets", "lay", "(III)I"⟩ : MethodName) ∈ mx_GT := mx_gt 1264 (by decide +kernel) rfl
theorem ml_se_1265 : Cond.selects "LeagueOffice$Sheets" (⟨"LeagueOffice$Sheets", "lay", "(III)I"⟩ : MethodName) (⟨"LeagueOffice$Sheets", "lay", "(III)I"⟩ : MethodName) ∈ mx_GT := mx_gt 1265 (by decide +kernel) rfl
theorem ml_m_LeagueOffice_358 : mx_ml "LeagueOffice" 358 (⟨"LeagueOffice$Sheets", "isMissing", "(I)Z"⟩ : MethodName) 1271 none := mx_ml_n (by decide +kernel)
theorem ml_in_1272 : Cond.instanceMethod (⟨"LeagueOffice$Sheets", "isMissing", "(I)Z"⟩ : MethodName) ∈ mx_GT := mx_gt 1272 (by decide +kernel) rfl
theorem ml_se_1273 : Cond.selects "LeagueOffice$Sheets" (⟨"LeagueOffice$Sheets", "isMissing", "(I)Z"⟩ : MethodName) (⟨"LeagueOffice$Sheets", "isMissing", "(I)Z"⟩ : MethodName) ∈ mx_GT := mx_gt 1273 (by decide +kernel) rfl
theorem ml_m_LeagueOffice_361 : mx_ml "LeagueOffice" 361 (⟨"LeagueOffice$Sheets", "holds", "(III)Z"⟩ : MethodName) 1276 none := mx_ml_n (by decide +kernel)
theorem ml_in_1277 : Cond.instanceMethod (⟨"LeagueOffice$Sheets", "holds", "(III)Z"⟩ : MethodName) ∈ mx_GT := mx_gt 1277 (by decide +kernel) rfl
theorem ml_se_1278 : Cond.selects "LeagueOffice$Sheets" (⟨"LeagueOffice$Sheets", "holds", "(III)Z"⟩ : MethodName) (⟨"LeagueOffice$Sheets", "holds", "(III)Z"⟩ : MethodName) ∈ mx_GT := mx_gt 1278 (by decide +kernel) rfl
theorem ml_m_LeagueOffice_365 : mx_ml "LeagueOffice" 365 (⟨"LeagueOffice$Sheets", "write", "(III)I"⟩ : MethodName) 1280 none := mx_ml_n (by decide +kernel)
theorem ml_in_1281 : Cond.instanceMethod (⟨"LeagueOffice$Sheets", "write", "(III)I"⟩ : MethodName) ∈ mx_GT := mx_gt 1281 (by decide +kernel) rfl
theorem ml_se_1282 : Cond.selects "LeagueOffice$Sheets" (⟨"LeagueOffice$Sheets", "write", "(III)I"⟩ : MethodName) (⟨"LeagueOffice$Sheets", "write", "(III)I"⟩ : MethodName) ∈ mx_GT := mx_gt 1282 (by decide +kernel) rfl
theorem ml_m_LeagueOffice_368 : mx_ml "LeagueOffice" 368 (⟨"LeagueOffice$Sheets", "sortOf", "(I)I"⟩ : MethodName) 1292 none := mx_ml_n (by decide +kernel)
theorem ml_m_LeagueOffice_371 : mx_ml "LeagueOffice" 371 (⟨"LeagueOffice$Sheets", "move", "(IIIII)I"⟩ : MethodName) 1293 none := mx_ml_n (by decide +kernel)
theorem ml_in_1294 : Cond.instanceMethod (⟨"LeagueOffice$Sheets", "move", "(IIIII)I"⟩ : MethodName) ∈ mx_GT := mx_gt 1294 (by decide +kernel) rfl
theorem ml_se_1295 : Cond.selects "LeagueOffice$Sheets" (⟨"LeagueOffice$Sheets", "move", "(IIIII)I"⟩ : MethodName) (⟨"LeagueOffice$Sheets", "move", "(IIIII)I"⟩ : MethodName) ∈ mx_GT := mx_gt 1295 (by decide +kernel) rfl
theorem ml_m_LeagueOffice_375 : mx_ml "LeagueOffice" 375 (⟨"LeagueOffice$Sheets", "read", "(II)I"⟩ : MethodName) 1305 none := mx_ml_n (by decide +kernel)
theorem ml_in_1306 : Cond.instanceMethod (⟨"LeagueOffice$Sheets", "read", "(II)I"⟩ : MethodName) ∈ mx_GT := mx_gt 1306 (by decide +kernel) rfl
theorem ml_se_1307 : Cond.selects "LeagueOffice$Sheets" (⟨"LeagueOffice$Sheets", "read", "(II)I"⟩ : MethodName) (⟨"LeagueOffice$Sheets", "read", "(II)I"⟩ : MethodName) ∈ mx_GT := mx_gt 1307 (by decide +kernel) rfl
theorem ml_m_LeagueOffice_378 : mx_ml "LeagueOffice" 378 (⟨"LeagueOffice", "isUnder", "(II)Z"⟩ : MethodName) 1313 none := mx_ml_n (by decide +kernel)
theorem ml_m_LeagueOffice_381 : mx_ml "LeagueOffice" 381 (⟨"LeagueOffice$Book", "addResult", "(III)I"⟩ : MethodName) 802 none := mx_ml_n (by decide +kernel)
theorem ml_in_803 : Cond.instanceMethod (⟨"LeagueOffice$Book", "addResult", "(III)I"⟩ : MethodName) ∈ mx_GT := mx_gt 803 (by decide +kernel) rfl
theorem ml_se_804 : Cond.selects "LeagueOffice$Book" (⟨"LeagueOffice$Book", "addResult", "(III)I"⟩ : MethodName) (⟨"LeagueOffice$Book", "addResult", "(III)I"⟩ : MethodName) ∈ mx_GT := mx_gt 804 (by decide +kernel) rfl
theorem ml_f_LeagueOffice_384 : mx_fl "LeagueOffice" 384 ("LeagueOffice", "UNDER", "[I", false) 892 none := mx_fl_n (by decide +kernel)
theorem ml_m_LeagueOfficeModel_7 : mx_ml "LeagueOfficeModel" 7 (⟨"LeagueOfficeModel", "in", "(III)Z"⟩ : MethodName) 1318 none := mx_ml_n (by decide +kernel)
theorem ml_st_1319 : Cond.static (⟨"LeagueOfficeModel", "in", "(III)Z"⟩ : MethodName) ∈ mx_GT := mx_gt 1319 (by decide +kernel) rfl
theorem ml_f_LeagueOfficeModel_11 : mx_fl "LeagueOfficeModel" 11 (TX12 1) 1453 none := mx_fl_n (by decide +kernel)
theorem ml_f_LeagueOfficeModel_14 : mx_fl "LeagueOfficeModel" 14 (TX12 2) 1454 none := mx_fl_n (by decide +kernel)
theorem ml_m_LeagueOfficeModel_17 : mx_ml "LeagueOfficeModel" 17 (⟨"LeagueOfficeModel", "isStep", "(I)Z"⟩ : MethodName) 1325 none := mx_ml_n (by decide +kernel)
theorem ml_st_1326 : Cond.static (⟨"LeagueOfficeModel", "isStep", "(I)Z"⟩ : MethodName) ∈ mx_GT := mx_gt 1326 (by decide +kernel) rfl
theorem ml_f_LeagueOfficeModel_21 : mx_fl "LeagueOfficeModel" 21 (TX12 3) 1455 none := mx_fl_n (by decide +kernel)
theorem ml_f_LeagueOfficeModel_25 : mx_fl "LeagueOfficeModel" 25 (TX12 4) 1456 none := mx_fl_n (by decide +kernel)
theorem ml_m_LeagueOfficeModel_28 : mx_ml "LeagueOfficeModel" 28 (⟨"LeagueOfficeModel", "isClub", "(I)Z"⟩ : MethodName) 1332 none := mx_ml_n (by decide +kernel)
theorem ml_in_1334 : Cond.instanceMethod (⟨"LeagueOfficeModel", "isClub", "(I)Z"⟩ : MethodName) ∈ mx_GT := mx_gt 1334 (by decide +kernel) rfl
theorem ml_se_30 : Cond.selects "LeagueOfficeModel" (⟨"LeagueOfficeModel", "isClub", "(I)Z"⟩ : MethodName) (⟨"LeagueOfficeModel", "isClub", "(I)Z"⟩ : MethodName) ∈ mx_GT := mx_gt 30 (by decide +kernel) rfl
theorem ml_f_LeagueOfficeModel_31 : mx_fl "LeagueOfficeModel" 31 (TX12 5) 1457 none := mx_fl_n (by decide +kernel)
theorem ml_m_LeagueOfficeModel_34 : mx_ml "LeagueOfficeModel" 34 (⟨"LeagueOfficeModel", "isDay", "(I)Z"⟩ : MethodName) 1341 none := mx_ml_n (by decide +kernel)
theorem ml_st_1342 : Cond.static (⟨"LeagueOfficeModel", "isDay", "(I)Z"⟩ : MethodName) ∈ mx_GT := mx_gt 1342 (by decide +kernel) rfl
theorem ml_f_LeagueOfficeModel_37 : mx_fl "LeagueOfficeModel" 37 (TX12 6) 1458 none := mx_fl_n (by decide +kernel)
theorem ml_f_LeagueOfficeModel_40 : mx_fl "LeagueOfficeModel" 40 (TX12 7) 1459 none := mx_fl_n (by decide +kernel)
theorem ml_f_LeagueOfficeModel_43 : mx_fl "LeagueOfficeModel" 43 (TX12 8) 1460 none := mx_fl_n (by decide +kernel)
theorem ml_f_LeagueOfficeModel_46 : mx_fl "LeagueOfficeModel" 46 (TX12 9) 1461 none := mx_fl_n (by decide +kernel)
theorem ml_f_LeagueOfficeModel_49 : mx_fl "LeagueOfficeModel" 49 (TX12 62) 1514 none := mx_fl_n (by decide +kernel)
theorem ml_m_LeagueOfficeModel_52 : mx_ml "LeagueOfficeModel" 52 (⟨"LeagueOfficeModel", "isGame", "(I)Z"⟩ : MethodName) 1348 none := mx_ml_n (by decide +kernel)
theorem ml_in_1350 : Cond.instanceMethod (⟨"LeagueOfficeModel", "isGame", "(I)Z"⟩ : MethodName) ∈ mx_GT := mx_gt 1350 (by decide +kernel) rfl
theorem ml_se_31 : Cond.selects "LeagueOfficeModel" (⟨"LeagueOfficeModel", "isGame", "(I)Z"⟩ : MethodName) (⟨"LeagueOfficeModel", "isGame", "(I)Z"⟩ : MethodName) ∈ mx_GT := mx_gt 31 (by decide +kernel) rfl
theorem ml_m_LeagueOfficeModel_55 : mx_ml "LeagueOfficeModel" 55 (⟨"LeagueOfficeModel", "counts", "(I)Z"⟩ : MethodName) 1352 none := mx_ml_n (by decide +kernel)
theorem ml_st_1353 : Cond.static (⟨"LeagueOfficeModel", "counts", "(I)Z"⟩ : MethodName) ∈ mx_GT := mx_gt 1353 (by decide +kernel) rfl
theorem ml_m_LeagueOfficeModel_58 : mx_ml "LeagueOfficeModel" 58 (⟨"LeagueOfficeModel", "serves", "(I)Z"⟩ : MethodName) 1355 none := mx_ml_n (by decide +kernel)
theorem ml_st_1356 : Cond.static (⟨"LeagueOfficeModel", "serves", "(I)Z"⟩ : MethodName) ∈ mx_GT := mx_gt 1356 (by decide +kernel) rfl
theorem ml_m_LeagueOfficeModel_61 : mx_ml "LeagueOfficeModel" 61 (⟨"LeagueOfficeModel", "gate", "(I)I"⟩ : MethodName) 1358 none := mx_ml_n (by decide +kernel)
theorem ml_st_1359 : Cond.static (⟨"LeagueOfficeModel", "gate", "(I)I"⟩ : MethodName) ∈ mx_GT := mx_gt 1359 (by decide +kernel) rfl
theorem ml_m_LeagueOfficeModel_65 : mx_ml "LeagueOfficeModel" 65 (⟨"LeagueOfficeModel", "homePart", "(I)I"⟩ : MethodName) 1361 none := mx_ml_n (by decide +kernel)
theorem ml_st_1362 : Cond.static (⟨"LeagueOfficeModel", "homePart", "(I)I"⟩ : MethodName) ∈ mx_GT := mx_gt 1362 (by decide +kernel) rfl
theorem ml_f_LeagueOfficeModel_68 : mx_fl "LeagueOfficeModel" 68 (TX12 10) 1462 none := mx_fl_n (by decide +kernel)
theorem ml_f_LeagueOfficeModel_71 : mx_fl "LeagueOfficeModel" 71 (TX12 11) 1463 none := mx_fl_n (by decide +kernel)
theorem ml_f_LeagueOfficeModel_74 : mx_fl "LeagueOfficeModel" 74 (TX12 12) 1464 none := mx_fl_n (by decide +kernel)
theorem ml_f_LeagueOfficeModel_77 : mx_fl "LeagueOfficeModel" 77 (TX12 13) 1465 none := mx_fl_n (by decide +kernel)
theorem ml_m_LeagueOfficeModel_80 : mx_ml "LeagueOfficeModel" 80 (⟨"LeagueOfficeModel", "knownIn", "(II)I"⟩ : MethodName) 1372 none := mx_ml_n (by decide +kernel)
theorem ml_in_1374 : Cond.instanceMethod (⟨"LeagueOfficeModel", "knownIn", "(II)I"⟩ : MethodName) ∈ mx_GT := mx_gt 1374 (by decide +kernel) rfl
theorem ml_se_32 : Cond.selects "LeagueOfficeModel" (⟨"LeagueOfficeModel", "knownIn", "(II)I"⟩ : MethodName) (⟨"LeagueOfficeModel", "knownIn", "(II)I"⟩ : MethodName) ∈ mx_GT := mx_gt 32 (by decide +kernel) rfl
theorem ml_f_LeagueOfficeModel_90 : mx_fl "LeagueOfficeModel" 90 (TX12 14) 1466 none := mx_fl_n (by decide +kernel)
theorem ml_f_LeagueOfficeModel_94 : mx_fl "LeagueOfficeModel" 94 (TX12 17) 1469 none := mx_fl_n (by decide +kernel)
theorem ml_f_LeagueOfficeModel_97 : mx_fl "LeagueOfficeModel" 97 (TX12 18) 1470 none := mx_fl_n (by decide +kernel)
theorem ml_f_LeagueOfficeModel_100 : mx_fl "LeagueOfficeModel" 100 (TX12 19) 1471 none := mx_fl_n (by decide +kernel)
theorem ml_f_LeagueOfficeModel_103 : mx_fl "LeagueOfficeModel" 103 (TX12 28) 1480 none := mx_fl_n (by decide +kernel)
theorem ml_f_LeagueOfficeModel_106 : mx_fl "LeagueOfficeModel" 106 (TX12 29) 1481 none := mx_fl_n (by decide +kernel)
theorem ml_f_LeagueOfficeModel_109 : mx_fl "LeagueOfficeModel" 109 (TX12 30) 1482 none := mx_fl_n (by decide +kernel)
theorem ml_f_LeagueOfficeModel_112 : mx_fl "LeagueOfficeModel" 112 (TX12 31) 1483 none := mx_fl_n (by decide +kernel)
theorem ml_f_LeagueOfficeModel_115 : mx_fl "LeagueOfficeModel" 115 (TX12 33) 1485 none := mx_fl_n (by decide +kernel)
theorem ml_f_LeagueOfficeModel_118 : mx_fl "LeagueOfficeModel" 118 (TX12 34) 1486 none := mx_fl_n (by decide +kernel)
theorem ml_f_LeagueOfficeModel_121 : mx_fl "LeagueOfficeModel" 121 (TX12 35) 1487 none := mx_fl_n (by decide +kernel)
theorem ml_f_LeagueOfficeModel_124 : mx_fl "LeagueOfficeModel" 124 (TX12 36) 1488 none := mx_fl_n (by decide +kernel)
theorem ml_f_LeagueOfficeModel_127 : mx_fl "LeagueOfficeModel" 127 (TX12 37) 1489 none := mx_fl_n (by decide +kernel)
theorem ml_f_LeagueOfficeModel_130 : mx_fl "LeagueOfficeModel" 130 (TX12 38) 1490 none := mx_fl_n (by decide +kernel)
theorem ml_f_LeagueOfficeModel_133 : mx_fl "LeagueOfficeModel" 133 (TX12 39) 1491 none := mx_fl_n (by decide +kernel)
theorem ml_f_LeagueOfficeModel_137 : mx_fl "LeagueOfficeModel" 137 (TX12 40) 1492 none := mx_fl_n (by decide +kernel)
theorem ml_f_LeagueOfficeModel_140 : mx_fl "LeagueOfficeModel" 140 (TX12 43) 1495 none := mx_fl_n (by decide +kernel)
theorem ml_f_LeagueOfficeModel_143 : mx_fl "LeagueOfficeModel" 143 (TX12 44) 1496 none := mx_fl_n (by decide +kernel)
theorem ml_f_LeagueOfficeModel_146 : mx_fl "LeagueOfficeModel" 146 (TX12 45) 1497 none := mx_fl_n (by decide +kernel)
theorem ml_f_LeagueOfficeModel_149 : mx_fl "LeagueOfficeModel" 149 (TX12 47) 1499 none := mx_fl_n (by decide +kernel)
theorem ml_f_LeagueOfficeModel_152 : mx_fl "LeagueOfficeModel" 152 (TX12 48) 1500 none := mx_fl_n (by decide +kernel)
theorem ml_f_LeagueOfficeModel_155 : mx_fl "LeagueOfficeModel" 155 (TX12 49) 1501 none := mx_fl_n (by decide +kernel)
theorem ml_f_LeagueOfficeModel_158 : mx_fl "LeagueOfficeModel" 158 (TX12 51) 1503 none := mx_fl_n (by decide +kernel)
theorem ml_f_LeagueOfficeModel_161 : mx_fl "LeagueOfficeModel" 161 (TX12 52) 1504 none := mx_fl_n (by decide +kernel)
theorem ml_f_LeagueOfficeModel_164 : mx_fl "LeagueOfficeModel" 164 (TX12 53) 1505 none := mx_fl_n (by decide +kernel)
theorem ml_f_LeagueOfficeModel_167 : mx_fl "LeagueOfficeModel" 167 (TX12 54) 1506 none := mx_fl_n (by decide +kernel)
theorem ml_f_LeagueOfficeModel_170 : mx_fl "LeagueOfficeModel" 170 (TX12 55) 1507 none := mx_fl_n (by decide +kernel)
theorem ml_f_LeagueOfficeModel_174 : mx_fl "LeagueOfficeModel" 174 (TX12 56) 1508 none := mx_fl_n (by decide +kernel)
theorem ml_f_LeagueOfficeModel_177 : mx_fl "LeagueOfficeModel" 177 (TX12 57) 1509 none := mx_fl_n (by decide +kernel)
theorem ml_f_LeagueOfficeModel_180 : mx_fl "LeagueOfficeModel" 180 (TX12 58) 1510 none := mx_fl_n (by decide +kernel)
theorem ml_f_LeagueOfficeModel_183 : mx_fl "LeagueOfficeModel" 183 (TX12 59) 1511 none := mx_fl_n (by decide +kernel)
theorem ml_f_LeagueOfficeModel_186 : mx_fl "LeagueOfficeModel" 186 (TX12 60) 1512 none := mx_fl_n (by decide +kernel)
theorem ml_f_LeagueOfficeModel_189 : mx_fl "LeagueOfficeModel" 189 (TX12 61) 1513 none := mx_fl_n (by decide +kernel)
theorem ml_f_LeagueOfficeModel_192 : mx_fl "LeagueOfficeModel" 192 (TX12 64) 1516 none := mx_fl_n (by decide +kernel)
theorem ml_f_LeagueOfficeModel_195 : mx_fl "LeagueOfficeModel" 195 (TX12 65) 1517 none := mx_fl_n (by decide +kernel)
theorem ml_f_LeagueOfficeModel_198 : mx_fl "LeagueOfficeModel" 198 (TX12 66) 1518 none := mx_fl_n (by decide +kernel)
theorem ml_f_LeagueOfficeModel_201 : mx_fl "LeagueOfficeModel" 201 (TX12 67) 1519 none := mx_fl_n (by decide +kernel)
theorem ml_f_LeagueOfficeModel_204 : mx_fl "LeagueOfficeModel" 204 (TX12 68) 1520 none := mx_fl_n (by decide +kernel)
theorem ml_f_LeagueOfficeModel_207 : mx_fl "LeagueOfficeModel" 207 (TX12 69) 1521 none := mx_fl_n (by decide +kernel)
theorem ml_f_LeagueOfficeModel_210 : mx_fl "LeagueOfficeModel" 210 (TX12 70) 1522 none := mx_fl_n (by decide +kernel)
theorem ml_f_LeagueOfficeModel_213 : mx_fl "LeagueOfficeModel" 213 (TX12 72) 1524 none := mx_fl_n (by decide +kernel)
theorem ml_f_LeagueOfficeModel_216 : mx_fl "LeagueOfficeModel" 216 (TX12 73) 1525 none := mx_fl_n (by decide +kernel)
theorem ml_f_LeagueOfficeModel_219 : mx_fl "LeagueOfficeModel" 219 (TX12 74) 1526 none := mx_fl_n (by decide +kernel)
theorem ml_f_LeagueOfficeModel_222 : mx_fl "LeagueOfficeModel" 222 (TX12 75) 1527 none := mx_fl_n (by decide +kernel)
theorem ml_f_LeagueOfficeModel_225 : mx_fl "LeagueOfficeModel" 225 (TX12 76) 1528 none := mx_fl_n (by decide +kernel)
theorem ml_f_LeagueOfficeModel_228 : mx_fl "LeagueOfficeModel" 228 (TX12 77) 1529 none := mx_fl_n (by decide +kernel)
theorem ml_f_LeagueOfficeModel_231 : mx_fl "LeagueOfficeModel" 231 ("LeagueOfficeModel", "FIRST", "[B", false) 1381 none := mx_fl_n (by decide +kernel)
theorem ml_f_LeagueOfficeModel_234 : mx_fl "LeagueOfficeModel" 234 (TX12 15) 1467 none := mx_fl_n (by decide +kernel)
theorem ml_m_LeagueOfficeModel_237 : mx_ml "LeagueOfficeModel" 237 (⟨"LeagueOfficeModel", "readText", "()I"⟩ : MethodName) 1383 none := mx_ml_n (by decide +kernel)
theorem ml_in_1385 : Cond.instanceMethod (⟨"LeagueOfficeModel", "readText", "()I"⟩ : MethodName) ∈ mx_GT := mx_gt 1385 (by decide +kernel) rfl
theorem ml_se_33 : Cond.selects "LeagueOfficeModel" (⟨"LeagueOfficeModel", "readText", "()I"⟩ : MethodName) (⟨"LeagueOfficeModel", "readText", "()I"⟩ : MethodName) ∈ mx_GT := mx_gt 33 (by decide +kernel) rfl
theorem ml_f_LeagueOfficeModel_241 : mx_fl "LeagueOfficeModel" 241 (TX12 21) 1473 none := mx_fl_n (by decide +kernel)
theorem ml_f_LeagueOfficeModel_244 : mx_fl "LeagueOfficeModel" 244 (TX12 20) 1472 none := mx_fl_n (by decide +kernel)
theorem ml_f_LeagueOfficeModel_247 : mx_fl "LeagueOfficeModel" 247 (TX12 22) 1474 none := mx_fl_n (by decide +kernel)
theorem ml_m_LeagueOfficeModel_250 : mx_ml "LeagueOfficeModel" 250 (⟨"LeagueOfficeModel", "isLetter", "(I)Z"⟩ : MethodName) 1391 none := mx_ml_n (by decide +kernel)
theorem ml_st_1392 : Cond.static (⟨"LeagueOfficeModel", "isLetter", "(I)Z"⟩ : MethodName) ∈ mx_GT := mx_gt 1392 (by decide +kernel) rfl
theorem ml_m_LeagueOfficeModel_253 : mx_ml "LeagueOfficeModel" 253 (⟨"LeagueOfficeModel", "isDigit", "(I)Z"⟩ : MethodName) 1394 none := mx_ml_n (by decide +kernel)
theorem ml_st_1395 : Cond.static (⟨"LeagueOfficeModel", "isDigit", "(I)Z"⟩ : MethodName) ∈ mx_GT := mx_gt 1395 (by decide +kernel) rfl
theorem ml_f_LeagueOfficeModel_256 : mx_fl "LeagueOfficeModel" 256 (TX12 23) 1475 none := mx_fl_n (by decide +kernel)
theorem ml_m_LeagueOfficeModel_259 : mx_ml "LeagueOfficeModel" 259 (⟨"LeagueOfficeModel", "isSign", "(I)Z"⟩ : MethodName) 1397 none := mx_ml_n (by decide +kernel)
theorem ml_st_1398 : Cond.static (⟨"LeagueOfficeModel", "isSign", "(I)Z"⟩ : MethodName) ∈ mx_GT := mx_gt 1398 (by decide +kernel) rfl
theorem ml_f_LeagueOfficeModel_266 : mx_fl "LeagueOfficeModel" 266 (TX12 24) 1476 none := mx_fl_n (by decide +kernel)
theorem ml_f_LeagueOfficeModel_269 : mx_fl "LeagueOfficeModel" 269 (TX12 16) 1468 none := mx_fl_n (by decide +kernel)
theorem ml_f_LeagueOfficeModel_272 : mx_fl "LeagueOfficeModel" 272 (TX12 26) 1478 none := mx_fl_n (by decide +kernel)
theorem ml_f_LeagueOfficeModel_275 : mx_fl "LeagueOfficeModel" 275 (TX12 25) 1477 none := mx_fl_n (by decide +kernel)
theorem ml_m_LeagueOfficeModel_278 : mx_ml "LeagueOfficeModel" 278 (⟨"LeagueOfficeModel", "faultHere", "()V"⟩ : MethodName) 1408 none := mx_ml_n (by decide +kernel)
theorem ml_in_1410 : Cond.instanceMethod (⟨"LeagueOfficeModel", "faultHere", "()V"⟩ : MethodName) ∈ mx_GT := mx_gt 1410 (by decide +kernel) rfl
theorem ml_se_36 : Cond.selects "LeagueOfficeModel" (⟨"LeagueOfficeModel", "faultHere", "()V"⟩ : MethodName) (⟨"LeagueOfficeModel", "faultHere", "()V"⟩ : MethodName) ∈ mx_GT := mx_gt 36 (by decide +kernel) rfl
theorem ml_m_LeagueOfficeModel_281 : mx_ml "LeagueOfficeModel" 281 (⟨"LeagueOfficeModel", "nextToken", "()V"⟩ : MethodName) 1387 none := mx_ml_n (by decide +kernel)
theorem ml_in_1389 : Cond.instanceMethod (⟨"LeagueOfficeModel", "nextToken", "()V"⟩ : MethodName) ∈ mx_GT := mx_gt 1389 (by decide +kernel) rfl
theorem ml_se_34 : Cond.selects "LeagueOfficeModel" (⟨"LeagueOfficeModel", "nextToken", "()V"⟩ : MethodName) (⟨"LeagueOfficeModel", "nextToken", "()V"⟩ : MethodName) ∈ mx_GT := mx_gt 34 (by decide +kernel) rfl
theorem ml_f_LeagueOfficeModel_284 : mx_fl "LeagueOfficeModel" 284 ("LeagueOfficeModel", "NAMES", "[J", false) 1449 none := mx_fl_n (by decide +kernel)
theorem ml_m_LeagueOfficeModel_287 : mx_ml "LeagueOfficeModel" 287 (⟨"LeagueOfficeModel", "isWord", "(J)Z"⟩ : MethodName) 1402 none := mx_ml_n (by decide +kernel)
theorem ml_in_1404 : Cond.instanceMethod (⟨"LeagueOfficeModel", "isWord", "(J)Z"⟩ : MethodName) ∈ mx_GT := mx_gt 1404 (by decide +kernel) rfl
theorem ml_se_35 : Cond.selects "LeagueOfficeModel" (⟨"LeagueOfficeModel", "isWord", "(J)Z"⟩ : MethodName) (⟨"LeagueOfficeModel", "isWord", "(J)Z"⟩ : MethodName) ∈ mx_GT := mx_gt 35 (by decide +kernel) rfl
theorem ml_m_LeagueOfficeModel_291 : mx_ml "LeagueOfficeModel" 291 (⟨"LeagueOfficeModel", "lay", "(II)V"⟩ : MethodName) 1429 none := mx_ml_n (by decide +kernel)
theorem ml_in_1431 : Cond.instanceMethod (⟨"LeagueOfficeModel", "lay", "(II)V"⟩ : MethodName) ∈ mx_GT := mx_gt 1431 (by decide +kernel) rfl
theorem ml_se_41 : Cond.selects "LeagueOfficeModel" (⟨"LeagueOfficeModel", "lay", "(II)V"⟩ : MethodName) (⟨"LeagueOfficeModel", "lay", "(II)V"⟩ : MethodName) ∈ mx_GT := mx_gt 41 (by decide +kernel) rfl
theorem ml_m_LeagueOfficeModel_295 : mx_ml "LeagueOfficeModel" 295 (⟨"LeagueOfficeModel", "opens", "()Z"⟩ : MethodName) 1425 none := mx_ml_n (by decide +kernel)
theorem ml_in_1427 : Cond.instanceMethod (⟨"LeagueOfficeModel", "opens", "()Z"⟩ : MethodName) ∈ mx_GT := mx_gt 1427 (by decide +kernel) rfl
theorem ml_se_40 : Cond.selects "LeagueOfficeModel" (⟨"LeagueOfficeModel", "opens", "()Z"⟩ : MethodName) (⟨"LeagueOfficeModel", "opens", "()Z"⟩ : MethodName) ∈ mx_GT := mx_gt 40 (by decide +kernel) rfl
theorem ml_m_LeagueOfficeModel_299 : mx_ml "LeagueOfficeModel" 299 (⟨"LeagueOfficeModel", "one", "()V"⟩ : MethodName) 1441 none := mx_ml_n (by decide +kernel)
theorem ml_in_1443 : Cond.instanceMethod (⟨"LeagueOfficeModel", "one", "()V"⟩ : MethodName) ∈ mx_GT := mx_gt 1443 (by decide +kernel) rfl
theorem ml_se_44 : Cond.selects "LeagueOfficeModel" (⟨"LeagueOfficeModel", "one", "()V"⟩ : MethodName) (⟨"LeagueOfficeModel", "one", "()V"⟩ : MethodName) ∈ mx_GT := mx_gt 44 (by decide +kernel) rfl
theorem ml_m_LeagueOfficeModel_302 : mx_ml "LeagueOfficeModel" 302 (⟨"LeagueOfficeModel", "either", "()V"⟩ : MethodName) 1412 none := mx_ml_n (by decide +kernel)
theorem ml_in_1414 : Cond.instanceMethod (⟨"LeagueOfficeModel", "either", "()V"⟩ : MethodName) ∈ mx_GT := mx_gt 1414 (by decide +kernel) rfl
theorem ml_se_37 : Cond.selects "LeagueOfficeModel" (⟨"LeagueOfficeModel", "either", "()V"⟩ : MethodName) (⟨"LeagueOfficeModel", "either", "()V"⟩ : MethodName) ∈ mx_GT := mx_gt 37 (by decide +kernel) rfl
theorem ml_m_LeagueOfficeModel_305 : mx_ml "LeagueOfficeModel" 305 (⟨"LeagueOfficeModel", "nameOf", "()I"⟩ : MethodName) 1445 none := mx_ml_n (by decide +kernel)
theorem ml_in_1447 : Cond.instanceMethod (⟨"LeagueOfficeModel", "nameOf", "()I"⟩ : MethodName) ∈ mx_GT := mx_gt 1447 (by decide +kernel) rfl
theorem ml_se_45 : Cond.selects "LeagueOfficeModel" (⟨"LeagueOfficeModel", "nameOf", "()I"⟩ : MethodName) (⟨"LeagueOfficeModel", "nameOf", "()I"⟩ : MethodName) ∈ mx_GT := mx_gt 45 (by decide +kernel) rfl
theorem ml_m_LeagueOfficeModel_308 : mx_ml "LeagueOfficeModel" 308 (⟨"LeagueOfficeModel", "term", "()V"⟩ : MethodName) 1437 none := mx_ml_n (by decide +kernel)
theorem ml_in_1439 : Cond.instanceMethod (⟨"LeagueOfficeModel", "term", "()V"⟩ : MethodName) ∈ mx_GT := mx_gt 1439 (by decide +kernel) rfl
theorem ml_se_43 : Cond.selects "LeagueOfficeModel" (⟨"LeagueOfficeModel", "term", "()V"⟩ : MethodName) (⟨"LeagueOfficeModel", "term", "()V"⟩ : MethodName) ∈ mx_GT := mx_gt 43 (by decide +kernel) rfl
theorem ml_m_LeagueOfficeModel_313 : mx_ml "LeagueOfficeModel" 313 (⟨"LeagueOfficeModel", "not", "()V"⟩ : MethodName) 1420 none := mx_ml_n (by decide +kernel)
theorem ml_in_1422 : Cond.instanceMethod (⟨"LeagueOfficeModel", "not", "()V"⟩ : MethodName) ∈ mx_GT := mx_gt 1422 (by decide +kernel) rfl
theorem ml_se_39 : Cond.selects "LeagueOfficeModel" (⟨"LeagueOfficeModel", "not", "()V"⟩ : MethodName) (⟨"LeagueOfficeModel", "not", "()V"⟩ : MethodName) ∈ mx_GT := mx_gt 39 (by decide +kernel) rfl
theorem ml_m_LeagueOfficeModel_316 : mx_ml "LeagueOfficeModel" 316 (⟨"LeagueOfficeModel", "sum", "()V"⟩ : MethodName) 1433 none := mx_ml_n (by decide +kernel)
theorem ml_in_1435 : Cond.instanceMethod (⟨"LeagueOfficeModel", "sum", "()V"⟩ : MethodName) ∈ mx_GT := mx_gt 1435 (by decide +kernel) rfl
theorem ml_se_42 : Cond.selects "LeagueOfficeModel" (⟨"LeagueOfficeModel", "sum", "()V"⟩ : MethodName) (⟨"LeagueOfficeModel", "sum", "()V"⟩ : MethodName) ∈ mx_GT := mx_gt 42 (by decide +kernel) rfl
theorem ml_m_LeagueOfficeModel_321 : mx_ml "LeagueOfficeModel" 321 (⟨"LeagueOfficeModel", "and", "()V"⟩ : MethodName) 1416 none := mx_ml_n (by decide +kernel)
theorem ml_in_1418 : Cond.instanceMethod (⟨"LeagueOfficeModel", "and", "()V"⟩ : MethodName) ∈ mx_GT := mx_gt 1418 (by decide +kernel) rfl
theorem ml_se_38 : Cond.selects "LeagueOfficeModel" (⟨"LeagueOfficeModel", "and", "()V"⟩ : MethodName) (⟨"LeagueOfficeModel", "and", "()V"⟩ : MethodName) ∈ mx_GT := mx_gt 38 (by decide +kernel) rfl
theorem ml_f_LeagueOfficeModel_326 : mx_fl "LeagueOfficeModel" 326 ("LeagueOfficeModel", "PARTS", "[J", false) 1400 none := mx_fl_n (by decide +kernel)
theorem ml_f_LeagueOfficeModel_329 : mx_fl "LeagueOfficeModel" 329 (TX12 27) 1479 none := mx_fl_n (by decide +kernel)
theorem ml_m_LeagueOfficeModel_332 : mx_ml "LeagueOfficeModel" 332 (⟨"LeagueOfficeModel", "textOn", "(I)I"⟩ : MethodName) 1704 none := mx_ml_n (by decide +kernel)
theorem ml_in_1706 : Cond.instanceMethod (⟨"LeagueOfficeModel", "textOn", "(I)I"⟩ : MethodName) ∈ mx_GT := mx_gt 1706 (by decide +kernel) rfl
theorem ml_se_46 : Cond.selects "LeagueOfficeModel" (⟨"LeagueOfficeModel", "textOn", "(I)I"⟩ : MethodName) (⟨"LeagueOfficeModel", "textOn", "(I)I"⟩ : MethodName) ∈ mx_GT := mx_gt 46 (by decide +kernel) rfl
theorem ml_m_LeagueOfficeModel_335 : mx_ml "LeagueOfficeModel" 335 (⟨"LeagueOfficeModel", "both", "(III)I"⟩ : MethodName) 1743 none := mx_ml_n (by decide +kernel)
theorem ml_st_1744 : Cond.static (⟨"LeagueOfficeModel", "both", "(III)I"⟩ : MethodName) ∈ mx_GT := mx_gt 1744 (by decide +kernel) rfl
theorem ml_f_LeagueOfficeModel_339 : mx_fl "LeagueOfficeModel" 339 (TX12 32) 1484 none := mx_fl_n (by decide +kernel)
theorem ml_m_LeagueOfficeModel_342 : mx_ml "LeagueOfficeModel" 342 (⟨"LeagueOfficeModel", "made", "(IZ)I"⟩ : MethodName) 1732 none := mx_ml_n (by decide +kernel)
theorem ml_st_1733 : Cond.static (⟨"LeagueOfficeModel", "made", "(IZ)I"⟩ : MethodName) ∈ mx_GT := mx_gt 1733 (by decide +kernel) rfl
theorem ml_m_LeagueOfficeModel_346 : mx_ml "LeagueOfficeModel" 346 (⟨"LeagueOfficeModel", "setFacts", "(IIIIII)V"⟩ : MethodName) 1735 none := mx_ml_n (by decide +kernel)
theorem ml_in_1737 : Cond.instanceMethod (⟨"LeagueOfficeModel", "setFacts", "(IIIIII)V"⟩ : MethodName) ∈ mx_GT := mx_gt 1737 (by decide +kernel) rfl
theorem ml_se_51 : Cond.selects "LeagueOfficeModel" (⟨"LeagueOfficeModel", "setFacts", "(IIIIII)V"⟩ : MethodName) (⟨"LeagueOfficeModel", "setFacts", "(IIIIII)V"⟩ : MethodName) ∈ mx_GT := mx_gt 51 (by decide +kernel) rfl
theorem ml_m_LeagueOfficeModel_350 : mx_ml "LeagueOfficeModel" 350 (⟨"LeagueOfficeModel", "says", "(II)I"⟩ : MethodName) 1739 none := mx_ml_n (by decide +kernel)
theorem ml_in_1741 : Cond.instanceMethod (⟨"LeagueOfficeModel", "says", "(II)I"⟩ : MethodName) ∈ mx_GT := mx_gt 1741 (by decide +kernel) rfl
theorem ml_se_52 : Cond.selects "LeagueOfficeModel" (⟨"LeagueOfficeModel", "says", "(II)I"⟩ : MethodName) (⟨"LeagueOfficeModel", "says", "(II)I"⟩ : MethodName) ∈ mx_GT := mx_gt 52 (by decide +kernel) rfl
theorem ml_m_LeagueOfficeModel_353 : mx_ml "LeagueOfficeModel" 353 (⟨"LeagueOfficeModel", "isIn", "(II)Z"⟩ : MethodName) 1720 none := mx_ml_n (by decide +kernel)
theorem ml_in_1722 : Cond.instanceMethod (⟨"LeagueOfficeModel", "isIn", "(II)Z"⟩ : MethodName) ∈ mx_GT := mx_gt 1722 (by decide +kernel) rfl
theorem ml_se_48 : Cond.selects "LeagueOfficeModel" (⟨"LeagueOfficeModel", "isIn", "(II)Z"⟩ : MethodName) (⟨"LeagueOfficeModel", "isIn", "(II)Z"⟩ : MethodName) ∈ mx_GT := mx_gt 48 (by decide +kernel) rfl
theorem ml_m_LeagueOfficeModel_357 : mx_ml "LeagueOfficeModel" 357 (⟨"LeagueOfficeModel", "endOf", "(II)I"⟩ : MethodName) 1724 none := mx_ml_n (by decide +kernel)
theorem ml_in_1726 : Cond.instanceMethod (⟨"LeagueOfficeModel", "endOf", "(II)I"⟩ : MethodName) ∈ mx_GT := mx_gt 1726 (by decide +kernel) rfl
theorem ml_se_49 : Cond.selects "LeagueOfficeModel" (⟨"LeagueOfficeModel", "endOf", "(II)I"⟩ : MethodName) (⟨"LeagueOfficeModel", "endOf", "(II)I"⟩ : MethodName) ∈ mx_GT := mx_gt 49 (by decide +kernel) rfl
theorem ml_m_LeagueOfficeModel_360 : mx_ml "LeagueOfficeModel" 360 (⟨"LeagueOfficeModel", "pointsIn", "(III)I"⟩ : MethodName) 1728 none := mx_ml_n (by decide +kernel)
theorem ml_in_1730 : Cond.instanceMethod (⟨"LeagueOfficeModel", "pointsIn", "(III)I"⟩ : MethodName) ∈ mx_GT := mx_gt 1730 (by decide +kernel) rfl
theorem ml_se_50 : Cond.selects "LeagueOfficeModel" (⟨"LeagueOfficeModel", "pointsIn", "(III)I"⟩ : MethodName) (⟨"LeagueOfficeModel", "pointsIn", "(III)I"⟩ : MethodName) ∈ mx_GT := mx_gt 50 (by decide +kernel) rfl
theorem ml_m_LeagueOfficeModel_363 : mx_ml "LeagueOfficeModel" 363 (⟨"LeagueOfficeModel", "tally", "(III)V"⟩ : MethodName) 1755 none := mx_ml_n (by decide +kernel)
theorem ml_in_1757 : Cond.instanceMethod (⟨"LeagueOfficeModel", "tally", "(III)V"⟩ : MethodName) ∈ mx_GT := mx_gt 1757 (by decide +kernel) rfl
theorem ml_se_54 : Cond.selects "LeagueOfficeModel" (⟨"LeagueOfficeModel", "tally", "(III)V"⟩ : MethodName) (⟨"LeagueOfficeModel", "tally", "(III)V"⟩ : MethodName) ∈ mx_GT := mx_gt 54 (by decide +kernel) rfl
theorem ml_m_LeagueOfficeModel_367 : mx_ml "LeagueOfficeModel" 367 (⟨"LeagueOfficeModel", "likeBy", "(II)J"⟩ : MethodName) 1759 none := mx_ml_n (by decide +kernel)
theorem ml_in_1761 : Cond.instanceMethod (⟨"LeagueOfficeModel", "likeBy", "(II)J"⟩ : MethodName) ∈ mx_GT := mx_gt 1761 (by decide +kernel) rfl
theorem ml_se_55 : Cond.selects "LeagueOfficeModel" (⟨"LeagueOfficeModel", "likeBy", "(II)J"⟩ : MethodName) (⟨"LeagueOfficeModel", "likeBy", "(II)J"⟩ : MethodName) ∈ mx_GT := mx_gt 55 (by decide +kernel) rfl
theorem ml_m_LeagueOfficeModel_371 : mx_ml "LeagueOfficeModel" 371 (⟨"LeagueOfficeModel", "pointsOf", "(II)J"⟩ : MethodName) 1716 none := mx_ml_n (by decide +kernel)
theorem ml_in_1718 : Cond.instanceMethod (⟨"LeagueOfficeModel", "pointsOf", "(II)J"⟩ : MethodName) ∈ mx_GT := mx_gt 1718 (by decide +kernel) rfl
theorem ml_se_47 : Cond.selects "LeagueOfficeModel" (⟨"LeagueOfficeModel", "pointsOf", "(II)J"⟩ : MethodName) (⟨"LeagueOfficeModel", "pointsOf", "(II)J"⟩ : MethodName) ∈ mx_GT := mx_gt 47 (by decide +kernel) rfl
theorem ml_m_LeagueOfficeModel_376 : mx_ml "LeagueOfficeModel" 376 (⟨"LeagueOfficeModel", "likeOf", "(II)J"⟩ : MethodName) 1751 none := mx_ml_n (by decide +kernel)
theorem ml_in_1753 : Cond.instanceMethod (⟨"LeagueOfficeModel", "likeOf", "(II)J"⟩ : MethodName) ∈ mx_GT := mx_gt 1753 (by decide +kernel) rfl
theorem ml_se_53 : Cond.selects "LeagueOfficeModel" (⟨"LeagueOfficeModel", "likeOf", "(II)J"⟩ : MethodName) (⟨"LeagueOfficeModel", "likeOf", "(II)J"⟩ : MethodName) ∈ mx_GT := mx_gt 53 (by decide +kernel) rfl
theorem ml_m_LeagueOfficeModel_379 : mx_ml "LeagueOfficeModel" 379 (⟨"LeagueOfficeModel", "isAhead", "(II)Z"⟩ : MethodName) 1775 none := mx_ml_n (by decide +kernel)
theorem ml_in_1777 : Cond.instanceMethod (⟨"LeagueOfficeModel", "isAhead", "(II)Z"⟩ : MethodName) ∈ mx_GT := mx_gt 1777 (by decide +kernel) rfl
theorem ml_se_58 : Cond.selects "LeagueOfficeModel" (⟨"LeagueOfficeModel", "isAhead", "(II)Z"⟩ : MethodName) (⟨"LeagueOfficeModel", "isAhead", "(II)Z"⟩ : MethodName) ∈ mx_GT := mx_gt 58 (by decide +kernel) rfl
theorem ml_m_LeagueOfficeModel_382 : mx_ml "LeagueOfficeModel" 382 (⟨"LeagueOfficeModel", "findAll", "(II)V"⟩ : MethodName) 1767 none := mx_ml_n (by decide +kernel)
theorem ml_in_1769 : Cond.instanceMethod (⟨"LeagueOfficeModel", "findAll", "(II)V"⟩ : MethodName) ∈ mx_GT := mx_gt 1769 (by decide +kernel) rfl
theorem ml_se_56 : Cond.selects "LeagueOfficeModel" (⟨"LeagueOfficeModel", "findAll", "(II)V"⟩ : MethodName) (⟨"LeagueOfficeModel", "findAll", "(II)V"⟩ : MethodName) ∈ mx_GT := mx_gt 56 (by decide +kernel) rfl
theorem ml_m_LeagueOfficeModel_385 : mx_ml "LeagueOfficeModel" 385 (⟨"LeagueOfficeModel", "placeNow", "(I)I"⟩ : MethodName) 1771 none := mx_ml_n (by decide +kernel)
theorem ml_in_1773 : Cond.instanceMethod (⟨"LeagueOfficeModel", "placeNow", "(I)I"⟩ : MethodName) ∈ mx_GT := mx_gt 1773 (by decide +kernel) rfl
theorem ml_se_57 : Cond.selects "LeagueOfficeModel" (⟨"LeagueOfficeModel", "placeNow", "(I)I"⟩ : MethodName) (⟨"LeagueOfficeModel", "placeNow", "(I)I"⟩ : MethodName) ∈ mx_GT := mx_gt 57 (by decide +kernel) rfl
theorem ml_f_LeagueOfficeModel_388 : mx_fl "LeagueOfficeModel" 388 (TX12 41) 1493 none := mx_fl_n (by decide +kernel)
theorem ml_m_LeagueOfficeModel_391 : mx_ml "LeagueOfficeModel" 391 (⟨"LeagueOfficeModel", "isPlayer", "(I)Z"⟩ : MethodName) 1791 none := mx_ml_n (by decide +kernel)
theorem ml_in_1793 : Cond.instanceMethod (⟨"LeagueOfficeModel", "isPlayer", "(I)Z"⟩ : MethodName) ∈ mx_GT := mx_gt 1793 (by decide +kernel) rfl
theorem ml_se_59 : Cond.selects "LeagueOfficeModel" (⟨"LeagueOfficeModel", "isPlayer", "(I)Z"⟩ : MethodName) (⟨"LeagueOfficeModel", "isPlayer", "(I)Z"⟩ : MethodName) ∈ mx_GT := mx_gt 59 (by decide +kernel) rfl
theorem ml_f_LeagueOfficeModel_394 : mx_fl "LeagueOfficeModel" 394 (TX12 42) 1494 none := mx_fl_n (by decide +kernel)
theorem ml_m_LeagueOfficeModel_397 : mx_ml "LeagueOfficeModel" 397 (⟨"LeagueOfficeModel", "clubFor", "(II)I"⟩ : MethodName) 1799 none := mx_ml_n (by decide +kernel)
theorem ml_in_1801 : Cond.instanceMethod (⟨"LeagueOfficeModel", "clubFor", "(II)I"⟩ : MethodName) ∈ mx_GT := mx_gt 1801 (by decide +kernel) rfl
theorem ml_se_60 : Cond.selects "LeagueOfficeModel" (⟨"LeagueOfficeModel", "clubFor", "(II)I"⟩ : MethodName) (⟨"LeagueOfficeModel", "clubFor", "(II)I"⟩ : MethodName) ∈ mx_GT := mx_gt 60 (by decide +kernel) rfl
theorem ml_f_LeagueOfficeModel_400 : mx_fl "LeagueOfficeModel" 400 (TX12 46) 1498 none := mx_fl_n (by decide +kernel)
theorem ml_m_LeagueOfficeModel_403 : mx_ml "LeagueOfficeModel" 403 (⟨"LeagueOfficeModel", "bansOf", "(I)I"⟩ : MethodName) 1811 none := mx_ml_n (by decide +kernel)
theorem ml_in_1813 : Cond.instanceMethod (⟨"LeagueOfficeModel", "bansOf", "(I)I"⟩ : MethodName) ∈ mx_GT := mx_gt 1813 (by decide +kernel) rfl
theorem ml_se_61 : Cond.selects "LeagueOfficeModel" (⟨"LeagueOfficeModel", "bansOf", "(I)I"⟩ : MethodName) (⟨"LeagueOfficeModel", "bansOf", "(I)I"⟩ : MethodName) ∈ mx_GT := mx_gt 61 (by decide +kernel) rfl
theorem ml_m_LeagueOfficeModel_406 : mx_ml "LeagueOfficeModel" 406 (⟨"LeagueOfficeModel", "isBehind", "(II)Z"⟩ : MethodName) 1823 none := mx_ml_n (by decide +kernel)
theorem ml_in_1825 : Cond.instanceMethod (⟨"LeagueOfficeModel", "isBehind", "(II)Z"⟩ : MethodName) ∈ mx_GT := mx_gt 1825 (by decide +kernel) rfl
theorem ml_se_63 : Cond.selects "LeagueOfficeModel" (⟨"LeagueOfficeModel", "isBehind", "(II)Z"⟩ : MethodName) (⟨"LeagueOfficeModel", "isBehind", "(II)Z"⟩ : MethodName) ∈ mx_GT := mx_gt 63 (by decide +kernel) rfl
theorem ml_m_LeagueOfficeModel_409 : mx_ml "LeagueOfficeModel" 409 (⟨"LeagueOfficeModel", "findBanned", "(I)V"⟩ : MethodName) 1819 none := mx_ml_n (by decide +kernel)
theorem ml_in_1821 : Cond.instanceMethod (⟨"LeagueOfficeModel", "findBanned", "(I)V"⟩ : MethodName) ∈ mx_GT := mx_gt 1821 (by decide +kernel) rfl
theorem ml_se_62 : Cond.selects "LeagueOfficeModel" (⟨"LeagueOfficeModel", "findBanned", "(I)V"⟩ : MethodName) (⟨"LeagueOfficeModel", "findBanned", "(I)V"⟩ : MethodName) ∈ mx_GT := mx_gt 62 (by decide +kernel) rfl
theorem ml_m_LeagueOfficeModel_413 : mx_ml "LeagueOfficeModel" 413 (⟨"LeagueOfficeModel", "mayPlay", "(II)Z"⟩ : MethodName) 1831 none := mx_ml_n (by decide +kernel)
theorem ml_in_1833 : Cond.instanceMethod (⟨"LeagueOfficeModel", "mayPlay", "(II)Z"⟩ : MethodName) ∈ mx_GT := mx_gt 1833 (by decide +kernel) rfl
theorem ml_se_64 : Cond.selects "LeagueOfficeModel" (⟨"LeagueOfficeModel", "mayPlay", "(II)Z"⟩ : MethodName) (⟨"LeagueOfficeModel", "mayPlay", "(II)Z"⟩ : MethodName) ∈ mx_GT := mx_gt 64 (by decide +kernel) rfl
theorem ml_f_LeagueOfficeModel_416 : mx_fl "LeagueOfficeModel" 416 (TX12 50) 1502 none := mx_fl_n (by decide +kernel)
theorem ml_m_LeagueOfficeModel_419 : mx_ml "LeagueOfficeModel" 419 (⟨"LeagueOfficeModel", "isWrong", "(I)Z"⟩ : MethodName) 1843 none := mx_ml_n (by decide +kernel)
theorem ml_in_1845 : Cond.instanceMethod (⟨"LeagueOfficeModel", "isWrong", "(I)Z"⟩ : MethodName) ∈ mx_GT := mx_gt 1845 (by decide +kernel) rfl
theorem ml_se_65 : Cond.selects "LeagueOfficeModel" (⟨"LeagueOfficeModel", "isWrong", "(I)Z"⟩ : MethodName) (⟨"LeagueOfficeModel", "isWrong", "(I)Z"⟩ : MethodName) ∈ mx_GT := mx_gt 65 (by decide +kernel) rfl
theorem ml_m_LeagueOfficeModel_422 : mx_ml "LeagueOfficeModel" 422 (⟨"LeagueOfficeModel", "change", "(IIIII)V"⟩ : MethodName) 1851 none := mx_ml_n (by decide +kernel)
theorem ml_in_1853 : Cond.instanceMethod (⟨"LeagueOfficeModel", "change", "(IIIII)V"⟩ : MethodName) ∈ mx_GT := mx_gt 1853 (by decide +kernel) rfl
theorem ml_se_66 : Cond.selects "LeagueOfficeModel" (⟨"LeagueOfficeModel", "change", "(IIIII)V"⟩ : MethodName) (⟨"LeagueOfficeModel", "change", "(IIIII)V"⟩ : MethodName) ∈ mx_GT := mx_gt 66 (by decide +kernel) rfl
theorem ml_f_LeagueOfficeModel_426 : mx_fl "LeagueOfficeModel" 426 (TX12 63) 1515 none := mx_fl_n (by decide +kernel)
theorem ml_m_LeagueOfficeModel_429 : mx_ml "LeagueOfficeModel" 429 (⟨"LeagueOfficeModel", "findStill", "(I)V"⟩ : MethodName) 1863 none := mx_ml_n (by decide +kernel)
theorem ml_in_1865 : Cond.instanceMethod (⟨"LeagueOfficeModel", "findStill", "(I)V"⟩ : MethodName) ∈ mx_GT := mx_gt 1865 (by decide +kernel) rfl
theorem ml_se_67 : Cond.selects "LeagueOfficeModel" (⟨"LeagueOfficeModel", "findStill", "(I)V"⟩ : MethodName) (⟨"LeagueOfficeModel", "findStill", "(I)V"⟩ : MethodName) ∈ mx_GT := mx_gt 67 (by decide +kernel) rfl
theorem ml_m_LeagueOfficeModel_432 : mx_ml "LeagueOfficeModel" 432 (⟨"LeagueOfficeModel", "endBy", "(I)I"⟩ : MethodName) 1890 none := mx_ml_n (by decide +kernel)
theorem ml_st_1891 : Cond.static (⟨"LeagueOfficeModel", "endBy", "(I)I"⟩ : MethodName) ∈ mx_GT := mx_gt 1891 (by decide +kernel) rfl
theorem ml_m_LeagueOfficeModel_435 : mx_ml "LeagueOfficeModel" 435 (⟨"LeagueOfficeModel", "findBase", "(I)V"⟩ : MethodName) 1879 none := mx_ml_n (by decide +kernel)
theorem ml_in_1881 : Cond.instanceMethod (⟨"LeagueOfficeModel", "findBase", "(I)V"⟩ : MethodName) ∈ mx_GT := mx_gt 1881 (by decide +kernel) rfl
theorem ml_se_70 : Cond.selects "LeagueOfficeModel" (⟨"LeagueOfficeModel", "findBase", "(I)V"⟩ : MethodName) (⟨"LeagueOfficeModel", "findBase", "(I)V"⟩ : MethodName) ∈ mx_GT := mx_gt 70 (by decide +kernel) rfl
theorem ml_m_LeagueOfficeModel_438 : mx_ml "LeagueOfficeModel" 438 (⟨"LeagueOfficeModel", "power3", "(I)I"⟩ : MethodName) 1883 none := mx_ml_n (by decide +kernel)
theorem ml_st_1884 : Cond.static (⟨"LeagueOfficeModel", "power3", "(I)I"⟩ : MethodName) ∈ mx_GT := mx_gt 1884 (by decide +kernel) rfl
theorem ml_m_LeagueOfficeModel_441 : mx_ml "LeagueOfficeModel" 441 (⟨"LeagueOfficeModel", "addEnds", "(III)V"⟩ : MethodName) 1886 none := mx_ml_n (by decide +kernel)
theorem ml_in_1888 : Cond.instanceMethod (⟨"LeagueOfficeModel", "addEnds", "(III)V"⟩ : MethodName) ∈ mx_GT := mx_gt 1888 (by decide +kernel) rfl
theorem ml_se_71 : Cond.selects "LeagueOfficeModel" (⟨"LeagueOfficeModel", "addEnds", "(III)V"⟩ : MethodName) (⟨"LeagueOfficeModel", "addEnds", "(III)V"⟩ : MethodName) ∈ mx_GT := mx_gt 71 (by decide +kernel) rfl
theorem ml_m_LeagueOfficeModel_444 : mx_ml "LeagueOfficeModel" 444 (⟨"LeagueOfficeModel", "goThrough", "(I)I"⟩ : MethodName) 1875 none := mx_ml_n (by decide +kernel)
theorem ml_in_1877 : Cond.instanceMethod (⟨"LeagueOfficeModel", "goThrough", "(I)I"⟩ : MethodName) ∈ mx_GT := mx_gt 1877 (by decide +kernel) rfl
theorem ml_se_69 : Cond.selects "LeagueOfficeModel" (⟨"LeagueOfficeModel", "goThrough", "(I)I"⟩ : MethodName) (⟨"LeagueOfficeModel", "goThrough", "(I)I"⟩ : MethodName) ∈ mx_GT := mx_gt 69 (by decide +kernel) rfl
theorem ml_m_LeagueOfficeModel_447 : mx_ml "LeagueOfficeModel" 447 (⟨"LeagueOfficeModel", "canHave", "(IZ)I"⟩ : MethodName) 1871 none := mx_ml_n (by decide +kernel)
theorem ml_in_1873 : Cond.instanceMethod (⟨"LeagueOfficeModel", "canHave", "(IZ)I"⟩ : MethodName) ∈ mx_GT := mx_gt 1873 (by decide +kernel) rfl
theorem ml_se_68 : Cond.selects "LeagueOfficeModel" (⟨"LeagueOfficeModel", "canHave", "(IZ)I"⟩ : MethodName) (⟨"LeagueOfficeModel", "canHave", "(IZ)I"⟩ : MethodName) ∈ mx_GT := mx_gt 68 (by decide +kernel) rfl
theorem ml_m_LeagueOfficeModel_451 : mx_ml "LeagueOfficeModel" 451 (⟨"LeagueOfficeModel", "gatePart", "(I)I"⟩ : MethodName) 1906 none := mx_ml_n (by decide +kernel)
theorem ml_in_1908 : Cond.instanceMethod (⟨"LeagueOfficeModel", "gatePart", "(I)I"⟩ : MethodName) ∈ mx_GT := mx_gt 1908 (by decide +kernel) rfl
theorem ml_se_72 : Cond.selects "LeagueOfficeModel" (⟨"LeagueOfficeModel", "gatePart", "(I)I"⟩ : MethodName) (⟨"LeagueOfficeModel", "gatePart", "(I)I"⟩ : MethodName) ∈ mx_GT := mx_gt 72 (by decide +kernel) rfl
theorem ml_f_LeagueOfficeModel_456 : mx_fl "LeagueOfficeModel" 456 (TX12 71) 1523 none := mx_fl_n (by decide +kernel)
theorem ml_m_LeagueOfficeModel_459 : mx_ml "LeagueOfficeModel" 459 (⟨"LeagueOfficeModel", "hasMeeting", "(I)Z"⟩ : MethodName) 1915 none := mx_ml_n (by decide +kernel)
theorem ml_in_1917 : Cond.instanceMethod (⟨"LeagueOfficeModel", "hasMeeting", "(I)Z"⟩ : MethodName) ∈ mx_GT := mx_gt 1917 (by decide +kernel) rfl
theorem ml_se_73 : Cond.selects "LeagueOfficeModel" (⟨"LeagueOfficeModel", "hasMeeting", "(I)Z"⟩ : MethodName) (⟨"LeagueOfficeModel", "hasMeeting", "(I)Z"⟩ : MethodName) ∈ mx_GT := mx_gt 73 (by decide +kernel) rfl
theorem ml_m_LeagueOfficeModel_462 : mx_ml "LeagueOfficeModel" 462 (⟨"LeagueOfficeModel", "was", "(II)I"⟩ : MethodName) 1927 none := mx_ml_n (by decide +kernel)
theorem ml_in_1929 : Cond.instanceMethod (⟨"LeagueOfficeModel", "was", "(II)I"⟩ : MethodName) ∈ mx_GT := mx_gt 1929 (by decide +kernel) rfl
theorem ml_se_75 : Cond.selects "LeagueOfficeModel" (⟨"LeagueOfficeModel", "was", "(II)I"⟩ : MethodName) (⟨"LeagueOfficeModel", "was", "(II)I"⟩ : MethodName) ∈ mx_GT := mx_gt 75 (by decide +kernel) rfl
theorem ml_m_LeagueOfficeModel_465 : mx_ml "LeagueOfficeModel" 465 (⟨"LeagueOfficeModel", "breaksBy", "(II)I"⟩ : MethodName) 1923 none := mx_ml_n (by decide +kernel)
theorem ml_in_1925 : Cond.instanceMethod (⟨"LeagueOfficeModel", "breaksBy", "(II)I"⟩ : MethodName) ∈ mx_GT := mx_gt 1925 (by decide +kernel) rfl
theorem ml_se_74 : Cond.selects "LeagueOfficeModel" (⟨"LeagueOfficeModel", "breaksBy", "(II)I"⟩ : MethodName) (⟨"LeagueOfficeModel", "breaksBy", "(II)I"⟩ : MethodName) ∈ mx_GT := mx_gt 74 (by decide +kernel) rfl
theorem ml_m_LeagueOfficeModel_468 : mx_ml "LeagueOfficeModel" 468 (⟨"LeagueOfficeModel", "isSheet", "(I)Z"⟩ : MethodName) 1939 none := mx_ml_n (by decide +kernel)
theorem ml_st_1940 : Cond.static (⟨"LeagueOfficeModel", "isSheet", "(I)Z"⟩ : MethodName) ∈ mx_GT := mx_gt 1940 (by decide +kernel) rfl
theorem ml_m_LeagueOfficeModel_471 : mx_ml "LeagueOfficeModel" 471 (⟨"LeagueOfficeModel", "result", "(III)I"⟩ : MethodName) 1954 none := mx_ml_n (by decide +kernel)
theorem ml_in_1365 : Cond.instanceMethod (⟨"LeagueOfficeModel", "result", "(III)I"⟩ : MethodName) ∈ mx_GT := mx_gt 1365 (by decide +kernel) rfl
theorem ml_se_1366 : Cond.selects "LeagueOfficeModel" (⟨"LeagueOfficeModel", "result", "(III)I"⟩ : MethodName) (⟨"LeagueOfficeModel", "result", "(III)I"⟩ : MethodName) ∈ mx_GT := mx_gt 1366 (by decide +kernel) rfl
theorem ml_m_LeagueOfficeModel_474 : mx_ml "LeagueOfficeModel" 474 (⟨"LeagueOfficeModel", "isUnder", "(II)Z"⟩ : MethodName) 1959 none := mx_ml_n (by decide +kernel)
theorem ml_st_1960 : Cond.static (⟨"LeagueOfficeModel", "isUnder", "(II)Z"⟩ : MethodName) ∈ mx_GT := mx_gt 1960 (by decide +kernel) rfl
theorem ml_m_java_lang_String_335 : mx_ml "java/lang/String" 335 (⟨"java/lang/String", "coder", "()B"⟩ : MethodName) 522 none := mx_ml_n (by decide +kernel)
theorem ml_in_523 : Cond.instanceMethod (⟨"java/lang/String", "coder", "()B"⟩ : MethodName) ∈ mx_GT := mx_gt 523 (by decide +kernel) rfl
theorem ml_se_524 : Cond.selects "java/lang/String" (⟨"java/lang/String", "coder", "()B"⟩ : MethodName) (⟨"java/lang/String", "coder", "()B"⟩ : MethodName) ∈ mx_GT := mx_gt 524 (by decide +kernel) rfl
theorem ml_m_java_lang_String_492 : mx_ml "java/lang/String" 492 (⟨"java/lang/String", "isLatin1", "()Z"⟩ : MethodName) 532 none := mx_ml_n (by decide +kernel)
theorem ml_in_533 : Cond.instanceMethod (⟨"java/lang/String", "isLatin1", "()Z"⟩ : MethodName) ∈ mx_GT := mx_gt 533 (by decide +kernel) rfl
theorem ml_se_534 : Cond.selects "java/lang/String" (⟨"java/lang/String", "isLatin1", "()Z"⟩ : MethodName) (⟨"java/lang/String", "isLatin1", "()Z"⟩ : MethodName) ∈ mx_GT := mx_gt 534 (by decide +kernel) rfl
theorem ml_m_java_lang_String_495 : mx_ml "java/lang/String" 495 (⟨"java/lang/StringLatin1", "charAt", "([BI)C"⟩ : MethodName) 536 none := mx_ml_n (by decide +kernel)
theorem ml_st_537 : Cond.static (⟨"java/lang/StringLatin1", "charAt", "([BI)C"⟩ : MethodName) ∈ mx_GT := mx_gt 537 (by decide +kernel) rfl
theorem ml_f_java_lang_String_38 : mx_fl "java/lang/String" 38 ("java/lang/String", "COMPACT_STRINGS", "Z", false) 526 none := mx_fl_n (by decide +kernel)
theorem ml_f_java_lang_String_1053 : mx_fl "java/lang/String" 1053 ("jdk/internal/util/Preconditions", "SIOOBE_FORMATTER", "Ljava/util/function/BiFunction;", false) 542 none := mx_fl_n (by decide +kernel)
theorem ml_m_java_lang_String_1059 : mx_ml "java/lang/String" 1059 (⟨"jdk/internal/util/Preconditions", "checkIndex", "(IILjava/util/function/BiFunction;)I"⟩ : MethodName) 544 none := mx_ml_n (by decide +kernel)
theorem ml_st_545 : Cond.static (⟨"jdk/internal/util/Preconditions", "checkIndex", "(IILjava/util/function/BiFunction;)I"⟩ : MethodName) ∈ mx_GT := mx_gt 545 (by decide +kernel) rfl
theorem ml_m_java_lang_StringLatin1_9 : mx_ml "java/lang/StringLatin1" 9 (⟨"java/lang/String", "checkIndex", "(II)V"⟩ : MethodName) 539 none := mx_ml_n (by decide +kernel)
theorem ml_st_540 : Cond.static (⟨"java/lang/String", "checkIndex", "(II)V"⟩ : MethodName) ∈ mx_GT := mx_gt 540 (by decide +kernel) rfl
theorem ml_m_LeagueOfficeLaw_9 : mx_ml "LeagueOfficeLaw" 9 (⟨"LeagueOffice", "<init>", "()V"⟩ : MethodName) 99 none := mx_ml_n (by decide +kernel)
theorem ml_in_100 : Cond.instanceMethod (⟨"LeagueOffice", "<init>", "()V"⟩ : MethodName) ∈ mx_GT := mx_gt 100 (by decide +kernel) rfl
theorem ml_m_LeagueOfficeLaw_12 : mx_ml "LeagueOfficeLaw" 12 (⟨"LeagueOfficeModel", "<init>", "()V"⟩ : MethodName) 1377 none := mx_ml_n (by decide +kernel)
theorem ml_in_1378 : Cond.instanceMethod (⟨"LeagueOfficeModel", "<init>", "()V"⟩ : MethodName) ∈ mx_GT := mx_gt 1378 (by decide +kernel) rfl
theorem ml_m_LeagueOfficeLaw_13 : mx_ml "LeagueOfficeLaw" 13 (⟨"LeagueOffice", "pass", "(I)I"⟩ : MethodName) 728 none := mx_ml_n (by decide +kernel)
theorem ml_in_729 : Cond.instanceMethod (⟨"LeagueOffice", "pass", "(I)I"⟩ : MethodName) ∈ mx_GT := mx_gt 729 (by decide +kernel) rfl
theorem ml_se_730 : Cond.selects "LeagueOffice" (⟨"LeagueOffice", "pass", "(I)I"⟩ : MethodName) (⟨"LeagueOffice", "pass", "(I)I"⟩ : MethodName) ∈ mx_GT := mx_gt 730 (by decide +kernel) rfl
theorem ml_m_LeagueOfficeLaw_17 : mx_ml "LeagueOfficeLaw" 17 (⟨"LeagueOfficeModel", "pass", "(I)I"⟩ : MethodName) 1314 none := mx_ml_n (by decide +kernel)
theorem ml_in_1315 : Cond.instanceMethod (⟨"LeagueOfficeModel", "pass", "(I)I"⟩ : MethodName) ∈ mx_GT := mx_gt 1315 (by decide +kernel) rfl
theorem ml_se_1316 : Cond.selects "LeagueOfficeModel" (⟨"LeagueOfficeModel", "pass", "(I)I"⟩ : MethodName) (⟨"LeagueOfficeModel", "pass", "(I)I"⟩ : MethodName) ∈ mx_GT := mx_gt 1316 (by decide +kernel) rfl
theorem ml_m_LeagueOfficeLaw_18 : mx_ml "LeagueOfficeLaw" 18 (⟨"LeagueOffice", "club", "(II)I"⟩ : MethodName) 732 none := mx_ml_n (by decide +kernel)
theorem ml_in_733 : Cond.instanceMethod (⟨"LeagueOffice", "club", "(II)I"⟩ : MethodName) ∈ mx_GT := mx_gt 733 (by decide +kernel) rfl
theorem ml_se_734 : Cond.selects "LeagueOffice" (⟨"LeagueOffice", "club", "(II)I"⟩ : MethodName) (⟨"LeagueOffice", "club", "(II)I"⟩ : MethodName) ∈ mx_GT := mx_gt 734 (by decide +kernel) rfl
theorem ml_m_LeagueOfficeLaw_22 : mx_ml "LeagueOfficeLaw" 22 (⟨"LeagueOfficeModel", "club", "(II)I"⟩ : MethodName) 1321 none := mx_ml_n (by decide +kernel)
theorem ml_in_1322 : Cond.instanceMethod (⟨"LeagueOfficeModel", "club", "(II)I"⟩ : MethodName) ∈ mx_GT := mx_gt 1322 (by decide +kernel) rfl
theorem ml_se_1323 : Cond.selects "LeagueOfficeModel" (⟨"LeagueOfficeModel", "club", "(II)I"⟩ : MethodName) (⟨"LeagueOfficeModel", "club", "(II)I"⟩ : MethodName) ∈ mx_GT := mx_gt 1323 (by decide +kernel) rfl
theorem ml_m_LeagueOfficeLaw_23 : mx_ml "LeagueOfficeLaw" 23 (⟨"LeagueOffice", "step", "(II)I"⟩ : MethodName) 743 none := mx_ml_n (by decide +kernel)
theorem ml_in_744 : Cond.instanceMethod (⟨"LeagueOffice", "step", "(II)I"⟩ : MethodName) ∈ mx_GT := mx_gt 744 (by decide +kernel) rfl
theorem ml_se_745 : Cond.selects "LeagueOffice" (⟨"LeagueOffice", "step", "(II)I"⟩ : MethodName) (⟨"LeagueOffice", "step", "(II)I"⟩ : MethodName) ∈ mx_GT := mx_gt 745 (by decide +kernel) rfl
theorem ml_m_LeagueOfficeLaw_26 : mx_ml "LeagueOfficeLaw" 26 (⟨"LeagueOfficeModel", "step", "(II)I"⟩ : MethodName) 1328 none := mx_ml_n (by decide +kernel)
theorem ml_in_1329 : Cond.instanceMethod (⟨"LeagueOfficeModel", "step", "(II)I"⟩ : MethodName) ∈ mx_GT := mx_gt 1329 (by decide +kernel) rfl
theorem ml_se_1330 : Cond.selects "LeagueOfficeModel" (⟨"LeagueOfficeModel", "step", "(II)I"⟩ : MethodName) (⟨"LeagueOfficeModel", "step", "(II)I"⟩ : MethodName) ∈ mx_GT := mx_gt 1330 (by decide +kernel) rfl
theorem ml_m_LeagueOfficeLaw_27 : mx_ml "LeagueOfficeLaw" 27 (⟨"LeagueOffice", "game", "(IIII)I"⟩ : MethodName) 757 none := mx_ml_n (by decide +kernel)
theorem ml_in_758 : Cond.instanceMethod (⟨"LeagueOffice", "game", "(IIII)I"⟩ : MethodName) ∈ mx_GT := mx_gt 758 (by decide +kernel) rfl
theorem ml_se_759 : Cond.selects "LeagueOffice" (⟨"LeagueOffice", "game", "(IIII)I"⟩ : MethodName) (⟨"LeagueOffice", "game", "(IIII)I"⟩ : MethodName) ∈ mx_GT := mx_gt 759 (by decide +kernel) rfl
theorem ml_m_LeagueOfficeLaw_31 : mx_ml "LeagueOfficeLaw" 31 (⟨"LeagueOfficeModel", "game", "(IIII)I"⟩ : MethodName) 1337 none := mx_ml_n (by decide +kernel)
theorem ml_in_1338 : Cond.instanceMethod (⟨"LeagueOfficeModel", "game", "(IIII)I"⟩ : MethodName) ∈ mx_GT := mx_gt 1338 (by decide +kernel) rfl
theorem ml_se_1339 : Cond.selects "LeagueOfficeModel" (⟨"LeagueOfficeModel", "game", "(IIII)I"⟩ : MethodName) (⟨"LeagueOfficeModel", "game", "(IIII)I"⟩ : MethodName) ∈ mx_GT := mx_gt 1339 (by decide +kernel) rfl
theorem ml_m_LeagueOfficeLaw_32 : mx_ml "LeagueOfficeLaw" 32 (⟨"LeagueOffice", "gameTold", "(II)I"⟩ : MethodName) 775 none := mx_ml_n (by decide +kernel)
theorem ml_in_776 : Cond.instanceMethod (⟨"LeagueOffice", "gameTold", "(II)I"⟩ : MethodName) ∈ mx_GT := mx_gt 776 (by decide +kernel) rfl
theorem ml_se_777 : Cond.selects "LeagueOffice" (⟨"LeagueOffice", "gameTold", "(II)I"⟩ : MethodName) (⟨"LeagueOffice", "gameTold", "(II)I"⟩ : MethodName) ∈ mx_GT := mx_gt 777 (by decide +kernel) rfl
theorem ml_m_LeagueOfficeLaw_35 : mx_ml "LeagueOfficeLaw" 35 (⟨"LeagueOfficeModel", "gameTold", "(II)I"⟩ : MethodName) 1344 none := mx_ml_n (by decide +kernel)
theorem ml_in_1345 : Cond.instanceMethod (⟨"LeagueOfficeModel", "gameTold", "(II)I"⟩ : MethodName) ∈ mx_GT := mx_gt 1345 (by decide +kernel) rfl
theorem ml_se_1346 : Cond.selects "LeagueOfficeModel" (⟨"LeagueOfficeModel", "gameTold", "(II)I"⟩ : MethodName) (⟨"LeagueOfficeModel", "gameTold", "(II)I"⟩ : MethodName) ∈ mx_GT := mx_gt 1346 (by decide +kernel) rfl
theorem ml_m_LeagueOfficeLaw_36 : mx_ml "LeagueOfficeLaw" 36 (⟨"LeagueOffice", "result", "(III)I"⟩ : MethodName) 794 none := mx_ml_n (by decide +kernel)
theorem ml_in_795 : Cond.instanceMethod (⟨"LeagueOffice", "result", "(III)I"⟩ : MethodName) ∈ mx_GT := mx_gt 795 (by decide +kernel) rfl
theorem ml_se_796 : Cond.selects "LeagueOffice" (⟨"LeagueOffice", "result", "(III)I"⟩ : MethodName) (⟨"LeagueOffice", "result", "(III)I"⟩ : MethodName) ∈ mx_GT := mx_gt 796 (by decide +kernel) rfl
theorem ml_m_LeagueOfficeLaw_40 : mx_ml "LeagueOfficeLaw" 40 (⟨"LeagueOfficeModel", "result", "(III)I"⟩ : MethodName) 1364 none := mx_ml_n (by decide +kernel)
theorem ml_m_LeagueOfficeLaw_41 : mx_ml "LeagueOfficeLaw" 41 (⟨"LeagueOffice", "known", "(II)I"⟩ : MethodName) 806 none := mx_ml_n (by decide +kernel)
theorem ml_in_807 : Cond.instanceMethod (⟨"LeagueOffice", "known", "(II)I"⟩ : MethodName) ∈ mx_GT := mx_gt 807 (by decide +kernel) rfl
theorem ml_se_808 : Cond.selects "LeagueOffice" (⟨"LeagueOffice", "known", "(II)I"⟩ : MethodName) (⟨"LeagueOffice", "known", "(II)I"⟩ : MethodName) ∈ mx_GT := mx_gt 808 (by decide +kernel) rfl
theorem ml_m_LeagueOfficeLaw_44 : mx_ml "LeagueOfficeLaw" 44 (⟨"LeagueOfficeModel", "known", "(II)I"⟩ : MethodName) 1368 none := mx_ml_n (by decide +kernel)
theorem ml_in_1369 : Cond.instanceMethod (⟨"LeagueOfficeModel", "known", "(II)I"⟩ : MethodName) ∈ mx_GT := mx_gt 1369 (by decide +kernel) rfl
theorem ml_se_1370 : Cond.selects "LeagueOfficeModel" (⟨"LeagueOfficeModel", "known", "(II)I"⟩ : MethodName) (⟨"LeagueOfficeModel", "known", "(II)I"⟩ : MethodName) ∈ mx_GT := mx_gt 1370 (by decide +kernel) rfl
theorem ml_m_LeagueOfficeLaw_47 : mx_ml "LeagueOfficeLaw" 47 (⟨"LeagueOffice", "feed", "(IJ)I"⟩ : MethodName) 819 none := mx_ml_n (by decide +kernel)
theorem ml_in_820 : Cond.instanceMethod (⟨"LeagueOffice", "feed", "(IJ)I"⟩ : MethodName) ∈ mx_GT := mx_gt 820 (by decide +kernel) rfl
theorem ml_se_821 : Cond.selects "LeagueOffice" (⟨"LeagueOffice", "feed", "(IJ)I"⟩ : MethodName) (⟨"LeagueOffice", "feed", "(IJ)I"⟩ : MethodName) ∈ mx_GT := mx_gt 821 (by decide +kernel) rfl
theorem ml_m_LeagueOfficeLaw_51 : mx_ml "LeagueOfficeLaw" 51 (⟨"LeagueOfficeModel", "feed", "(IJ)I"⟩ : MethodName) 1688 none := mx_ml_n (by decide +kernel)
theorem ml_in_1689 : Cond.instanceMethod (⟨"LeagueOfficeModel", "feed", "(IJ)I"⟩ : MethodName) ∈ mx_GT := mx_gt 1689 (by decide +kernel) rfl
theorem ml_se_1690 : Cond.selects "LeagueOfficeModel" (⟨"LeagueOfficeModel", "feed", "(IJ)I"⟩ : MethodName) (⟨"LeagueOfficeModel", "feed", "(IJ)I"⟩ : MethodName) ∈ mx_GT := mx_gt 1690 (by decide +kernel) rfl
theorem ml_m_LeagueOfficeLaw_52 : mx_ml "LeagueOfficeLaw" 52 (⟨"LeagueOffice", "text", "()I"⟩ : MethodName) 824 none := mx_ml_n (by decide +kernel)
theorem ml_in_825 : Cond.instanceMethod (⟨"LeagueOffice", "text", "()I"⟩ : MethodName) ∈ mx_GT := mx_gt 825 (by decide +kernel) rfl
theorem ml_se_826 : Cond.selects "LeagueOffice" (⟨"LeagueOffice", "text", "()I"⟩ : MethodName) (⟨"LeagueOffice", "text", "()I"⟩ : MethodName) ∈ mx_GT := mx_gt 826 (by decide +kernel) rfl
theorem ml_m_LeagueOfficeLaw_56 : mx_ml "LeagueOfficeLaw" 56 (⟨"LeagueOfficeModel", "text", "()I"⟩ : MethodName) 1692 none := mx_ml_n (by decide +kernel)
theorem ml_in_1693 : Cond.instanceMethod (⟨"LeagueOfficeModel", "text", "()I"⟩ : MethodName) ∈ mx_GT := mx_gt 1693 (by decide +kernel) rfl
theorem ml_se_1694 : Cond.selects "LeagueOfficeModel" (⟨"LeagueOfficeModel", "text", "()I"⟩ : MethodName) (⟨"LeagueOfficeModel", "text", "()I"⟩ : MethodName) ∈ mx_GT := mx_gt 1694 (by decide +kernel) rfl
theorem ml_m_LeagueOfficeLaw_57 : mx_ml "LeagueOfficeLaw" 57 (⟨"LeagueOffice", "rule", "(II)I"⟩ : MethodName) 828 none := mx_ml_n (by decide +kernel)
theorem ml_in_829 : Cond.instanceMethod (⟨"LeagueOffice", "rule", "(II)I"⟩ : MethodName) ∈ mx_GT := mx_gt 829 (by decide +kernel) rfl
theorem ml_se_830 : Cond.selects "LeagueOffice" (⟨"LeagueOffice", "rule", "(II)I"⟩ : MethodName) (⟨"LeagueOffice", "rule", "(II)I"⟩ : MethodName) ∈ mx_GT := mx_gt 830 (by decide +kernel) rfl
theorem ml_m_LeagueOfficeLaw_60 : mx_ml "LeagueOfficeLaw" 60 (⟨"LeagueOfficeModel", "rule", "(II)I"⟩ : MethodName) 1696 none := mx_ml_n (by decide +kernel)
theorem ml_in_1697 : Cond.instanceMethod (⟨"LeagueOfficeModel", "rule", "(II)I"⟩ : MethodName) ∈ mx_GT := mx_gt 1697 (by decide +kernel) rfl
theorem ml_se_1698 : Cond.selects "LeagueOfficeModel" (⟨"LeagueOfficeModel", "rule", "(II)I"⟩ : MethodName) (⟨"LeagueOfficeModel", "rule", "(II)I"⟩ : MethodName) ∈ mx_GT := mx_gt 1698 (by decide +kernel) rfl
theorem ml_m_LeagueOfficeLaw_61 : mx_ml "LeagueOfficeLaw" 61 (⟨"LeagueOffice", "ruleOf", "(I)I"⟩ : MethodName) 832 none := mx_ml_n (by decide +kernel)
theorem ml_in_833 : Cond.instanceMethod (⟨"LeagueOffice", "ruleOf", "(I)I"⟩ : MethodName) ∈ mx_GT := mx_gt 833 (by decide +kernel) rfl
theorem ml_se_834 : Cond.selects "LeagueOffice" (⟨"LeagueOffice", "ruleOf", "(I)I"⟩ : MethodName) (⟨"LeagueOffice", "ruleOf", "(I)I"⟩ : MethodName) ∈ mx_GT := mx_gt 834 (by decide +kernel) rfl
theorem ml_m_LeagueOfficeLaw_64 : mx_ml "LeagueOfficeLaw" 64 (⟨"LeagueOfficeModel", "ruleOf", "(I)I"⟩ : MethodName) 1700 none := mx_ml_n (by decide +kernel)
theorem ml_in_1701 : Cond.instanceMethod (⟨"LeagueOfficeModel", "ruleOf", "(I)I"⟩ : MethodName) ∈ mx_GT := mx_gt 1701 (by decide +kernel) rfl
theorem ml_se_1702 : Cond.selects "LeagueOfficeModel" (⟨"LeagueOfficeModel", "ruleOf", "(I)I"⟩ : MethodName) (⟨"LeagueOfficeModel", "ruleOf", "(I)I"⟩ : MethodName) ∈ mx_GT := mx_gt 1702 (by decide +kernel) rfl
theorem ml_m_LeagueOfficeLaw_65 : mx_ml "LeagueOfficeLaw" 65 (⟨"LeagueOffice", "take", "(III)I"⟩ : MethodName) 840 none := mx_ml_n (by decide +kernel)
theorem ml_in_841 : Cond.instanceMethod (⟨"LeagueOffice", "take", "(III)I"⟩ : MethodName) ∈ mx_GT := mx_gt 841 (by decide +kernel) rfl
theorem ml_se_842 : Cond.selects "LeagueOffice" (⟨"LeagueOffice", "take", "(III)I"⟩ : MethodName) (⟨"LeagueOffice", "take", "(III)I"⟩ : MethodName) ∈ mx_GT := mx_gt 842 (by decide +kernel) rfl
theorem ml_m_LeagueOfficeLaw_68 : mx_ml "LeagueOfficeLaw" 68 (⟨"LeagueOfficeModel", "take", "(III)I"⟩ : MethodName) 1708 none := mx_ml_n (by decide +kernel)
theorem ml_in_1709 : Cond.instanceMethod (⟨"LeagueOfficeModel", "take", "(III)I"⟩ : MethodName) ∈ mx_GT := mx_gt 1709 (by decide +kernel) rfl
theorem ml_se_1710 : Cond.selects "LeagueOfficeModel" (⟨"LeagueOfficeModel", "take", "(III)I"⟩ : MethodName) (⟨"LeagueOfficeModel", "take", "(III)I"⟩ : MethodName) ∈ mx_GT := mx_gt 1710 (by decide +kernel) rfl
theorem ml_m_LeagueOfficeLaw_69 : mx_ml "LeagueOfficeLaw" 69 (⟨"LeagueOffice", "points", "(II)J"⟩ : MethodName) 844 none := mx_ml_n (by decide +kernel)
theorem ml_in_845 : Cond.instanceMethod (⟨"LeagueOffice", "points", "(II)J"⟩ : MethodName) ∈ mx_GT := mx_gt 845 (by decide +kernel) rfl
theorem ml_se_846 : Cond.selects "LeagueOffice" (⟨"LeagueOffice", "points", "(II)J"⟩ : MethodName) (⟨"LeagueOffice", "points", "(II)J"⟩ : MethodName) ∈ mx_GT := mx_gt 846 (by decide +kernel) rfl
theorem ml_m_LeagueOfficeLaw_73 : mx_ml "LeagueOfficeLaw" 73 (⟨"LeagueOfficeModel", "points", "(II)J"⟩ : MethodName) 1712 none := mx_ml_n (by decide +kernel)
theorem ml_in_1713 : Cond.instanceMethod (⟨"LeagueOfficeModel", "points", "(II)J"⟩ : MethodName) ∈ mx_GT := mx_gt 1713 (by decide +kernel) rfl
theorem ml_se_1714 : Cond.selects "LeagueOfficeModel" (⟨"LeagueOfficeModel", "points", "(II)J"⟩ : MethodName) (⟨"LeagueOfficeModel", "points", "(II)J"⟩ : MethodName) ∈ mx_GT := mx_gt 1714 (by decide +kernel) rfl
theorem ml_m_LeagueOfficeLaw_74 : mx_ml "LeagueOfficeLaw" 74 (⟨"LeagueOffice", "like", "(II)J"⟩ : MethodName) 920 none := mx_ml_n (by decide +kernel)
theorem ml_in_921 : Cond.instanceMethod (⟨"LeagueOffice", "like", "(II)J"⟩ : MethodName) ∈ mx_GT := mx_gt 921 (by decide +kernel) rfl
theorem ml_se_922 : Cond.selects "LeagueOffice" (⟨"LeagueOffice", "like", "(II)J"⟩ : MethodName) (⟨"LeagueOffice", "like", "(II)J"⟩ : MethodName) ∈ mx_GT := mx_gt 922 (by decide +kernel) rfl
theorem ml_m_LeagueOfficeLaw_77 : mx_ml "LeagueOfficeLaw" 77 (⟨"LeagueOfficeModel", "like", "(II)J"⟩ : MethodName) 1747 none := mx_ml_n (by decide +kernel)
theorem ml_in_1748 : Cond.instanceMethod (⟨"LeagueOfficeModel", "like", "(II)J"⟩ : MethodName) ∈ mx_GT := mx_gt 1748 (by decide +kernel) rfl
theorem ml_se_1749 : Cond.selects "LeagueOfficeModel" (⟨"LeagueOfficeModel", "like", "(II)J"⟩ : MethodName) (⟨"LeagueOfficeModel", "like", "(II)J"⟩ : MethodName) ∈ mx_GT := mx_gt 1749 (by decide +kernel) rfl
theorem ml_m_LeagueOfficeLaw_78 : mx_ml "LeagueOfficeLaw" 78 (⟨"LeagueOffice", "table", "(III)I"⟩ : MethodName) 932 none := mx_ml_n (by decide +kernel)
theorem ml_in_933 : Cond.instanceMethod (⟨"LeagueOffice", "table", "(III)I"⟩ : MethodName) ∈ mx_GT := mx_gt 933 (by decide +kernel) rfl
theorem ml_se_934 : Cond.selects "LeagueOffice" (⟨"LeagueOffice", "table", "(III)I"⟩ : MethodName) (⟨"LeagueOffice", "table", "(III)I"⟩ : MethodName) ∈ mx_GT := mx_gt 934 (by decide +kernel) rfl
theorem ml_m_LeagueOfficeLaw_81 : mx_ml "LeagueOfficeLaw" 81 (⟨"LeagueOfficeModel", "table", "(III)I"⟩ : MethodName) 1763 none := mx_ml_n (by decide +kernel)
theorem ml_in_1764 : Cond.instanceMethod (⟨"LeagueOfficeModel", "table", "(III)I"⟩ : MethodName) ∈ mx_GT := mx_gt 1764 (by decide +kernel) rfl
theorem ml_se_1765 : Cond.selects "LeagueOfficeModel" (⟨"LeagueOfficeModel", "table", "(III)I"⟩ : MethodName) (⟨"LeagueOfficeModel", "table", "(III)I"⟩ : MethodName) ∈ mx_GT := mx_gt 1765 (by decide +kernel) rfl
theorem ml_m_LeagueOfficeLaw_82 : mx_ml "LeagueOfficeLaw" 82 (⟨"LeagueOffice", "place", "(II)I"⟩ : MethodName) 946 none := mx_ml_n (by decide +kernel)
theorem ml_in_947 : Cond.instanceMethod (⟨"LeagueOffice", "place", "(II)I"⟩ : MethodName) ∈ mx_GT := mx_gt 947 (by decide +kernel) rfl
theorem ml_se_948 : Cond.selects "LeagueOffice" (⟨"LeagueOffice", "place", "(II)I"⟩ : MethodName) (⟨"LeagueOffice", "place", "(II)I"⟩ : MethodName) ∈ mx_GT := mx_gt 948 (by decide +kernel) rfl
theorem ml_m_LeagueOfficeLaw_85 : mx_ml "LeagueOfficeLaw" 85 (⟨"LeagueOfficeModel", "place", "(II)I"⟩ : MethodName) 1779 none := mx_ml_n (by decide +kernel)
theorem ml_in_1780 : Cond.instanceMethod (⟨"LeagueOfficeModel", "place", "(II)I"⟩ : MethodName) ∈ mx_GT := mx_gt 1780 (by decide +kernel) rfl
theorem ml_se_1781 : Cond.selects "LeagueOfficeModel" (⟨"LeagueOfficeModel", "place", "(II)I"⟩ : MethodName) (⟨"LeagueOfficeModel", "place", "(II)I"⟩ : MethodName) ∈ mx_GT := mx_gt 1781 (by decide +kernel) rfl
theorem ml_m_LeagueOfficeLaw_86 : mx_ml "LeagueOfficeLaw" 86 (⟨"LeagueOffice", "player", "()I"⟩ : MethodName) 951 none := mx_ml_n (by decide +kernel)
theorem ml_in_952 : Cond.instanceMethod (⟨"LeagueOffice", "player", "()I"⟩ : MethodName) ∈ mx_GT := mx_gt 952 (by decide +kernel) rfl
theorem ml_se_953 : Cond.selects "LeagueOffice" (⟨"LeagueOffice", "player", "()I"⟩ : MethodName) (⟨"LeagueOffice", "player", "()I"⟩ : MethodName) ∈ mx_GT := mx_gt 953 (by decide +kernel) rfl
theorem ml_m_LeagueOfficeLaw_89 : mx_ml "LeagueOfficeLaw" 89 (⟨"LeagueOfficeModel", "player", "()I"⟩ : MethodName) 1783 none := mx_ml_n (by decide +kernel)
theorem ml_in_1784 : Cond.instanceMethod (⟨"LeagueOfficeModel", "player", "()I"⟩ : MethodName) ∈ mx_GT := mx_gt 1784 (by decide +kernel) rfl
theorem ml_se_1785 : Cond.selects "LeagueOfficeModel" (⟨"LeagueOfficeModel", "player", "()I"⟩ : MethodName) (⟨"LeagueOfficeModel", "player", "()I"⟩ : MethodName) ∈ mx_GT := mx_gt 1785 (by decide +kernel) rfl
theorem ml_m_LeagueOfficeLaw_90 : mx_ml "LeagueOfficeLaw" 90 (⟨"LeagueOffice", "register", "(III)I"⟩ : MethodName) 955 none := mx_ml_n (by decide +kernel)
theorem ml_in_956 : Cond.instanceMethod (⟨"LeagueOffice", "register", "(III)I"⟩ : MethodName) ∈ mx_GT := mx_gt 956 (by decide +kernel) rfl
theorem ml_se_957 : Cond.selects "LeagueOffice" (⟨"LeagueOffice", "register", "(III)I"⟩ : MethodName) (⟨"LeagueOffice", "register", "(III)I"⟩ : MethodName) ∈ mx_GT := mx_gt 957 (by decide +kernel) rfl
theorem ml_m_LeagueOfficeLaw_93 : mx_ml "LeagueOfficeLaw" 93 (⟨"LeagueOfficeModel", "register", "(III)I"⟩ : MethodName) 1787 none := mx_ml_n (by decide +kernel)
theorem ml_in_1788 : Cond.instanceMethod (⟨"LeagueOfficeModel", "register", "(III)I"⟩ : MethodName) ∈ mx_GT := mx_gt 1788 (by decide +kernel) rfl
theorem ml_se_1789 : Cond.selects "LeagueOfficeModel" (⟨"LeagueOfficeModel", "register", "(III)I"⟩ : MethodName) (⟨"LeagueOfficeModel", "register", "(III)I"⟩ : MethodName) ∈ mx_GT := mx_gt 1789 (by decide +kernel) rfl
theorem ml_m_LeagueOfficeLaw_94 : mx_ml "LeagueOfficeLaw" 94 (⟨"LeagueOffice", "clubOf", "(II)I"⟩ : MethodName) 963 none := mx_ml_n (by decide +kernel)
theorem ml_in_964 : Cond.instanceMethod (⟨"LeagueOffice", "clubOf", "(II)I"⟩ : MethodName) ∈ mx_GT := mx_gt 964 (by decide +kernel) rfl
theorem ml_se_965 : Cond.selects "LeagueOffice" (⟨"LeagueOffice", "clubOf", "(II)I"⟩ : MethodName) (⟨"LeagueOffice", "clubOf", "(II)I"⟩ : MethodName) ∈ mx_GT := mx_gt 965 (by decide +kernel) rfl
theorem ml_m_LeagueOfficeLaw_97 : mx_ml "LeagueOfficeLaw" 97 (⟨"LeagueOfficeModel", "clubOf", "(II)I"⟩ : MethodName) 1795 none := mx_ml_n (by decide +kernel)
theorem ml_in_1796 : Cond.instanceMethod (⟨"LeagueOfficeModel", "clubOf", "(II)I"⟩ : MethodName) ∈ mx_GT := mx_gt 1796 (by decide +kernel) rfl
theorem ml_se_1797 : Cond.selects "LeagueOfficeModel" (⟨"LeagueOfficeModel", "clubOf", "(II)I"⟩ : MethodName) (⟨"LeagueOfficeModel", "clubOf", "(II)I"⟩ : MethodName) ∈ mx_GT := mx_gt 1797 (by decide +kernel) rfl
theorem ml_m_LeagueOfficeLaw_98 : mx_ml "LeagueOfficeLaw" 98 (⟨"LeagueOffice", "card", "(III)I"⟩ : MethodName) 973 none := mx_ml_n (by decide +kernel)
theorem ml_in_974 : Cond.instanceMethod (⟨"LeagueOffice", "card", "(III)I"⟩ : MethodName) ∈ mx_GT := mx_gt 974 (by decide +kernel) rfl
theorem ml_se_975 : Cond.selects "LeagueOffice" (⟨"LeagueOffice", "card", "(III)I"⟩ : MethodName) (⟨"LeagueOffice", "card", "(III)I"⟩ : MethodName) ∈ mx_GT := mx_gt 975 (by decide +kernel) rfl
theorem ml_m_LeagueOfficeLaw_101 : mx_ml "LeagueOfficeLaw" 101 (⟨"LeagueOfficeModel", "card", "(III)I"⟩ : MethodName) 1803 none := mx_ml_n (by decide +kernel)
theorem ml_in_1804 : Cond.instanceMethod (⟨"LeagueOfficeModel", "card", "(III)I"⟩ : MethodName) ∈ mx_GT := mx_gt 1804 (by decide +kernel) rfl
theorem ml_se_1805 : Cond.selects "LeagueOfficeModel" (⟨"LeagueOfficeModel", "card", "(III)I"⟩ : MethodName) (⟨"LeagueOfficeModel", "card", "(III)I"⟩ : MethodName) ∈ mx_GT := mx_gt 1805 (by decide +kernel) rfl
theorem ml_m_LeagueOfficeLaw_102 : mx_ml "LeagueOfficeLaw" 102 (⟨"LeagueOffice", "bans", "(I)I"⟩ : MethodName) 977 none := mx_ml_n (by decide +kernel)
theorem ml_in_978 : Cond.instanceMethod (⟨"LeagueOffice", "bans", "(I)I"⟩ : MethodName) ∈ mx_GT := mx_gt 978 (by decide +kernel) rfl
theorem ml_se_979 : Cond.selects "LeagueOffice" (⟨"LeagueOffice", "bans", "(I)I"⟩ : MethodName) (⟨"LeagueOffice", "bans", "(I)I"⟩ : MethodName) ∈ mx_GT := mx_gt 979 (by decide +kernel) rfl
theorem ml_m_LeagueOfficeLaw_105 : mx_ml "LeagueOfficeLaw" 105 (⟨"LeagueOfficeModel", "bans", "(I)I"⟩ : MethodName) 1807 none := mx_ml_n (by decide +kernel)
theorem ml_in_1808 : Cond.instanceMethod (⟨"LeagueOfficeModel", "bans", "(I)I"⟩ : MethodName) ∈ mx_GT := mx_gt 1808 (by decide +kernel) rfl
theorem ml_se_1809 : Cond.selects "LeagueOfficeModel" (⟨"LeagueOfficeModel", "bans", "(I)I"⟩ : MethodName) (⟨"LeagueOfficeModel", "bans", "(I)I"⟩ : MethodName) ∈ mx_GT := mx_gt 1809 (by decide +kernel) rfl
theorem ml_m_LeagueOfficeLaw_106 : mx_ml "LeagueOfficeLaw" 106 (⟨"LeagueOffice", "banned", "(II)I"⟩ : MethodName) 998 none := mx_ml_n (by decide +kernel)
theorem ml_in_999 : Cond.instanceMethod (⟨"LeagueOffice", "banned", "(II)I"⟩ : MethodName) ∈ mx_GT := mx_gt 999 (by decide +kernel) rfl
theorem ml_se_1000 : Cond.selects "LeagueOffice" (⟨"LeagueOffice", "banned", "(II)I"⟩ : MethodName) (⟨"LeagueOffice", "banned", "(II)I"⟩ : MethodName) ∈ mx_GT := mx_gt 1000 (by decide +kernel) rfl
theorem ml_m_LeagueOfficeLaw_109 : mx_ml "LeagueOfficeLaw" 109 (⟨"LeagueOfficeModel", "banned", "(II)I"⟩ : MethodName) 1815 none := mx_ml_n (by decide +kernel)
theorem ml_in_1816 : Cond.instanceMethod (⟨"LeagueOfficeModel", "banned", "(II)I"⟩ : MethodName) ∈ mx_GT := mx_gt 1816 (by decide +kernel) rfl
theorem ml_se_1817 : Cond.selects "LeagueOfficeModel" (⟨"LeagueOfficeModel", "banned", "(II)I"⟩ : MethodName) (⟨"LeagueOfficeModel", "banned", "(II)I"⟩ : MethodName) ∈ mx_GT := mx_gt 1817 (by decide +kernel) rfl
theorem ml_m_LeagueOfficeLaw_110 : mx_ml "LeagueOfficeLaw" 110 (⟨"LeagueOffice", "may", "(II)I"⟩ : MethodName) 1027 none := mx_ml_n (by decide +kernel)
theorem ml_in_1028 : Cond.instanceMethod (⟨"LeagueOffice", "may", "(II)I"⟩ : MethodName) ∈ mx_GT := mx_gt 1028 (by decide +kernel) rfl
theorem ml_se_1029 : Cond.selects "LeagueOffice" (⟨"LeagueOffice", "may", "(II)I"⟩ : MethodName) (⟨"LeagueOffice", "may", "(II)I"⟩ : MethodName) ∈ mx_GT := mx_gt 1029 (by decide +kernel) rfl
theorem ml_m_LeagueOfficeLaw_113 : mx_ml "LeagueOfficeLaw" 113 (⟨"LeagueOfficeModel", "may", "(II)I"⟩ : MethodName) 1827 none := mx_ml_n (by decide +kernel)
theorem ml_in_1828 : Cond.instanceMethod (⟨"LeagueOfficeModel", "may", "(II)I"⟩ : MethodName) ∈ mx_GT := mx_gt 1828 (by decide +kernel) rfl
theorem ml_se_1829 : Cond.selects "LeagueOfficeModel" (⟨"LeagueOfficeModel", "may", "(II)I"⟩ : MethodName) (⟨"LeagueOfficeModel", "may", "(II)I"⟩ : MethodName) ∈ mx_GT := mx_gt 1829 (by decide +kernel) rfl
theorem ml_m_LeagueOfficeLaw_114 : mx_ml "LeagueOfficeLaw" 114 (⟨"LeagueOffice", "played", "(II)I"⟩ : MethodName) 1036 none := mx_ml_n (by decide +kernel)
theorem ml_in_1037 : Cond.instanceMethod (⟨"LeagueOffice", "played", "(II)I"⟩ : MethodName) ∈ mx_GT := mx_gt 1037 (by decide +kernel) rfl
theorem ml_se_1038 : Cond.selects "LeagueOffice" (⟨"LeagueOffice", "played", "(II)I"⟩ : MethodName) (⟨"LeagueOffice", "played", "(II)I"⟩ : MethodName) ∈ mx_GT := mx_gt 1038 (by decide +kernel) rfl
theorem ml_m_LeagueOfficeLaw_117 : mx_ml "LeagueOfficeLaw" 117 (⟨"LeagueOfficeModel", "played", "(II)I"⟩ : MethodName) 1835 none := mx_ml_n (by decide +kernel)
theorem ml_in_1836 : Cond.instanceMethod (⟨"LeagueOfficeModel", "played", "(II)I"⟩ : MethodName) ∈ mx_GT := mx_gt 1836 (by decide +kernel) rfl
theorem ml_se_1837 : Cond.selects "LeagueOfficeModel" (⟨"LeagueOfficeModel", "played", "(II)I"⟩ : MethodName) (⟨"LeagueOfficeModel", "played", "(II)I"⟩ : MethodName) ∈ mx_GT := mx_gt 1837 (by decide +kernel) rfl
theorem ml_m_LeagueOfficeLaw_118 : mx_ml "LeagueOfficeLaw" 118 (⟨"LeagueOffice", "wrong", "(I)I"⟩ : MethodName) 1044 none := mx_ml_n (by decide +kernel)
theorem ml_in_1045 : Cond.instanceMethod (⟨"LeagueOffice", "wrong", "(I)I"⟩ : MethodName) ∈ mx_GT := mx_gt 1045 (by decide +kernel) rfl
theorem ml_se_1046 : Cond.selects "LeagueOffice" (⟨"LeagueOffice", "wrong", "(I)I"⟩ : MethodName) (⟨"LeagueOffice", "wrong", "(I)I"⟩ : MethodName) ∈ mx_GT := mx_gt 1046 (by decide +kernel) rfl
theorem ml_m_LeagueOfficeLaw_121 : mx_ml "LeagueOfficeLaw" 121 (⟨"LeagueOfficeModel", "wrong", "(I)I"⟩ : MethodName) 1839 none := mx_ml_n (by decide +kernel)
theorem ml_in_1840 : Cond.instanceMethod (⟨"LeagueOfficeModel", "wrong", "(I)I"⟩ : MethodName) ∈ mx_GT := mx_gt 1840 (by decide +kernel) rfl
theorem ml_se_1841 : Cond.selects "LeagueOfficeModel" (⟨"LeagueOfficeModel", "wrong", "(I)I"⟩ : MethodName) (⟨"LeagueOfficeModel", "wrong", "(I)I"⟩ : MethodName) ∈ mx_GT := mx_gt 1841 (by decide +kernel) rfl
theorem ml_m_LeagueOfficeLaw_122 : mx_ml "LeagueOfficeLaw" 122 (⟨"LeagueOffice", "fail", "(I)I"⟩ : MethodName) 1055 none := mx_ml_n (by decide +kernel)
theorem ml_in_1056 : Cond.instanceMethod (⟨"LeagueOffice", "fail", "(I)I"⟩ : MethodName) ∈ mx_GT := mx_gt 1056 (by decide +kernel) rfl
theorem ml_se_1057 : Cond.selects "LeagueOffice" (⟨"LeagueOffice", "fail", "(I)I"⟩ : MethodName) (⟨"LeagueOffice", "fail", "(I)I"⟩ : MethodName) ∈ mx_GT := mx_gt 1057 (by decide +kernel) rfl
theorem ml_m_LeagueOfficeLaw_125 : mx_ml "LeagueOfficeLaw" 125 (⟨"LeagueOfficeModel", "fail", "(I)I"⟩ : MethodName) 1847 none := mx_ml_n (by decide +kernel)
theorem ml_in_1848 : Cond.instanceMethod (⟨"LeagueOfficeModel", "fail", "(I)I"⟩ : MethodName) ∈ mx_GT := mx_gt 1848 (by decide +kernel) rfl
theorem ml_se_1849 : Cond.selects "LeagueOfficeModel" (⟨"LeagueOfficeModel", "fail", "(I)I"⟩ : MethodName) (⟨"LeagueOfficeModel", "fail", "(I)I"⟩ : MethodName) ∈ mx_GT := mx_gt 1849 (by decide +kernel) rfl
theorem ml_m_LeagueOfficeLaw_126 : mx_ml "LeagueOfficeLaw" 126 (⟨"LeagueOffice", "undo", "(I)I"⟩ : MethodName) 1085 none := mx_ml_n (by decide +kernel)
theorem ml_in_1086 : Cond.instanceMethod (⟨"LeagueOffice", "undo", "(I)I"⟩ : MethodName) ∈ mx_GT := mx_gt 1086 (by decide +kernel) rfl
theorem ml_se_1087 : Cond.selects "LeagueOffice" (⟨"LeagueOffice", "undo", "(I)I"⟩ : MethodName) (⟨"LeagueOffice", "undo", "(I)I"⟩ : MethodName) ∈ mx_GT := mx_gt 1087 (by decide +kernel) rfl
theorem ml_m_LeagueOfficeLaw_129 : mx_ml "LeagueOfficeLaw" 129 (⟨"LeagueOfficeModel", "undo", "(I)I"⟩ : MethodName) 1855 none := mx_ml_n (by decide +kernel)
theorem ml_in_1856 : Cond.instanceMethod (⟨"LeagueOfficeModel", "undo", "(I)I"⟩ : MethodName) ∈ mx_GT := mx_gt 1856 (by decide +kernel) rfl
theorem ml_se_1857 : Cond.selects "LeagueOfficeModel" (⟨"LeagueOfficeModel", "undo", "(I)I"⟩ : MethodName) (⟨"LeagueOfficeModel", "undo", "(I)I"⟩ : MethodName) ∈ mx_GT := mx_gt 1857 (by decide +kernel) rfl
theorem ml_m_LeagueOfficeLaw_130 : mx_ml "LeagueOfficeLaw" 130 (⟨"LeagueOffice", "open", "(I)I"⟩ : MethodName) 1102 none := mx_ml_n (by decide +kernel)
theorem ml_in_1103 : Cond.instanceMethod (⟨"LeagueOffice", "open", "(I)I"⟩ : MethodName) ∈ mx_GT := mx_gt 1103 (by decide +kernel) rfl
theorem ml_se_1104 : Cond.selects "LeagueOffice" (⟨"LeagueOffice", "open", "(I)I"⟩ : MethodName) (⟨"LeagueOffice", "open", "(I)I"⟩ : MethodName) ∈ mx_GT := mx_gt 1104 (by decide +kernel) rfl
theorem ml_m_LeagueOfficeLaw_133 : mx_ml "LeagueOfficeLaw" 133 (⟨"LeagueOfficeModel", "open", "(I)I"⟩ : MethodName) 1859 none := mx_ml_n (by decide +kernel)
theorem ml_in_1860 : Cond.instanceMethod (⟨"LeagueOfficeModel", "open", "(I)I"⟩ : MethodName) ∈ mx_GT := mx_gt 1860 (by decide +kernel) rfl
theorem ml_se_1861 : Cond.selects "LeagueOfficeModel" (⟨"LeagueOfficeModel", "open", "(I)I"⟩ : MethodName) (⟨"LeagueOfficeModel", "open", "(I)I"⟩ : MethodName) ∈ mx_GT := mx_gt 1861 (by decide +kernel) rfl
theorem ml_m_LeagueOfficeLaw_134 : mx_ml "LeagueOfficeLaw" 134 (⟨"LeagueOffice", "can", "(II)I"⟩ : MethodName) 1120 none := mx_ml_n (by decide +kernel)
theorem ml_in_1121 : Cond.instanceMethod (⟨"LeagueOffice", "can", "(II)I"⟩ : MethodName) ∈ mx_GT := mx_gt 1121 (by decide +kernel) rfl
theorem ml_se_1122 : Cond.selects "LeagueOffice" (⟨"LeagueOffice", "can", "(II)I"⟩ : MethodName) (⟨"LeagueOffice", "can", "(II)I"⟩ : MethodName) ∈ mx_GT := mx_gt 1122 (by decide +kernel) rfl
theorem ml_m_LeagueOfficeLaw_137 : mx_ml "LeagueOfficeLaw" 137 (⟨"LeagueOfficeModel", "can", "(II)I"⟩ : MethodName) 1867 none := mx_ml_n (by decide +kernel)
theorem ml_in_1868 : Cond.instanceMethod (⟨"LeagueOfficeModel", "can", "(II)I"⟩ : MethodName) ∈ mx_GT := mx_gt 1868 (by decide +kernel) rfl
theorem ml_se_1869 : Cond.selects "LeagueOfficeModel" (⟨"LeagueOfficeModel", "can", "(II)I"⟩ : MethodName) (⟨"LeagueOfficeModel", "can", "(II)I"⟩ : MethodName) ∈ mx_GT := mx_gt 1869 (by decide +kernel) rfl
theorem ml_m_LeagueOfficeLaw_138 : mx_ml "LeagueOfficeLaw" 138 (⟨"LeagueOffice", "sure", "(II)I"⟩ : MethodName) 1167 none := mx_ml_n (by decide +kernel)
theorem ml_in_1168 : Cond.instanceMethod (⟨"LeagueOffice", "sure", "(II)I"⟩ : MethodName) ∈ mx_GT := mx_gt 1168 (by decide +kernel) rfl
theorem ml_se_1169 : Cond.selects "LeagueOffice" (⟨"LeagueOffice", "sure", "(II)I"⟩ : MethodName) (⟨"LeagueOffice", "sure", "(II)I"⟩ : MethodName) ∈ mx_GT := mx_gt 1169 (by decide +kernel) rfl
theorem ml_m_LeagueOfficeLaw_141 : mx_ml "LeagueOfficeLaw" 141 (⟨"LeagueOfficeModel", "sure", "(II)I"⟩ : MethodName) 1893 none := mx_ml_n (by decide +kernel)
theorem ml_in_1894 : Cond.instanceMethod (⟨"LeagueOfficeModel", "sure", "(II)I"⟩ : MethodName) ∈ mx_GT := mx_gt 1894 (by decide +kernel) rfl
theorem ml_se_1895 : Cond.selects "LeagueOfficeModel" (⟨"LeagueOfficeModel", "sure", "(II)I"⟩ : MethodName) (⟨"LeagueOfficeModel", "sure", "(II)I"⟩ : MethodName) ∈ mx_GT := mx_gt 1895 (by decide +kernel) rfl
theorem ml_m_LeagueOfficeLaw_142 : mx_ml "LeagueOfficeLaw" 142 (⟨"LeagueOffice", "needs", "(II)I"⟩ : MethodName) 1171 none := mx_ml_n (by decide +kernel)
theorem ml_in_1172 : Cond.instanceMethod (⟨"LeagueOffice", "needs", "(II)I"⟩ : MethodName) ∈ mx_GT := mx_gt 1172 (by decide +kernel) rfl
theorem ml_se_1173 : Cond.selects "LeagueOffice" (⟨"LeagueOffice", "needs", "(II)I"⟩ : MethodName) (⟨"LeagueOffice", "needs", "(II)I"⟩ : MethodName) ∈ mx_GT := mx_gt 1173 (by decide +kernel) rfl
theorem ml_m_LeagueOfficeLaw_145 : mx_ml "LeagueOfficeLaw" 145 (⟨"LeagueOfficeModel", "needs", "(II)I"⟩ : MethodName) 1897 none := mx_ml_n (by decide +kernel)
theorem ml_in_1898 : Cond.instanceMethod (⟨"LeagueOfficeModel", "needs", "(II)I"⟩ : MethodName) ∈ mx_GT := mx_gt 1898 (by decide +kernel) rfl
theorem ml_se_1899 : Cond.selects "LeagueOfficeModel" (⟨"LeagueOfficeModel", "needs", "(II)I"⟩ : MethodName) (⟨"LeagueOfficeModel", "needs", "(II)I"⟩ : MethodName) ∈ mx_GT := mx_gt 1899 (by decide +kernel) rfl
theorem ml_m_LeagueOfficeLaw_146 : mx_ml "LeagueOfficeLaw" 146 (⟨"LeagueOffice", "coin", "(III)J"⟩ : MethodName) 1183 none := mx_ml_n (by decide +kernel)
theorem ml_in_1184 : Cond.instanceMethod (⟨"LeagueOffice", "coin", "(III)J"⟩ : MethodName) ∈ mx_GT := mx_gt 1184 (by decide +kernel) rfl
theorem ml_se_1185 : Cond.selects "LeagueOffice" (⟨"LeagueOffice", "coin", "(III)J"⟩ : MethodName) (⟨"LeagueOffice", "coin", "(III)J"⟩ : MethodName) ∈ mx_GT := mx_gt 1185 (by decide +kernel) rfl
theorem ml_m_LeagueOfficeLaw_150 : mx_ml "LeagueOfficeLaw" 150 (⟨"LeagueOfficeModel", "coin", "(III)J"⟩ : MethodName) 1901 none := mx_ml_n (by decide +kernel)
theorem ml_in_1902 : Cond.instanceMethod (⟨"LeagueOfficeModel", "coin", "(III)J"⟩ : MethodName) ∈ mx_GT := mx_gt 1902 (by decide +kernel) rfl
theorem ml_se_1903 : Cond.selects "LeagueOfficeModel" (⟨"LeagueOfficeModel", "coin", "(III)J"⟩ : MethodName) (⟨"LeagueOfficeModel", "coin", "(III)J"⟩ : MethodName) ∈ mx_GT := mx_gt 1903 (by decide +kernel) rfl
theorem ml_m_LeagueOfficeLaw_151 : mx_ml "LeagueOfficeLaw" 151 (⟨"LeagueOffice", "meet", "(I)I"⟩ : MethodName) 1212 none := mx_ml_n (by decide +kernel)
theorem ml_in_1213 : Cond.instanceMethod (⟨"LeagueOffice", "meet", "(I)I"⟩ : MethodName) ∈ mx_GT := mx_gt 1213 (by decide +kernel) rfl
theorem ml_se_1214 : Cond.selects "LeagueOffice" (⟨"LeagueOffice", "meet", "(I)I"⟩ : MethodName) (⟨"LeagueOffice", "meet", "(I)I"⟩ : MethodName) ∈ mx_GT := mx_gt 1214 (by decide +kernel) rfl
theorem ml_m_LeagueOfficeLaw_154 : mx_ml "LeagueOfficeLaw" 154 (⟨"LeagueOfficeModel", "meet", "(I)I"⟩ : MethodName) 1911 none := mx_ml_n (by decide +kernel)
theorem ml_in_1912 : Cond.instanceMethod (⟨"LeagueOfficeModel", "meet", "(I)I"⟩ : MethodName) ∈ mx_GT := mx_gt 1912 (by decide +kernel) rfl
theorem ml_se_1913 : Cond.selects "LeagueOfficeModel" (⟨"LeagueOfficeModel", "meet", "(I)I"⟩ : MethodName) (⟨"LeagueOfficeModel", "meet", "(I)I"⟩ : MethodName) ∈ mx_GT := mx_gt 1913 (by decide +kernel) rfl
theorem ml_m_LeagueOfficeLaw_155 : mx_ml "LeagueOfficeLaw" 155 (⟨"LeagueOffice", "laid", "(II)I"⟩ : MethodName) 1232 none := mx_ml_n (by decide +kernel)
theorem ml_in_1233 : Cond.instanceMethod (⟨"LeagueOffice", "laid", "(II)I"⟩ : MethodName) ∈ mx_GT := mx_gt 1233 (by decide +kernel) rfl
theorem ml_se_1234 : Cond.selects "LeagueOffice" (⟨"LeagueOffice", "laid", "(II)I"⟩ : MethodName) (⟨"LeagueOffice", "laid", "(II)I"⟩ : MethodName) ∈ mx_GT := mx_gt 1234 (by decide +kernel) rfl
theorem ml_m_LeagueOfficeLaw_158 : mx_ml "LeagueOfficeLaw" 158 (⟨"LeagueOfficeModel", "laid", "(II)I"⟩ : MethodName) 1919 none := mx_ml_n (by decide +kernel)
theorem ml_in_1920 : Cond.instanceMethod (⟨"LeagueOfficeModel", "laid", "(II)I"⟩ : MethodName) ∈ mx_GT := mx_gt 1920 (by decide +kernel) rfl
theorem ml_se_1921 : Cond.selects "LeagueOfficeModel" (⟨"LeagueOfficeModel", "laid", "(II)I"⟩ : MethodName) (⟨"LeagueOfficeModel", "laid", "(II)I"⟩ : MethodName) ∈ mx_GT := mx_gt 1921 (by decide +kernel) rfl
theorem ml_m_LeagueOfficeLaw_159 : mx_ml "LeagueOfficeLaw" 159 (⟨"LeagueOffice", "count", "(I)I"⟩ : MethodName) 1250 none := mx_ml_n (by decide +kernel)
theorem ml_in_1251 : Cond.instanceMethod (⟨"LeagueOffice", "count", "(I)I"⟩ : MethodName) ∈ mx_GT := mx_gt 1251 (by decide +kernel) rfl
theorem ml_se_1252 : Cond.selects "LeagueOffice" (⟨"LeagueOffice", "count", "(I)I"⟩ : MethodName) (⟨"LeagueOffice", "count", "(I)I"⟩ : MethodName) ∈ mx_GT := mx_gt 1252 (by decide +kernel) rfl
theorem ml_m_LeagueOfficeLaw_162 : mx_ml "LeagueOfficeLaw" 162 (⟨"LeagueOfficeModel", "count", "(I)I"⟩ : MethodName) 1931 none := mx_ml_n (by decide +kernel)
theorem ml_in_1932 : Cond.instanceMethod (⟨"LeagueOfficeModel", "count", "(I)I"⟩ : MethodName) ∈ mx_GT := mx_gt 1932 (by decide +kernel) rfl
theorem ml_se_1933 : Cond.selects "LeagueOfficeModel" (⟨"LeagueOfficeModel", "count", "(I)I"⟩ : MethodName) (⟨"LeagueOfficeModel", "count", "(I)I"⟩ : MethodName) ∈ mx_GT := mx_gt 1933 (by decide +kernel) rfl
theorem ml_m_LeagueOfficeLaw_163 : mx_ml "LeagueOfficeLaw" 163 (⟨"LeagueOffice", "sheet", "(III)I"⟩ : MethodName) 1254 none := mx_ml_n (by decide +kernel)
theorem ml_in_1255 : Cond.instanceMethod (⟨"LeagueOffice", "sheet", "(III)I"⟩ : MethodName) ∈ mx_GT := mx_gt 1255 (by decide +kernel) rfl
theorem ml_se_1256 : Cond.selects "LeagueOffice" (⟨"LeagueOffice", "sheet", "(III)I"⟩ : MethodName) (⟨"LeagueOffice", "sheet", "(III)I"⟩ : MethodName) ∈ mx_GT := mx_gt 1256 (by decide +kernel) rfl
theorem ml_m_LeagueOfficeLaw_166 : mx_ml "LeagueOfficeLaw" 166 (⟨"LeagueOfficeModel", "sheet", "(III)I"⟩ : MethodName) 1935 none := mx_ml_n (by decide +kernel)
theorem ml_in_1936 : Cond.instanceMethod (⟨"LeagueOfficeModel", "sheet", "(III)I"⟩ : MethodName) ∈ mx_GT := mx_gt 1936 (by decide +kernel) rfl
theorem ml_se_1937 : Cond.selects "LeagueOfficeModel" (⟨"LeagueOfficeModel", "sheet", "(III)I"⟩ : MethodName) (⟨"LeagueOfficeModel", "sheet", "(III)I"⟩ : MethodName) ∈ mx_GT := mx_gt 1937 (by decide +kernel) rfl
theorem ml_m_LeagueOfficeLaw_167 : mx_ml "LeagueOfficeLaw" 167 (⟨"LeagueOffice", "cell", "(III)I"⟩ : MethodName) 1267 none := mx_ml_n (by decide +kernel)
theorem ml_in_1268 : Cond.instanceMethod (⟨"LeagueOffice", "cell", "(III)I"⟩ : MethodName) ∈ mx_GT := mx_gt 1268 (by decide +kernel) rfl
theorem ml_se_1269 : Cond.selects "LeagueOffice" (⟨"LeagueOffice", "cell", "(III)I"⟩ : MethodName) (⟨"LeagueOffice", "cell", "(III)I"⟩ : MethodName) ∈ mx_GT := mx_gt 1269 (by decide +kernel) rfl
theorem ml_m_LeagueOfficeLaw_170 : mx_ml "LeagueOfficeLaw" 170 (⟨"LeagueOfficeModel", "cell", "(III)I"⟩ : MethodName) 1942 none := mx_ml_n (by decide +kernel)
theorem ml_in_1943 : Cond.instanceMethod (⟨"LeagueOfficeModel", "cell", "(III)I"⟩ : MethodName) ∈ mx_GT := mx_gt 1943 (by decide +kernel) rfl
theorem ml_se_1944 : Cond.selects "LeagueOfficeModel" (⟨"LeagueOfficeModel", "cell", "(III)I"⟩ : MethodName) (⟨"LeagueOfficeModel", "cell", "(III)I"⟩ : MethodName) ∈ mx_GT := mx_gt 1944 (by decide +kernel) rfl
theorem ml_m_LeagueOfficeLaw_171 : mx_ml "LeagueOfficeLaw" 171 (⟨"LeagueOffice", "copy", "(IIIII)I"⟩ : MethodName) 1288 none := mx_ml_n (by decide +kernel)
theorem ml_in_1289 : Cond.instanceMethod (⟨"LeagueOffice", "copy", "(IIIII)I"⟩ : MethodName) ∈ mx_GT := mx_gt 1289 (by decide +kernel) rfl
theorem ml_se_1290 : Cond.selects "LeagueOffice" (⟨"LeagueOffice", "copy", "(IIIII)I"⟩ : MethodName) (⟨"LeagueOffice", "copy", "(IIIII)I"⟩ : MethodName) ∈ mx_GT := mx_gt 1290 (by decide +kernel) rfl
theorem ml_m_LeagueOfficeLaw_175 : mx_ml "LeagueOfficeLaw" 175 (⟨"LeagueOfficeModel", "copy", "(IIIII)I"⟩ : MethodName) 1946 none := mx_ml_n (by decide +kernel)
theorem ml_in_1947 : Cond.instanceMethod (⟨"LeagueOfficeModel", "copy", "(IIIII)I"⟩ : MethodName) ∈ mx_GT := mx_gt 1947 (by decide +kernel) rfl
theorem ml_se_1948 : Cond.selects "LeagueOfficeModel" (⟨"LeagueOfficeModel", "copy", "(IIIII)I"⟩ : MethodName) (⟨"LeagueOfficeModel", "copy", "(IIIII)I"⟩ : MethodName) ∈ mx_GT := mx_gt 1948 (by decide +kernel) rfl
theorem ml_m_LeagueOfficeLaw_176 : mx_ml "LeagueOfficeLaw" 176 (⟨"LeagueOffice", "results", "(IIII)I"⟩ : MethodName) 1301 none := mx_ml_n (by decide +kernel)
theorem ml_in_1302 : Cond.instanceMethod (⟨"LeagueOffice", "results", "(IIII)I"⟩ : MethodName) ∈ mx_GT := mx_gt 1302 (by decide +kernel) rfl
theorem ml_se_1303 : Cond.selects "LeagueOffice" (⟨"LeagueOffice", "results", "(IIII)I"⟩ : MethodName) (⟨"LeagueOffice", "results", "(IIII)I"⟩ : MethodName) ∈ mx_GT := mx_gt 1303 (by decide +kernel) rfl
theorem ml_m_LeagueOfficeLaw_179 : mx_ml "LeagueOfficeLaw" 179 (⟨"LeagueOfficeModel", "results", "(IIII)I"⟩ : MethodName) 1950 none := mx_ml_n (by decide +kernel)
theorem ml_in_1951 : Cond.instanceMethod (⟨"LeagueOfficeModel", "results", "(IIII)I"⟩ : MethodName) ∈ mx_GT := mx_gt 1951 (by decide +kernel) rfl
theorem ml_se_1952 : Cond.selects "LeagueOfficeModel" (⟨"LeagueOfficeModel", "results", "(IIII)I"⟩ : MethodName) (⟨"LeagueOfficeModel", "results", "(IIII)I"⟩ : MethodName) ∈ mx_GT := mx_gt 1952 (by decide +kernel) rfl
theorem ml_m_LeagueOfficeLaw_180 : mx_ml "LeagueOfficeLaw" 180 (⟨"LeagueOffice", "taken", "(II)I"⟩ : MethodName) 1309 none := mx_ml_n (by decide +kernel)
theorem ml_in_1310 : Cond.instanceMethod (⟨"LeagueOffice", "taken", "(II)I"⟩ : MethodName) ∈ mx_GT := mx_gt 1310 (by decide +kernel) rfl
theorem ml_se_1311 : Cond.selects "LeagueOffice" (⟨"LeagueOffice", "taken", "(II)I"⟩ : MethodName) (⟨"LeagueOffice", "taken", "(II)I"⟩ : MethodName) ∈ mx_GT := mx_gt 1311 (by decide +kernel) rfl
theorem ml_m_LeagueOfficeLaw_183 : mx_ml "LeagueOfficeLaw" 183 (⟨"LeagueOfficeModel", "taken", "(II)I"⟩ : MethodName) 1955 none := mx_ml_n (by decide +kernel)
theorem ml_in_1956 : Cond.instanceMethod (⟨"LeagueOfficeModel", "taken", "(II)I"⟩ : MethodName) ∈ mx_GT := mx_gt 1956 (by decide +kernel) rfl
theorem ml_se_1957 : Cond.selects "LeagueOfficeModel" (⟨"LeagueOfficeModel", "taken", "(II)I"⟩ : MethodName) (⟨"LeagueOfficeModel", "taken", "(II)I"⟩ : MethodName) ∈ mx_GT := mx_gt 1957 (by decide +kernel) rfl
end
section
/- 0 LeagueOffice$Book.<init>()V -/
def mt_0_0 : List (Nat × mx_I) := [(0, 4, 0, 1, []), (1, 63, 0, 0, []), (4, 4, 0, 1, []), (5, 61, 6, 0, []), (8, 33, 0, 0, []), (9, 0, 12, 2, []), (11, 70, 64, 2, [98]), (14, 54, 0, 1, [])]
theorem mw_0_0 : ∀ e ∈ mt_0_0, mx_Ok mx_MT mq_0 e.1 e.2 := 
  mc_1 (mk_p (ms_aload_n (k := 0) (by decide +kernel) rfl) rfl) <|
  mc_1 (mk_p (ms_obj (idx := 3) 110 103 104 (by decide +kernel) (by decide +kernel) (by decide +kernel) (by decide +kernel)) rfl) <|
  mc_1 (mk_p (ms_aload_n (k := 0) (by decide +kernel) rfl) rfl) <|
  mc_1 (mk_p (mn_6 (idx := 9) 111 (by decide +kernel) (by decide +kernel)) rfl) <|
  mc_1 (mk_p (ms_dup (by decide +kernel)) rfl) <|
  mc_1 (mk_p (ms_bipush (n := 12) (by decide +kernel) (by decide +kernel)) rfl) <|
  mc_1 (mk_c (k := mq_64) rfl ⟨mo_64, 11, 113, none, ml_m_LeagueOffice_Book_11, Or.inr (Or.inl ⟨rfl, (by decide +kernel), ⟨1, rfl, by decide +kernel⟩, ml_in_114, rfl, rfl⟩)⟩) <|
  mc_1 (mk_p (ms_putF (idx := 14) (w := 134) mx_c0 (by decide) ml_f_LeagueOffice_Book_14 rfl rfl rfl rfl (by decide +kernel)) rfl) <| mc_0
def mt_0_1 : List (Nat × mx_I) := [(17, 4, 0, 1, []), (18, 61, 6, 0, []), (21, 33, 0, 0, []), (22, 0, 12, 2, []), (24, 70, 64, 2, [98]), (27, 54, 0, 2, []), (30, 4, 0, 1, []), (31, 61, 6, 0, [])]
theorem mw_0_1 : ∀ e ∈ mt_0_1, mx_Ok mx_MT mq_0 e.1 e.2 := 
  mc_1 (mk_p (ms_aload_n (k := 0) (by decide +kernel) rfl) rfl) <|
  mc_1 (mk_p (mn_6 (idx := 9) 111 (by decide +kernel) (by decide +kernel)) rfl) <|
  mc_1 (mk_p (ms_dup (by decide +kernel)) rfl) <|
  mc_1 (mk_p (ms_bipush (n := 12) (by decide +kernel) (by decide +kernel)) rfl) <|
  mc_1 (mk_c (k := mq_64) rfl ⟨mo_64, 11, 113, none, ml_m_LeagueOffice_Book_11, Or.inr (Or.inl ⟨rfl, (by decide +kernel), ⟨1, rfl, by decide +kernel⟩, ml_in_114, rfl, rfl⟩)⟩) <|
  mc_1 (mk_p (ms_putF (idx := 20) (w := 139) mx_c0 (by decide) ml_f_LeagueOffice_Book_20 rfl rfl rfl rfl (by decide +kernel)) rfl) <|
  mc_1 (mk_p (ms_aload_n (k := 0) (by decide +kernel) rfl) rfl) <|
  mc_1 (mk_p (mn_6 (idx := 9) 111 (by decide +kernel) (by decide +kernel)) rfl) <| mc_0
def mt_0_2 : List (Nat × mx_I) := [(34, 33, 0, 0, []), (35, 0, 60, 2, []), (37, 70, 64, 2, [98]), (40, 54, 0, 3, []), (43, 4, 0, 1, []), (44, 61, 6, 0, []), (47, 33, 0, 0, [])]
theorem mw_0_2 : ∀ e ∈ mt_0_2, mx_Ok mx_MT mq_0 e.1 e.2 := 
  mc_1 (mk_p (ms_dup (by decide +kernel)) rfl) <|
  mc_1 (mk_p (ms_bipush (n := 60) (by decide +kernel) (by decide +kernel)) rfl) <|
  mc_1 (mk_c (k := mq_64) rfl ⟨mo_64, 11, 113, none, ml_m_LeagueOffice_Book_11, Or.inr (Or.inl ⟨rfl, (by decide +kernel), ⟨1, rfl, by decide +kernel⟩, ml_in_114, rfl, rfl⟩)⟩) <|
  mc_1 (mk_p (ms_putF (idx := 23) (w := 142) mx_c0 (by decide) ml_f_LeagueOffice_Book_23 rfl rfl rfl rfl (by decide +kernel)) rfl) <|
  mc_1 (mk_p (ms_aload_n (k := 0) (by decide +kernel) rfl) rfl) <|
  mc_1 (mk_p (mn_6 (idx := 9) 111 (by decide +kernel) (by decide +kernel)) rfl) <|
  mc_1 (mk_p (ms_dup (by decide +kernel)) rfl) <| mc_0
def mt_0_3 : List (Nat × mx_I) := [(48, 0, 60, 2, []), (50, 70, 64, 2, [98]), (53, 54, 0, 4, []), (56, 4, 0, 1, []), (57, 61, 6, 0, []), (60, 33, 0, 0, []), (61, 0, 60, 2, []), (63, 70, 64, 2, [98])]
theorem mw_0_3 : ∀ e ∈ mt_0_3, mx_Ok mx_MT mq_0 e.1 e.2 := 
  mc_1 (mk_p (ms_bipush (n := 60) (by decide +kernel) (by decide +kernel)) rfl) <|
  mc_1 (mk_c (k := mq_64) rfl ⟨mo_64, 11, 113, none, ml_m_LeagueOffice_Book_11, Or.inr (Or.inl ⟨rfl, (by decide +kernel), ⟨1, rfl, by decide +kernel⟩, ml_in_114, rfl, rfl⟩)⟩) <|
  mc_1 (mk_p (ms_putF (idx := 26) (w := 149) mx_c0 (by decide) ml_f_LeagueOffice_Book_26 rfl rfl rfl rfl (by decide +kernel)) rfl) <|
  mc_1 (mk_p (ms_aload_n (k := 0) (by decide +kernel) rfl) rfl) <|
  mc_1 (mk_p (mn_6 (idx := 9) 111 (by decide +kernel) (by decide +kernel)) rfl) <|
  mc_1 (mk_p (ms_dup (by decide +kernel)) rfl) <|
  mc_1 (mk_p (ms_bipush (n := 60) (by decide +kernel) (by decide +kernel)) rfl) <|
  mc_1 (mk_c (k := mq_64) rfl ⟨mo_64, 11, 113, none, ml_m_LeagueOffice_Book_11, Or.inr (Or.inl ⟨rfl, (by decide +kernel), ⟨1, rfl, by decide +kernel⟩, ml_in_114, rfl, rfl⟩)⟩) <| mc_0
def mt_0_4 : List (Nat × mx_I) := [(66, 54, 0, 5, []), (69, 4, 0, 1, []), (70, 61, 6, 0, []), (73, 33, 0, 0, []), (74, 0, 60, 2, []), (76, 70, 64, 2, [98]), (79, 54, 0, 6, [])]
theorem mw_0_4 : ∀ e ∈ mt_0_4, mx_Ok mx_MT mq_0 e.1 e.2 := 
  mc_1 (mk_p (ms_putF (idx := 29) (w := 156) mx_c0 (by decide) ml_f_LeagueOffice_Book_29 rfl rfl rfl rfl (by decide +kernel)) rfl) <|
  mc_1 (mk_p (ms_aload_n (k := 0) (by decide +kernel) rfl) rfl) <|
  mc_1 (mk_p (mn_6 (idx := 9) 111 (by decide +kernel) (by decide +kernel)) rfl) <|
  mc_1 (mk_p (ms_dup (by decide +kernel)) rfl) <|
  mc_1 (mk_p (ms_bipush (n := 60) (by decide +kernel) (by decide +kernel)) rfl) <|
  mc_1 (mk_c (k := mq_64) rfl ⟨mo_64, 11, 113, none, ml_m_LeagueOffice_Book_11, Or.inr (Or.inl ⟨rfl, (by decide +kernel), ⟨1, rfl, by decide +kernel⟩, ml_in_114, rfl, rfl⟩)⟩) <|
  mc_1 (mk_p (ms_putF (idx := 32) (w := 163) mx_c0 (by decide) ml_f_LeagueOffice_Book_32 rfl rfl rfl rfl (by decide +kernel)) rfl) <| mc_0
def mt_0_5 : List (Nat × mx_I) := [(82, 4, 0, 1, []), (83, 61, 6, 0, []), (86, 33, 0, 0, []), (87, 0, 60, 2, []), (89, 70, 64, 2, [98]), (92, 54, 0, 7, []), (95, 4, 0, 1, [])]
theorem mw_0_5 : ∀ e ∈ mt_0_5, mx_Ok mx_MT mq_0 e.1 e.2 := 
  mc_1 (mk_p (ms_aload_n (k := 0) (by decide +kernel) rfl) rfl) <|
  mc_1 (mk_p (mn_6 (idx := 9) 111 (by decide +kernel) (by decide +kernel)) rfl) <|
  mc_1 (mk_p (ms_dup (by decide +kernel)) rfl) <|
  mc_1 (mk_p (ms_bipush (n := 60) (by decide +kernel) (by decide +kernel)) rfl) <|
  mc_1 (mk_c (k := mq_64) rfl ⟨mo_64, 11, 113, none, ml_m_LeagueOffice_Book_11, Or.inr (Or.inl ⟨rfl, (by decide +kernel), ⟨1, rfl, by decide +kernel⟩, ml_in_114, rfl, rfl⟩)⟩) <|
  mc_1 (mk_p (ms_putF (idx := 35) (w := 169) mx_c0 (by decide) ml_f_LeagueOffice_Book_35 rfl rfl rfl rfl (by decide +kernel)) rfl) <|
  mc_1 (mk_p (ms_aload_n (k := 0) (by decide +kernel) rfl) rfl) <| mc_0
def mt_0_6 : List (Nat × mx_I) := [(96, 61, 6, 0, []), (99, 33, 0, 0, []), (100, 0, 120, 2, []), (102, 70, 64, 2, [98]), (105, 54, 0, 8, []), (108, 4, 0, 1, []), (109, 61, 6, 0, [])]
theorem mw_0_6 : ∀ e ∈ mt_0_6, mx_Ok mx_MT mq_0 e.1 e.2 := 
  mc_1 (mk_p (mn_6 (idx := 9) 111 (by decide +kernel) (by decide +kernel)) rfl) <|
  mc_1 (mk_p (ms_dup (by decide +kernel)) rfl) <|
  mc_1 (mk_p (ms_bipush (n := 120) (by decide +kernel) (by decide +kernel)) rfl) <|
  mc_1 (mk_c (k := mq_64) rfl ⟨mo_64, 11, 113, none, ml_m_LeagueOffice_Book_11, Or.inr (Or.inl ⟨rfl, (by decide +kernel), ⟨1, rfl, by decide +kernel⟩, ml_in_114, rfl, rfl⟩)⟩) <|
  mc_1 (mk_p (ms_putF (idx := 38) (w := 172) mx_c0 (by decide) ml_f_LeagueOffice_Book_38 rfl rfl rfl rfl (by decide +kernel)) rfl) <|
  mc_1 (mk_p (ms_aload_n (k := 0) (by decide +kernel) rfl) rfl) <|
  mc_1 (mk_p (mn_6 (idx := 9) 111 (by decide +kernel) (by decide +kernel)) rfl) <| mc_0
def mt_0_7 : List (Nat × mx_I) := [(112, 33, 0, 0, []), (113, 0, 120, 2, []), (115, 70, 64, 2, [98]), (118, 54, 0, 9, []), (121, 4, 0, 1, []), (122, 61, 6, 0, []), (125, 33, 0, 0, []), (126, 0, 120, 2, [])]
theorem mw_0_7 : ∀ e ∈ mt_0_7, mx_Ok mx_MT mq_0 e.1 e.2 := 
  mc_1 (mk_p (ms_dup (by decide +kernel)) rfl) <|
  mc_1 (mk_p (ms_bipush (n := 120) (by decide +kernel) (by decide +kernel)) rfl) <|
  mc_1 (mk_c (k := mq_64) rfl ⟨mo_64, 11, 113, none, ml_m_LeagueOffice_Book_11, Or.inr (Or.inl ⟨rfl, (by decide +kernel), ⟨1, rfl, by decide +kernel⟩, ml_in_114, rfl, rfl⟩)⟩) <|
  mc_1 (mk_p (ms_putF (idx := 41) (w := 174) mx_c0 (by decide) ml_f_LeagueOffice_Book_41 rfl rfl rfl rfl (by decide +kernel)) rfl) <|
  mc_1 (mk_p (ms_aload_n (k := 0) (by decide +kernel) rfl) rfl) <|
  mc_1 (mk_p (mn_6 (idx := 9) 111 (by decide +kernel) (by decide +kernel)) rfl) <|
  mc_1 (mk_p (ms_dup (by decide +kernel)) rfl) <|
  mc_1 (mk_p (ms_bipush (n := 120) (by decide +kernel) (by decide +kernel)) rfl) <| mc_0
def mt_0_8 : List (Nat × mx_I) := [(128, 70, 64, 2, [98]), (131, 54, 0, 10, []), (134, 4, 0, 1, []), (135, 61, 6, 0, []), (138, 33, 0, 0, []), (139, 0, 60, 2, []), (141, 70, 64, 2, [98])]
theorem mw_0_8 : ∀ e ∈ mt_0_8, mx_Ok mx_MT mq_0 e.1 e.2 := 
  mc_1 (mk_c (k := mq_64) rfl ⟨mo_64, 11, 113, none, ml_m_LeagueOffice_Book_11, Or.inr (Or.inl ⟨rfl, (by decide +kernel), ⟨1, rfl, by decide +kernel⟩, ml_in_114, rfl, rfl⟩)⟩) <|
  mc_1 (mk_p (ms_putF (idx := 44) (w := 175) mx_c0 (by decide) ml_f_LeagueOffice_Book_44 rfl rfl rfl rfl (by decide +kernel)) rfl) <|
  mc_1 (mk_p (ms_aload_n (k := 0) (by decide +kernel) rfl) rfl) <|
  mc_1 (mk_p (mn_6 (idx := 9) 111 (by decide +kernel) (by decide +kernel)) rfl) <|
  mc_1 (mk_p (ms_dup (by decide +kernel)) rfl) <|
  mc_1 (mk_p (ms_bipush (n := 60) (by decide +kernel) (by decide +kernel)) rfl) <|
  mc_1 (mk_c (k := mq_64) rfl ⟨mo_64, 11, 113, none, ml_m_LeagueOffice_Book_11, Or.inr (Or.inl ⟨rfl, (by decide +kernel), ⟨1, rfl, by decide +kernel⟩, ml_in_114, rfl, rfl⟩)⟩) <| mc_0
def mt_0_9 : List (Nat × mx_I) := [(144, 54, 0, 11, []), (147, 83, 0, 0, [])]
theorem mw_0_9 : ∀ e ∈ mt_0_9, mx_Ok mx_MT mq_0 e.1 e.2 := 
  mc_1 (mk_p (ms_putF (idx := 47) (w := 176) mx_c0 (by decide) ml_f_LeagueOffice_Book_47 rfl rfl rfl rfl (by decide +kernel)) rfl) <|
  mc_1 (mk_r (Or.inr (Or.inr (Or.inr ⟨rfl, by decide +kernel, rfl⟩))) rfl) <| mc_0
def mt_0 : List (List (Nat × mx_I)) := [mt_0_0, mt_0_1, mt_0_2, mt_0_3, mt_0_4, mt_0_5, mt_0_6, mt_0_7, mt_0_8, mt_0_9]
theorem mw_0 : ∀ ch ∈ mt_0, ∀ e ∈ ch, mx_Ok mx_MT mq_0 e.1 e.2 := mc_2 mw_0_0 <| mc_2 mw_0_1 <| mc_2 mw_0_2 <| mc_2 mw_0_3 <| mc_2 mw_0_4 <| mc_2 mw_0_5 <| mc_2 mw_0_6 <| mc_2 mw_0_7 <| mc_2 mw_0_8 <| mc_2 mw_0_9 <| mc_3
/- 1 LeagueOffice$Book.isClub(I)Z -/
def mt_1_0 : List (Nat × mx_I) := [(0, 4, 0, 1, []), (1, 51, 0, 1, []), (4, 2, 1, 1, []), (5, 70, 67, 2, [6]), (8, 80, 2, 0, [])]
theorem mw_1_0 : ∀ e ∈ mt_1_0, mx_Ok mx_MT mq_1 e.1 e.2 := 
  mc_1 (mk_p (ms_aload_n (k := 0) (by decide +kernel) rfl) rfl) <|
  mc_1 (mk_p (ms_get (idx := 14) (w := 134) (host := none) mx_c0 (by decide) ml_f_LeagueOffice_Book_14 (by decide +kernel)) rfl) <|
  mc_1 (mk_p (ms_iload_n (k := 1) (by decide +kernel) rfl) rfl) <|
  mc_1 (mk_c (k := mq_67) rfl ⟨mo_67, 50, 751, none, ml_m_LeagueOffice_Book_50, Or.inr (Or.inr (Or.inl ⟨6, TX6, 2, by decide, rfl, rfl, (by decide +kernel), ⟨1, rfl, by decide +kernel⟩, ml_in_752, ml_se_753⟩))⟩) <|
  mc_1 (mk_r (Or.inl ⟨rfl, by decide +kernel, _, rfl, mf_2⟩) rfl) <| mc_0
def mt_1 : List (List (Nat × mx_I)) := [mt_1_0]
theorem mw_1 : ∀ ch ∈ mt_1, ∀ e ∈ ch, mx_Ok mx_MT mq_1 e.1 e.2 := mc_2 mw_1_0 <| mc_3
/- 2 LeagueOffice$Book.isGame(I)Z -/
def mt_2_0 : List (Nat × mx_I) := [(0, 4, 0, 1, []), (1, 51, 0, 3, []), (4, 2, 1, 1, []), (5, 70, 67, 2, [6]), (8, 80, 2, 0, [])]
theorem mw_2_0 : ∀ e ∈ mt_2_0, mx_Ok mx_MT mq_2 e.1 e.2 := 
  mc_1 (mk_p (ms_aload_n (k := 0) (by decide +kernel) rfl) rfl) <|
  mc_1 (mk_p (ms_get (idx := 23) (w := 142) (host := none) mx_c0 (by decide) ml_f_LeagueOffice_Book_23 (by decide +kernel)) rfl) <|
  mc_1 (mk_p (ms_iload_n (k := 1) (by decide +kernel) rfl) rfl) <|
  mc_1 (mk_c (k := mq_67) rfl ⟨mo_67, 50, 751, none, ml_m_LeagueOffice_Book_50, Or.inr (Or.inr (Or.inl ⟨6, TX6, 2, by decide, rfl, rfl, (by decide +kernel), ⟨1, rfl, by decide +kernel⟩, ml_in_752, ml_se_753⟩))⟩) <|
  mc_1 (mk_r (Or.inl ⟨rfl, by decide +kernel, _, rfl, mf_2⟩) rfl) <| mc_0
def mt_2 : List (List (Nat × mx_I)) := [mt_2_0]
theorem mw_2 : ∀ ch ∈ mt_2, ∀ e ∈ ch, mx_Ok mx_MT mq_2 e.1 e.2 := mc_2 mw_2_0 <| mc_3
/- 3 LeagueOffice$Book.hasCome(I)Z -/
def mt_3_0 : List (Nat × mx_I) := [(0, 2, 1, 1, []), (1, 38, 16, 0, []), (4, 2, 1, 1, []), (5, 4, 0, 1, []), (6, 51, 0, 0, []), (9, 46, 16, 0, []), (12, 0, 1, 1, []), (13, 48, 17, 0, [])]
theorem mw_3_0 : ∀ e ∈ mt_3_0, mx_Ok mx_MT mq_3 e.1 e.2 := 
  mc_1 (mk_p (ms_iload_n (k := 1) (by decide +kernel) rfl) rfl) <|
  mc_1 (mk_p (ms_if_lt (off := (15)) (by decide +kernel) (by decide)) rfl) <|
  mc_1 (mk_p (ms_iload_n (k := 1) (by decide +kernel) rfl) rfl) <|
  mc_1 (mk_p (ms_aload_n (k := 0) (by decide +kernel) rfl) rfl) <|
  mc_1 (mk_p (ms_get (idx := 54) (w := 133) (host := none) mx_c0 (by decide) ml_f_LeagueOffice_Book_54 (by decide +kernel)) rfl) <|
  mc_1 (mk_p (ms_icmp_gt (off := (7)) (by decide +kernel) (by decide)) rfl) <|
  mc_1 (mk_p (ms_iconst (n := 1) (by decide +kernel) (by decide +kernel)) rfl) <|
  mc_1 (mk_p (ms_goto (off := (4)) (by decide +kernel) (by decide)) rfl) <| mc_0
def mt_3_1 : List (Nat × mx_I) := [(16, 0, 0, 1, []), (17, 80, 2, 0, [])]
theorem mw_3_1 : ∀ e ∈ mt_3_1, mx_Ok mx_MT mq_3 e.1 e.2 := 
  mc_1 (mk_p (ms_iconst (n := 0) (by decide +kernel) (by decide +kernel)) rfl) <|
  mc_1 (mk_r (Or.inl ⟨rfl, by decide +kernel, _, rfl, mf_2⟩) rfl) <| mc_0
def mt_3 : List (List (Nat × mx_I)) := [mt_3_0, mt_3_1]
theorem mw_3 : ∀ ch ∈ mt_3, ∀ e ∈ ch, mx_Ok mx_MT mq_3 e.1 e.2 := mc_2 mw_3_0 <| mc_2 mw_3_1 <| mc_3
/- 4 LeagueOffice$Book.isIn(II)Z -/
def mt_4_0 : List (Nat × mx_I) := [(0, 4, 0, 1, []), (1, 51, 0, 1, []), (4, 2, 2, 1, []), (5, 70, 67, 2, [6]), (8, 36, 27, 0, []), (11, 4, 0, 1, []), (12, 51, 0, 1, []), (15, 2, 2, 1, [])]
theorem mw_4_0 : ∀ e ∈ mt_4_0, mx_Ok mx_MT mq_4 e.1 e.2 := 
  mc_1 (mk_p (ms_aload_n (k := 0) (by decide +kernel) rfl) rfl) <|
  mc_1 (mk_p (ms_get (idx := 14) (w := 134) (host := none) mx_c0 (by decide) ml_f_LeagueOffice_Book_14 (by decide +kernel)) rfl) <|
  mc_1 (mk_p (ms_iload_n (k := 2) (by decide +kernel) rfl) rfl) <|
  mc_1 (mk_c (k := mq_67) rfl ⟨mo_67, 50, 751, none, ml_m_LeagueOffice_Book_50, Or.inr (Or.inr (Or.inl ⟨6, TX6, 2, by decide, rfl, rfl, (by decide +kernel), ⟨1, rfl, by decide +kernel⟩, ml_in_752, ml_se_753⟩))⟩) <|
  mc_1 (mk_p (ms_if_eq (off := (19)) (by decide +kernel) (by decide)) rfl) <|
  mc_1 (mk_p (ms_aload_n (k := 0) (by decide +kernel) rfl) rfl) <|
  mc_1 (mk_p (ms_get (idx := 14) (w := 134) (host := none) mx_c0 (by decide) ml_f_LeagueOffice_Book_14 (by decide +kernel)) rfl) <|
  mc_1 (mk_p (ms_iload_n (k := 2) (by decide +kernel) rfl) rfl) <| mc_0
def mt_4_1 : List (Nat × mx_I) := [(16, 70, 68, 2, [6]), (19, 2, 1, 1, []), (20, 43, 27, 0, []), (23, 0, 1, 1, []), (24, 48, 28, 0, []), (27, 0, 0, 1, []), (28, 80, 2, 0, [])]
theorem mw_4_1 : ∀ e ∈ mt_4_1, mx_Ok mx_MT mq_4 e.1 e.2 := 
  mc_1 (mk_c (k := mq_68) rfl ⟨mo_68, 58, 766, none, ml_m_LeagueOffice_Book_58, Or.inr (Or.inr (Or.inl ⟨6, TX6, 2, by decide, rfl, rfl, (by decide +kernel), ⟨1, rfl, by decide +kernel⟩, ml_in_591, ml_se_592⟩))⟩) <|
  mc_1 (mk_p (ms_iload_n (k := 1) (by decide +kernel) rfl) rfl) <|
  mc_1 (mk_p (ms_icmp_ne (off := (7)) (by decide +kernel) (by decide)) rfl) <|
  mc_1 (mk_p (ms_iconst (n := 1) (by decide +kernel) (by decide +kernel)) rfl) <|
  mc_1 (mk_p (ms_goto (off := (4)) (by decide +kernel) (by decide)) rfl) <|
  mc_1 (mk_p (ms_iconst (n := 0) (by decide +kernel) (by decide +kernel)) rfl) <|
  mc_1 (mk_r (Or.inl ⟨rfl, by decide +kernel, _, rfl, mf_2⟩) rfl) <| mc_0
def mt_4 : List (List (Nat × mx_I)) := [mt_4_0, mt_4_1]
theorem mw_4 : ∀ ch ∈ mt_4, ∀ e ∈ ch, mx_Ok mx_MT mq_4 e.1 e.2 := mc_2 mw_4_0 <| mc_2 mw_4_1 <| mc_3
/- 5 LeagueOffice$Book.plays(II)Z -/
def mt_5_0 : List (Nat × mx_I) := [(0, 4, 0, 1, []), (1, 51, 0, 4, []), (4, 2, 1, 1, []), (5, 70, 68, 2, [6]), (8, 2, 2, 1, []), (9, 42, 24, 0, []), (12, 4, 0, 1, []), (13, 51, 0, 5, [])]
theorem mw_5_0 : ∀ e ∈ mt_5_0, mx_Ok mx_MT mq_5 e.1 e.2 := 
  mc_1 (mk_p (ms_aload_n (k := 0) (by decide +kernel) rfl) rfl) <|
  mc_1 (mk_p (ms_get (idx := 26) (w := 149) (host := none) mx_c0 (by decide) ml_f_LeagueOffice_Book_26 (by decide +kernel)) rfl) <|
  mc_1 (mk_p (ms_iload_n (k := 1) (by decide +kernel) rfl) rfl) <|
  mc_1 (mk_c (k := mq_68) rfl ⟨mo_68, 58, 766, none, ml_m_LeagueOffice_Book_58, Or.inr (Or.inr (Or.inl ⟨6, TX6, 2, by decide, rfl, rfl, (by decide +kernel), ⟨1, rfl, by decide +kernel⟩, ml_in_591, ml_se_592⟩))⟩) <|
  mc_1 (mk_p (ms_iload_n (k := 2) (by decide +kernel) rfl) rfl) <|
  mc_1 (mk_p (ms_icmp_eq (off := (15)) (by decide +kernel) (by decide)) rfl) <|
  mc_1 (mk_p (ms_aload_n (k := 0) (by decide +kernel) rfl) rfl) <|
  mc_1 (mk_p (ms_get (idx := 29) (w := 156) (host := none) mx_c0 (by decide) ml_f_LeagueOffice_Book_29 (by decide +kernel)) rfl) <| mc_0
def mt_5_1 : List (Nat × mx_I) := [(16, 2, 1, 1, []), (17, 70, 68, 2, [6]), (20, 2, 2, 1, []), (21, 43, 28, 0, []), (24, 0, 1, 1, []), (25, 48, 29, 0, []), (28, 0, 0, 1, []), (29, 80, 2, 0, [])]
theorem mw_5_1 : ∀ e ∈ mt_5_1, mx_Ok mx_MT mq_5 e.1 e.2 := 
  mc_1 (mk_p (ms_iload_n (k := 1) (by decide +kernel) rfl) rfl) <|
  mc_1 (mk_c (k := mq_68) rfl ⟨mo_68, 58, 766, none, ml_m_LeagueOffice_Book_58, Or.inr (Or.inr (Or.inl ⟨6, TX6, 2, by decide, rfl, rfl, (by decide +kernel), ⟨1, rfl, by decide +kernel⟩, ml_in_591, ml_se_592⟩))⟩) <|
  mc_1 (mk_p (ms_iload_n (k := 2) (by decide +kernel) rfl) rfl) <|
  mc_1 (mk_p (ms_icmp_ne (off := (7)) (by decide +kernel) (by decide)) rfl) <|
  mc_1 (mk_p (ms_iconst (n := 1) (by decide +kernel) (by decide +kernel)) rfl) <|
  mc_1 (mk_p (ms_goto (off := (4)) (by decide +kernel) (by decide)) rfl) <|
  mc_1 (mk_p (ms_iconst (n := 0) (by decide +kernel) (by decide +kernel)) rfl) <|
  mc_1 (mk_r (Or.inl ⟨rfl, by decide +kernel, _, rfl, mf_2⟩) rfl) <| mc_0
def mt_5 : List (List (Nat × mx_I)) := [mt_5_0, mt_5_1]
theorem mw_5 : ∀ ch ∈ mt_5, ∀ e ∈ ch, mx_Ok mx_MT mq_5 e.1 e.2 := mc_2 mw_5_0 <| mc_2 mw_5_1 <| mc_3
/- 6 LeagueOffice$Book.doesCount(I)Z -/
def mt_6_0 : List (Nat × mx_I) := [(0, 55, 5, 0, []), (3, 4, 0, 1, []), (4, 51, 0, 3, []), (7, 2, 1, 1, []), (8, 70, 68, 2, [6]), (11, 70, 161, 2, []), (14, 0, 1, 1, []), (15, 43, 22, 0, [])]
theorem mw_6_0 : ∀ e ∈ mt_6_0, mx_Ok mx_MT mq_6 e.1 e.2 := 
  mc_1 (mk_p (ms_gets (q := ("LeagueOffice", "COUNTS", "[I", .ref 1000)) (idx := 62) (w := 870) (host := (some "LeagueOffice")) rfl ml_f_LeagueOffice_Book_62 (by decide +kernel)) rfl) <|
  mc_1 (mk_p (ms_aload_n (k := 0) (by decide +kernel) rfl) rfl) <|
  mc_1 (mk_p (ms_get (idx := 23) (w := 142) (host := none) mx_c0 (by decide) ml_f_LeagueOffice_Book_23 (by decide +kernel)) rfl) <|
  mc_1 (mk_p (ms_iload_n (k := 1) (by decide +kernel) rfl) rfl) <|
  mc_1 (mk_c (k := mq_68) rfl ⟨mo_68, 58, 766, none, ml_m_LeagueOffice_Book_58, Or.inr (Or.inr (Or.inl ⟨6, TX6, 2, by decide, rfl, rfl, (by decide +kernel), ⟨1, rfl, by decide +kernel⟩, ml_in_591, ml_se_592⟩))⟩) <|
  mc_1 (mk_c (k := mq_161) rfl ⟨mo_161, 66, 871, (some "LeagueOffice"), ml_m_LeagueOffice_Book_66, Or.inl ⟨rfl, (by decide +kernel), by decide +kernel, ml_st_786⟩⟩) <|
  mc_1 (mk_p (ms_iconst (n := 1) (by decide +kernel) (by decide +kernel)) rfl) <|
  mc_1 (mk_p (ms_icmp_ne (off := (7)) (by decide +kernel) (by decide)) rfl) <| mc_0
def mt_6_1 : List (Nat × mx_I) := [(18, 0, 1, 1, []), (19, 48, 23, 0, []), (22, 0, 0, 1, []), (23, 80, 2, 0, [])]
theorem mw_6_1 : ∀ e ∈ mt_6_1, mx_Ok mx_MT mq_6 e.1 e.2 := 
  mc_1 (mk_p (ms_iconst (n := 1) (by decide +kernel) (by decide +kernel)) rfl) <|
  mc_1 (mk_p (ms_goto (off := (4)) (by decide +kernel) (by decide)) rfl) <|
  mc_1 (mk_p (ms_iconst (n := 0) (by decide +kernel) (by decide +kernel)) rfl) <|
  mc_1 (mk_r (Or.inl ⟨rfl, by decide +kernel, _, rfl, mf_2⟩) rfl) <| mc_0
def mt_6 : List (List (Nat × mx_I)) := [mt_6_0, mt_6_1]
theorem mw_6 : ∀ ch ∈ mt_6, ∀ e ∈ ch, mx_Ok mx_MT mq_6 e.1 e.2 := mc_2 mw_6_0 <| mc_2 mw_6_1 <| mc_3
/- 7 LeagueOffice$Book.doesServe(I)Z -/
def mt_7_0 : List (Nat × mx_I) := [(0, 55, 6, 0, []), (3, 4, 0, 1, []), (4, 51, 0, 3, []), (7, 2, 1, 1, []), (8, 70, 68, 2, [6]), (11, 70, 161, 2, []), (14, 0, 1, 1, []), (15, 43, 22, 0, [])]
theorem mw_7_0 : ∀ e ∈ mt_7_0, mx_Ok mx_MT mq_7 e.1 e.2 := 
  mc_1 (mk_p (ms_gets (q := ("LeagueOffice", "SERVES", "[I", .ref 1001)) (idx := 70) (w := 1025) (host := (some "LeagueOffice")) rfl ml_f_LeagueOffice_Book_70 (by decide +kernel)) rfl) <|
  mc_1 (mk_p (ms_aload_n (k := 0) (by decide +kernel) rfl) rfl) <|
  mc_1 (mk_p (ms_get (idx := 23) (w := 142) (host := none) mx_c0 (by decide) ml_f_LeagueOffice_Book_23 (by decide +kernel)) rfl) <|
  mc_1 (mk_p (ms_iload_n (k := 1) (by decide +kernel) rfl) rfl) <|
  mc_1 (mk_c (k := mq_68) rfl ⟨mo_68, 58, 766, none, ml_m_LeagueOffice_Book_58, Or.inr (Or.inr (Or.inl ⟨6, TX6, 2, by decide, rfl, rfl, (by decide +kernel), ⟨1, rfl, by decide +kernel⟩, ml_in_591, ml_se_592⟩))⟩) <|
  mc_1 (mk_c (k := mq_161) rfl ⟨mo_161, 66, 871, (some "LeagueOffice"), ml_m_LeagueOffice_Book_66, Or.inl ⟨rfl, (by decide +kernel), by decide +kernel, ml_st_786⟩⟩) <|
  mc_1 (mk_p (ms_iconst (n := 1) (by decide +kernel) (by decide +kernel)) rfl) <|
  mc_1 (mk_p (ms_icmp_ne (off := (7)) (by decide +kernel) (by decide)) rfl) <| mc_0
def mt_7_1 : List (Nat × mx_I) := [(18, 0, 1, 1, []), (19, 48, 23, 0, []), (22, 0, 0, 1, []), (23, 80, 2, 0, [])]
theorem mw_7_1 : ∀ e ∈ mt_7_1, mx_Ok mx_MT mq_7 e.1 e.2 := 
  mc_1 (mk_p (ms_iconst (n := 1) (by decide +kernel) (by decide +kernel)) rfl) <|
  mc_1 (mk_p (ms_goto (off := (4)) (by decide +kernel) (by decide)) rfl) <|
  mc_1 (mk_p (ms_iconst (n := 0) (by decide +kernel) (by decide +kernel)) rfl) <|
  mc_1 (mk_r (Or.inl ⟨rfl, by decide +kernel, _, rfl, mf_2⟩) rfl) <| mc_0
def mt_7 : List (List (Nat × mx_I)) := [mt_7_0, mt_7_1]
theorem mw_7 : ∀ ch ∈ mt_7, ∀ e ∈ ch, mx_Ok mx_MT mq_7 e.1 e.2 := mc_2 mw_7_0 <| mc_2 mw_7_1 <| mc_3
/- 8 LeagueOffice$Book.isLate(I)I -/
def mt_8_0 : List (Nat × mx_I) := [(0, 4, 0, 1, []), (1, 51, 0, 3, []), (4, 2, 1, 1, []), (5, 70, 68, 2, [6]), (8, 0, 2, 1, []), (9, 70, 162, 2, []), (12, 36, 19, 0, []), (15, 0, 1, 1, [])]
theorem mw_8_0 : ∀ e ∈ mt_8_0, mx_Ok mx_MT mq_8 e.1 e.2 := 
  mc_1 (mk_p (ms_aload_n (k := 0) (by decide +kernel) rfl) rfl) <|
  mc_1 (mk_p (ms_get (idx := 23) (w := 142) (host := none) mx_c0 (by decide) ml_f_LeagueOffice_Book_23 (by decide +kernel)) rfl) <|
  mc_1 (mk_p (ms_iload_n (k := 1) (by decide +kernel) rfl) rfl) <|
  mc_1 (mk_c (k := mq_68) rfl ⟨mo_68, 58, 766, none, ml_m_LeagueOffice_Book_58, Or.inr (Or.inr (Or.inl ⟨6, TX6, 2, by decide, rfl, rfl, (by decide +kernel), ⟨1, rfl, by decide +kernel⟩, ml_in_591, ml_se_592⟩))⟩) <|
  mc_1 (mk_p (ms_iconst (n := 2) (by decide +kernel) (by decide +kernel)) rfl) <|
  mc_1 (mk_c (k := mq_162) rfl ⟨mo_162, 73, 889, (some "LeagueOffice"), ml_m_LeagueOffice_Book_73, Or.inl ⟨rfl, (by decide +kernel), by decide +kernel, ml_st_890⟩⟩) <|
  mc_1 (mk_p (ms_if_eq (off := (7)) (by decide +kernel) (by decide)) rfl) <|
  mc_1 (mk_p (ms_iconst (n := 1) (by decide +kernel) (by decide +kernel)) rfl) <| mc_0
def mt_8_1 : List (Nat × mx_I) := [(16, 48, 20, 0, []), (19, 0, 0, 1, []), (20, 80, 0, 0, [])]
theorem mw_8_1 : ∀ e ∈ mt_8_1, mx_Ok mx_MT mq_8 e.1 e.2 := 
  mc_1 (mk_p (ms_goto (off := (4)) (by decide +kernel) (by decide)) rfl) <|
  mc_1 (mk_p (ms_iconst (n := 0) (by decide +kernel) (by decide +kernel)) rfl) <|
  mc_1 (mk_r (Or.inl ⟨rfl, by decide +kernel, _, rfl, mf_0⟩) rfl) <| mc_0
def mt_8 : List (List (Nat × mx_I)) := [mt_8_0, mt_8_1]
theorem mw_8 : ∀ ch ∈ mt_8, ∀ e ∈ ch, mx_Ok mx_MT mq_8 e.1 e.2 := mc_2 mw_8_0 <| mc_2 mw_8_1 <| mc_3
/- 9 LeagueOffice$Book.addGame(IIII)I -/
def mt_9_0 : List (Nat × mx_I) := [(0, 4, 0, 1, []), (1, 51, 0, 3, []), (4, 70, 65, 1, [6]), (7, 5, 5, 2, []), (9, 4, 0, 1, []), (10, 51, 0, 7, []), (13, 70, 65, 1, [6])]
theorem mw_9_0 : ∀ e ∈ mt_9_0, mx_Ok mx_MT mq_9 e.1 e.2 := 
  mc_1 (mk_p (ms_aload_n (k := 0) (by decide +kernel) rfl) rfl) <|
  mc_1 (mk_p (ms_get (idx := 23) (w := 142) (host := none) mx_c0 (by decide) ml_f_LeagueOffice_Book_23 (by decide +kernel)) rfl) <|
  mc_1 (mk_c (k := mq_65) rfl ⟨mo_65, 77, 765, none, ml_m_LeagueOffice_Book_77, Or.inr (Or.inr (Or.inl ⟨6, TX6, 2, by decide, rfl, rfl, (by decide +kernel), ⟨0, rfl, by decide +kernel⟩, ml_in_587, ml_se_588⟩))⟩) <|
  mc_1 (mk_p (ms_istore (by decide +kernel) (by decide)) rfl) <|
  mc_1 (mk_p (ms_aload_n (k := 0) (by decide +kernel) rfl) rfl) <|
  mc_1 (mk_p (ms_get (idx := 35) (w := 169) (host := none) mx_c0 (by decide) ml_f_LeagueOffice_Book_35 (by decide +kernel)) rfl) <|
  mc_1 (mk_c (k := mq_65) rfl ⟨mo_65, 77, 765, none, ml_m_LeagueOffice_Book_77, Or.inr (Or.inr (Or.inl ⟨6, TX6, 2, by decide, rfl, rfl, (by decide +kernel), ⟨0, rfl, by decide +kernel⟩, ml_in_587, ml_se_588⟩))⟩) <| mc_0
def mt_9_1 : List (Nat × mx_I) := [(16, 5, 6, 2, []), (18, 0, 0, 1, []), (19, 5, 7, 2, []), (21, 2, 7, 2, []), (23, 4, 0, 1, []), (24, 51, 0, 7, []), (27, 70, 65, 1, [6]), (30, 45, 76, 0, [])]
theorem mw_9_1 : ∀ e ∈ mt_9_1, mx_Ok mx_MT mq_9 e.1 e.2 := 
  mc_1 (mk_p (ms_istore (by decide +kernel) (by decide)) rfl) <|
  mc_1 (mk_p (ms_iconst (n := 0) (by decide +kernel) (by decide +kernel)) rfl) <|
  mc_1 (mk_p (ms_istore (by decide +kernel) (by decide)) rfl) <|
  mc_1 (mk_p (ms_iload (by decide +kernel)) rfl) <|
  mc_1 (mk_p (ms_aload_n (k := 0) (by decide +kernel) rfl) rfl) <|
  mc_1 (mk_p (ms_get (idx := 35) (w := 169) (host := none) mx_c0 (by decide) ml_f_LeagueOffice_Book_35 (by decide +kernel)) rfl) <|
  mc_1 (mk_c (k := mq_65) rfl ⟨mo_65, 77, 765, none, ml_m_LeagueOffice_Book_77, Or.inr (Or.inr (Or.inl ⟨6, TX6, 2, by decide, rfl, rfl, (by decide +kernel), ⟨0, rfl, by decide +kernel⟩, ml_in_587, ml_se_588⟩))⟩) <|
  mc_1 (mk_p (ms_icmp_ge (off := (46)) (by decide +kernel) (by decide)) rfl) <| mc_0
def mt_9_2 : List (Nat × mx_I) := [(33, 2, 6, 2, []), (35, 4, 0, 1, []), (36, 51, 0, 7, []), (39, 70, 65, 1, [6]), (42, 43, 76, 0, []), (45, 4, 0, 1, []), (46, 51, 0, 6, [])]
theorem mw_9_2 : ∀ e ∈ mt_9_2, mx_Ok mx_MT mq_9 e.1 e.2 := 
  mc_1 (mk_p (ms_iload (by decide +kernel)) rfl) <|
  mc_1 (mk_p (ms_aload_n (k := 0) (by decide +kernel) rfl) rfl) <|
  mc_1 (mk_p (ms_get (idx := 35) (w := 169) (host := none) mx_c0 (by decide) ml_f_LeagueOffice_Book_35 (by decide +kernel)) rfl) <|
  mc_1 (mk_c (k := mq_65) rfl ⟨mo_65, 77, 765, none, ml_m_LeagueOffice_Book_77, Or.inr (Or.inr (Or.inl ⟨6, TX6, 2, by decide, rfl, rfl, (by decide +kernel), ⟨0, rfl, by decide +kernel⟩, ml_in_587, ml_se_588⟩))⟩) <|
  mc_1 (mk_p (ms_icmp_ne (off := (34)) (by decide +kernel) (by decide)) rfl) <|
  mc_1 (mk_p (ms_aload_n (k := 0) (by decide +kernel) rfl) rfl) <|
  mc_1 (mk_p (ms_get (idx := 32) (w := 163) (host := none) mx_c0 (by decide) ml_f_LeagueOffice_Book_32 (by decide +kernel)) rfl) <| mc_0
def mt_9_3 : List (Nat × mx_I) := [(49, 4, 0, 1, []), (50, 51, 0, 7, []), (53, 2, 7, 2, []), (55, 70, 68, 2, [6]), (58, 70, 68, 2, [6]), (61, 2, 4, 2, []), (63, 47, 70, 0, [])]
theorem mw_9_3 : ∀ e ∈ mt_9_3, mx_Ok mx_MT mq_9 e.1 e.2 := 
  mc_1 (mk_p (ms_aload_n (k := 0) (by decide +kernel) rfl) rfl) <|
  mc_1 (mk_p (ms_get (idx := 35) (w := 169) (host := none) mx_c0 (by decide) ml_f_LeagueOffice_Book_35 (by decide +kernel)) rfl) <|
  mc_1 (mk_p (ms_iload (by decide +kernel)) rfl) <|
  mc_1 (mk_c (k := mq_68) rfl ⟨mo_68, 58, 766, none, ml_m_LeagueOffice_Book_58, Or.inr (Or.inr (Or.inl ⟨6, TX6, 2, by decide, rfl, rfl, (by decide +kernel), ⟨1, rfl, by decide +kernel⟩, ml_in_591, ml_se_592⟩))⟩) <|
  mc_1 (mk_c (k := mq_68) rfl ⟨mo_68, 58, 766, none, ml_m_LeagueOffice_Book_58, Or.inr (Or.inr (Or.inl ⟨6, TX6, 2, by decide, rfl, rfl, (by decide +kernel), ⟨1, rfl, by decide +kernel⟩, ml_in_591, ml_se_592⟩))⟩) <|
  mc_1 (mk_p (ms_iload (by decide +kernel)) rfl) <|
  mc_1 (mk_p (ms_icmp_le (off := (7)) (by decide +kernel) (by decide)) rfl) <| mc_0
def mt_9_4 : List (Nat × mx_I) := [(66, 2, 7, 2, []), (68, 5, 6, 2, []), (70, 8, 7, 1, []), (73, 48, 21, 0, []), (76, 4, 0, 1, []), (77, 51, 0, 7, [])]
theorem mw_9_4 : ∀ e ∈ mt_9_4, mx_Ok mx_MT mq_9 e.1 e.2 := 
  mc_1 (mk_p (ms_iload (by decide +kernel)) rfl) <|
  mc_1 (mk_p (ms_istore (by decide +kernel) (by decide)) rfl) <|
  mc_1 (mk_p (ms_iinc (n := (1)) (by decide +kernel) (by decide +kernel) (by decide)) rfl) <|
  mc_1 (mk_p (ms_goto (off := (-52)) (by decide +kernel) (by decide)) rfl) <|
  mc_1 (mk_p (ms_aload_n (k := 0) (by decide +kernel) rfl) rfl) <|
  mc_1 (mk_p (ms_get (idx := 35) (w := 169) (host := none) mx_c0 (by decide) ml_f_LeagueOffice_Book_35 (by decide +kernel)) rfl) <| mc_0
def mt_9_5 : List (Nat × mx_I) := [(80, 2, 6, 2, []), (82, 2, 5, 2, []), (84, 70, 73, 3, [6]), (87, 4, 0, 1, []), (88, 51, 0, 4, []), (91, 2, 2, 1, []), (92, 70, 71, 2, [6]), (95, 34, 0, 0, [])]
theorem mw_9_5 : ∀ e ∈ mt_9_5, mx_Ok mx_MT mq_9 e.1 e.2 := 
  mc_1 (mk_p (ms_iload (by decide +kernel)) rfl) <|
  mc_1 (mk_p (ms_iload (by decide +kernel)) rfl) <|
  mc_1 (mk_c (k := mq_73) rfl ⟨mo_73, 81, 767, none, ml_m_LeagueOffice_Book_81, Or.inr (Or.inr (Or.inl ⟨6, TX6, 2, by decide, rfl, rfl, (by decide +kernel), ⟨2, rfl, by decide +kernel⟩, ml_in_768, ml_se_769⟩))⟩) <|
  mc_1 (mk_p (ms_aload_n (k := 0) (by decide +kernel) rfl) rfl) <|
  mc_1 (mk_p (ms_get (idx := 26) (w := 149) (host := none) mx_c0 (by decide) ml_f_LeagueOffice_Book_26 (by decide +kernel)) rfl) <|
  mc_1 (mk_p (ms_iload_n (k := 2) (by decide +kernel) rfl) rfl) <|
  mc_1 (mk_c (k := mq_71) rfl ⟨mo_71, 85, 774, none, ml_m_LeagueOffice_Book_85, Or.inr (Or.inr (Or.inl ⟨6, TX6, 2, by decide, rfl, rfl, (by decide +kernel), ⟨1, rfl, by decide +kernel⟩, ml_in_567, ml_se_568⟩))⟩) <|
  mc_1 (mk_p (ms_pop (by decide +kernel)) rfl) <| mc_0
def mt_9_6 : List (Nat × mx_I) := [(96, 4, 0, 1, []), (97, 51, 0, 5, []), (100, 2, 3, 1, []), (101, 70, 71, 2, [6]), (104, 34, 0, 0, []), (105, 4, 0, 1, []), (106, 51, 0, 6, []), (109, 2, 4, 2, []), (111, 70, 71, 2, [6])]
theorem mw_9_6 : ∀ e ∈ mt_9_6, mx_Ok mx_MT mq_9 e.1 e.2 := 
  mc_1 (mk_p (ms_aload_n (k := 0) (by decide +kernel) rfl) rfl) <|
  mc_1 (mk_p (ms_get (idx := 29) (w := 156) (host := none) mx_c0 (by decide) ml_f_LeagueOffice_Book_29 (by decide +kernel)) rfl) <|
  mc_1 (mk_p (ms_iload_n (k := 3) (by decide +kernel) rfl) rfl) <|
  mc_1 (mk_c (k := mq_71) rfl ⟨mo_71, 85, 774, none, ml_m_LeagueOffice_Book_85, Or.inr (Or.inr (Or.inl ⟨6, TX6, 2, by decide, rfl, rfl, (by decide +kernel), ⟨1, rfl, by decide +kernel⟩, ml_in_567, ml_se_568⟩))⟩) <|
  mc_1 (mk_p (ms_pop (by decide +kernel)) rfl) <|
  mc_1 (mk_p (ms_aload_n (k := 0) (by decide +kernel) rfl) rfl) <|
  mc_1 (mk_p (ms_get (idx := 32) (w := 163) (host := none) mx_c0 (by decide) ml_f_LeagueOffice_Book_32 (by decide +kernel)) rfl) <|
  mc_1 (mk_p (ms_iload (by decide +kernel)) rfl) <|
  mc_1 (mk_c (k := mq_71) rfl ⟨mo_71, 85, 774, none, ml_m_LeagueOffice_Book_85, Or.inr (Or.inr (Or.inl ⟨6, TX6, 2, by decide, rfl, rfl, (by decide +kernel), ⟨1, rfl, by decide +kernel⟩, ml_in_567, ml_se_568⟩))⟩) <| mc_0
def mt_9_7 : List (Nat × mx_I) := [(114, 34, 0, 0, []), (115, 4, 0, 1, []), (116, 51, 0, 3, []), (119, 2, 1, 1, []), (120, 70, 71, 2, [6]), (123, 0, 1, 1, []), (124, 10, 0, 0, []), (125, 80, 0, 0, [])]
theorem mw_9_7 : ∀ e ∈ mt_9_7, mx_Ok mx_MT mq_9 e.1 e.2 := 
  mc_1 (mk_p (ms_pop (by decide +kernel)) rfl) <|
  mc_1 (mk_p (ms_aload_n (k := 0) (by decide +kernel) rfl) rfl) <|
  mc_1 (mk_p (ms_get (idx := 23) (w := 142) (host := none) mx_c0 (by decide) ml_f_LeagueOffice_Book_23 (by decide +kernel)) rfl) <|
  mc_1 (mk_p (ms_iload_n (k := 1) (by decide +kernel) rfl) rfl) <|
  mc_1 (mk_c (k := mq_71) rfl ⟨mo_71, 85, 774, none, ml_m_LeagueOffice_Book_85, Or.inr (Or.inr (Or.inl ⟨6, TX6, 2, by decide, rfl, rfl, (by decide +kernel), ⟨1, rfl, by decide +kernel⟩, ml_in_567, ml_se_568⟩))⟩) <|
  mc_1 (mk_p (ms_iconst (n := 1) (by decide +kernel) (by decide +kernel)) rfl) <|
  mc_1 (mk_p (ms_isub (by decide +kernel)) rfl) <|
  mc_1 (mk_r (Or.inl ⟨rfl, by decide +kernel, _, rfl, mf_0⟩) rfl) <| mc_0
def mt_9 : List (List (Nat × mx_I)) := [mt_9_0, mt_9_1, mt_9_2, mt_9_3, mt_9_4, mt_9_5, mt_9_6, mt_9_7]
theorem mw_9 : ∀ ch ∈ mt_9, ∀ e ∈ ch, mx_Ok mx_MT mq_9 e.1 e.2 := mc_2 mw_9_0 <| mc_2 mw_9_1 <| mc_2 mw_9_2 <| mc_2 mw_9_3 <| mc_2 mw_9_4 <| mc_2 mw_9_5 <| mc_2 mw_9_6 <| mc_2 mw_9_7 <| mc_3
/- 10 LeagueOffice$Book.addResult(III)I -/
def mt_10_0 : List (Nat × mx_I) := [(0, 4, 0, 1, []), (1, 51, 0, 9, []), (4, 0, 100, 2, []), (6, 2, 2, 1, []), (7, 11, 0, 0, []), (8, 2, 3, 1, []), (9, 9, 0, 0, []), (10, 70, 71, 2, [6]), (13, 34, 0, 0, []), (14, 4, 0, 1, []), (15, 51, 0, 10, [])]
theorem mw_10_0 : ∀ e ∈ mt_10_0, mx_Ok mx_MT mq_10 e.1 e.2 := 
  mc_1 (mk_p (ms_aload_n (k := 0) (by decide +kernel) rfl) rfl) <|
  mc_1 (mk_p (ms_get (idx := 41) (w := 174) (host := none) mx_c0 (by decide) ml_f_LeagueOffice_Book_41 (by decide +kernel)) rfl) <|
  mc_1 (mk_p (ms_bipush (n := 100) (by decide +kernel) (by decide +kernel)) rfl) <|
  mc_1 (mk_p (ms_iload_n (k := 2) (by decide +kernel) rfl) rfl) <|
  mc_1 (mk_p (ms_imul (by decide +kernel)) rfl) <|
  mc_1 (mk_p (ms_iload_n (k := 3) (by decide +kernel) rfl) rfl) <|
  mc_1 (mk_p (ms_iadd (by decide +kernel)) rfl) <|
  mc_1 (mk_c (k := mq_71) rfl ⟨mo_71, 85, 774, none, ml_m_LeagueOffice_Book_85, Or.inr (Or.inr (Or.inl ⟨6, TX6, 2, by decide, rfl, rfl, (by decide +kernel), ⟨1, rfl, by decide +kernel⟩, ml_in_567, ml_se_568⟩))⟩) <|
  mc_1 (mk_p (ms_pop (by decide +kernel)) rfl) <|
  mc_1 (mk_p (ms_aload_n (k := 0) (by decide +kernel) rfl) rfl) <|
  mc_1 (mk_p (ms_get (idx := 44) (w := 175) (host := none) mx_c0 (by decide) ml_f_LeagueOffice_Book_44 (by decide +kernel)) rfl) <| mc_0
def mt_10_1 : List (Nat × mx_I) := [(18, 4, 0, 1, []), (19, 51, 0, 0, []), (22, 70, 71, 2, [6]), (25, 34, 0, 0, []), (26, 4, 0, 1, []), (27, 51, 0, 8, []), (30, 2, 1, 1, []), (31, 70, 71, 2, [6])]
theorem mw_10_1 : ∀ e ∈ mt_10_1, mx_Ok mx_MT mq_10 e.1 e.2 := 
  mc_1 (mk_p (ms_aload_n (k := 0) (by decide +kernel) rfl) rfl) <|
  mc_1 (mk_p (ms_get (idx := 54) (w := 133) (host := none) mx_c0 (by decide) ml_f_LeagueOffice_Book_54 (by decide +kernel)) rfl) <|
  mc_1 (mk_c (k := mq_71) rfl ⟨mo_71, 85, 774, none, ml_m_LeagueOffice_Book_85, Or.inr (Or.inr (Or.inl ⟨6, TX6, 2, by decide, rfl, rfl, (by decide +kernel), ⟨1, rfl, by decide +kernel⟩, ml_in_567, ml_se_568⟩))⟩) <|
  mc_1 (mk_p (ms_pop (by decide +kernel)) rfl) <|
  mc_1 (mk_p (ms_aload_n (k := 0) (by decide +kernel) rfl) rfl) <|
  mc_1 (mk_p (ms_get (idx := 38) (w := 172) (host := none) mx_c0 (by decide) ml_f_LeagueOffice_Book_38 (by decide +kernel)) rfl) <|
  mc_1 (mk_p (ms_iload_n (k := 1) (by decide +kernel) rfl) rfl) <|
  mc_1 (mk_c (k := mq_71) rfl ⟨mo_71, 85, 774, none, ml_m_LeagueOffice_Book_85, Or.inr (Or.inr (Or.inl ⟨6, TX6, 2, by decide, rfl, rfl, (by decide +kernel), ⟨1, rfl, by decide +kernel⟩, ml_in_567, ml_se_568⟩))⟩) <| mc_0
def mt_10_2 : List (Nat × mx_I) := [(34, 80, 0, 0, [])]
theorem mw_10_2 : ∀ e ∈ mt_10_2, mx_Ok mx_MT mq_10 e.1 e.2 := 
  mc_1 (mk_r (Or.inl ⟨rfl, by decide +kernel, _, rfl, mf_0⟩) rfl) <| mc_0
def mt_10 : List (List (Nat × mx_I)) := [mt_10_0, mt_10_1, mt_10_2]
theorem mw_10 : ∀ ch ∈ mt_10, ∀ e ∈ ch, mx_Ok mx_MT mq_10 e.1 e.2 := mc_2 mw_10_0 <| mc_2 mw_10_1 <| mc_2 mw_10_2 <| mc_3
/- 11 LeagueOffice$Book.learn(I)V -/
def mt_11_0 : List (Nat × mx_I) := [(0, 0, 0, 1, []), (1, 5, 2, 1, []), (2, 2, 2, 1, []), (3, 4, 0, 1, []), (4, 51, 0, 3, []), (7, 70, 65, 1, [6]), (10, 45, 46, 0, []), (13, 4, 0, 1, []), (14, 51, 0, 11, [])]
theorem mw_11_0 : ∀ e ∈ mt_11_0, mx_Ok mx_MT mq_11 e.1 e.2 := 
  mc_1 (mk_p (ms_iconst (n := 0) (by decide +kernel) (by decide +kernel)) rfl) <|
  mc_1 (mk_p (ms_istore_n (k := 2) (by decide +kernel) rfl (by decide)) rfl) <|
  mc_1 (mk_p (ms_iload_n (k := 2) (by decide +kernel) rfl) rfl) <|
  mc_1 (mk_p (ms_aload_n (k := 0) (by decide +kernel) rfl) rfl) <|
  mc_1 (mk_p (ms_get (idx := 23) (w := 142) (host := none) mx_c0 (by decide) ml_f_LeagueOffice_Book_23 (by decide +kernel)) rfl) <|
  mc_1 (mk_c (k := mq_65) rfl ⟨mo_65, 77, 765, none, ml_m_LeagueOffice_Book_77, Or.inr (Or.inr (Or.inl ⟨6, TX6, 2, by decide, rfl, rfl, (by decide +kernel), ⟨0, rfl, by decide +kernel⟩, ml_in_587, ml_se_588⟩))⟩) <|
  mc_1 (mk_p (ms_icmp_ge (off := (36)) (by decide +kernel) (by decide)) rfl) <|
  mc_1 (mk_p (ms_aload_n (k := 0) (by decide +kernel) rfl) rfl) <|
  mc_1 (mk_p (ms_get (idx := 47) (w := 176) (host := none) mx_c0 (by decide) ml_f_LeagueOffice_Book_47 (by decide +kernel)) rfl) <| mc_0
def mt_11_1 : List (Nat × mx_I) := [(17, 2, 2, 1, []), (18, 4, 0, 1, []), (19, 51, 0, 3, []), (22, 2, 2, 1, []), (23, 70, 68, 2, [6]), (26, 0, 3, 1, []), (27, 43, 36, 0, []), (30, 0, 300, 3, [])]
theorem mw_11_1 : ∀ e ∈ mt_11_1, mx_Ok mx_MT mq_11 e.1 e.2 := 
  mc_1 (mk_p (ms_iload_n (k := 2) (by decide +kernel) rfl) rfl) <|
  mc_1 (mk_p (ms_aload_n (k := 0) (by decide +kernel) rfl) rfl) <|
  mc_1 (mk_p (ms_get (idx := 23) (w := 142) (host := none) mx_c0 (by decide) ml_f_LeagueOffice_Book_23 (by decide +kernel)) rfl) <|
  mc_1 (mk_p (ms_iload_n (k := 2) (by decide +kernel) rfl) rfl) <|
  mc_1 (mk_c (k := mq_68) rfl ⟨mo_68, 58, 766, none, ml_m_LeagueOffice_Book_58, Or.inr (Or.inr (Or.inl ⟨6, TX6, 2, by decide, rfl, rfl, (by decide +kernel), ⟨1, rfl, by decide +kernel⟩, ml_in_591, ml_se_592⟩))⟩) <|
  mc_1 (mk_p (ms_iconst (n := 3) (by decide +kernel) (by decide +kernel)) rfl) <|
  mc_1 (mk_p (ms_icmp_ne (off := (9)) (by decide +kernel) (by decide)) rfl) <|
  mc_1 (mk_p (ms_sipush (n := 300) (by decide +kernel) (by decide +kernel)) rfl) <| mc_0
def mt_11_2 : List (Nat × mx_I) := [(33, 48, 37, 0, []), (36, 0, 4294967295, 1, []), (37, 70, 69, 3, [6]), (40, 8, 2, 1, []), (43, 48, 2, 0, []), (46, 0, 0, 1, []), (47, 5, 2, 1, [])]
theorem mw_11_2 : ∀ e ∈ mt_11_2, mx_Ok mx_MT mq_11 e.1 e.2 := 
  mc_1 (mk_p (ms_goto (off := (4)) (by decide +kernel) (by decide)) rfl) <|
  mc_1 (mk_p (ms_iconst (n := (-1)) (by decide +kernel) (by decide +kernel)) rfl) <|
  mc_1 (mk_c (k := mq_69) rfl ⟨mo_69, 88, 818, none, ml_m_LeagueOffice_Book_88, Or.inr (Or.inr (Or.inl ⟨6, TX6, 2, by decide, rfl, rfl, (by decide +kernel), ⟨2, rfl, by decide +kernel⟩, ml_in_665, ml_se_666⟩))⟩) <|
  mc_1 (mk_p (ms_iinc (n := (1)) (by decide +kernel) (by decide +kernel) (by decide)) rfl) <|
  mc_1 (mk_p (ms_goto (off := (-41)) (by decide +kernel) (by decide)) rfl) <|
  mc_1 (mk_p (ms_iconst (n := 0) (by decide +kernel) (by decide +kernel)) rfl) <|
  mc_1 (mk_p (ms_istore_n (k := 2) (by decide +kernel) rfl (by decide)) rfl) <| mc_0
def mt_11_3 : List (Nat × mx_I) := [(48, 2, 2, 1, []), (49, 4, 0, 1, []), (50, 51, 0, 8, []), (53, 70, 65, 1, [6]), (56, 45, 100, 0, []), (59, 4, 0, 1, []), (60, 51, 0, 10, []), (63, 2, 2, 1, [])]
theorem mw_11_3 : ∀ e ∈ mt_11_3, mx_Ok mx_MT mq_11 e.1 e.2 := 
  mc_1 (mk_p (ms_iload_n (k := 2) (by decide +kernel) rfl) rfl) <|
  mc_1 (mk_p (ms_aload_n (k := 0) (by decide +kernel) rfl) rfl) <|
  mc_1 (mk_p (ms_get (idx := 38) (w := 172) (host := none) mx_c0 (by decide) ml_f_LeagueOffice_Book_38 (by decide +kernel)) rfl) <|
  mc_1 (mk_c (k := mq_65) rfl ⟨mo_65, 77, 765, none, ml_m_LeagueOffice_Book_77, Or.inr (Or.inr (Or.inl ⟨6, TX6, 2, by decide, rfl, rfl, (by decide +kernel), ⟨0, rfl, by decide +kernel⟩, ml_in_587, ml_se_588⟩))⟩) <|
  mc_1 (mk_p (ms_icmp_ge (off := (44)) (by decide +kernel) (by decide)) rfl) <|
  mc_1 (mk_p (ms_aload_n (k := 0) (by decide +kernel) rfl) rfl) <|
  mc_1 (mk_p (ms_get (idx := 44) (w := 175) (host := none) mx_c0 (by decide) ml_f_LeagueOffice_Book_44 (by decide +kernel)) rfl) <|
  mc_1 (mk_p (ms_iload_n (k := 2) (by decide +kernel) rfl) rfl) <| mc_0
def mt_11_4 : List (Nat × mx_I) := [(64, 70, 68, 2, [6]), (67, 2, 1, 1, []), (68, 46, 94, 0, []), (71, 4, 0, 1, []), (72, 51, 0, 11, []), (75, 4, 0, 1, []), (76, 51, 0, 8, []), (79, 2, 2, 1, [])]
theorem mw_11_4 : ∀ e ∈ mt_11_4, mx_Ok mx_MT mq_11 e.1 e.2 := 
  mc_1 (mk_c (k := mq_68) rfl ⟨mo_68, 58, 766, none, ml_m_LeagueOffice_Book_58, Or.inr (Or.inr (Or.inl ⟨6, TX6, 2, by decide, rfl, rfl, (by decide +kernel), ⟨1, rfl, by decide +kernel⟩, ml_in_591, ml_se_592⟩))⟩) <|
  mc_1 (mk_p (ms_iload_n (k := 1) (by decide +kernel) rfl) rfl) <|
  mc_1 (mk_p (ms_icmp_gt (off := (26)) (by decide +kernel) (by decide)) rfl) <|
  mc_1 (mk_p (ms_aload_n (k := 0) (by decide +kernel) rfl) rfl) <|
  mc_1 (mk_p (ms_get (idx := 47) (w := 176) (host := none) mx_c0 (by decide) ml_f_LeagueOffice_Book_47 (by decide +kernel)) rfl) <|
  mc_1 (mk_p (ms_aload_n (k := 0) (by decide +kernel) rfl) rfl) <|
  mc_1 (mk_p (ms_get (idx := 38) (w := 172) (host := none) mx_c0 (by decide) ml_f_LeagueOffice_Book_38 (by decide +kernel)) rfl) <|
  mc_1 (mk_p (ms_iload_n (k := 2) (by decide +kernel) rfl) rfl) <| mc_0
def mt_11_5 : List (Nat × mx_I) := [(80, 70, 68, 2, [6]), (83, 4, 0, 1, []), (84, 51, 0, 9, []), (87, 2, 2, 1, []), (88, 70, 68, 2, [6]), (91, 70, 69, 3, [6]), (94, 8, 2, 1, [])]
theorem mw_11_5 : ∀ e ∈ mt_11_5, mx_Ok mx_MT mq_11 e.1 e.2 := 
  mc_1 (mk_c (k := mq_68) rfl ⟨mo_68, 58, 766, none, ml_m_LeagueOffice_Book_58, Or.inr (Or.inr (Or.inl ⟨6, TX6, 2, by decide, rfl, rfl, (by decide +kernel), ⟨1, rfl, by decide +kernel⟩, ml_in_591, ml_se_592⟩))⟩) <|
  mc_1 (mk_p (ms_aload_n (k := 0) (by decide +kernel) rfl) rfl) <|
  mc_1 (mk_p (ms_get (idx := 41) (w := 174) (host := none) mx_c0 (by decide) ml_f_LeagueOffice_Book_41 (by decide +kernel)) rfl) <|
  mc_1 (mk_p (ms_iload_n (k := 2) (by decide +kernel) rfl) rfl) <|
  mc_1 (mk_c (k := mq_68) rfl ⟨mo_68, 58, 766, none, ml_m_LeagueOffice_Book_58, Or.inr (Or.inr (Or.inl ⟨6, TX6, 2, by decide, rfl, rfl, (by decide +kernel), ⟨1, rfl, by decide +kernel⟩, ml_in_591, ml_se_592⟩))⟩) <|
  mc_1 (mk_c (k := mq_69) rfl ⟨mo_69, 88, 818, none, ml_m_LeagueOffice_Book_88, Or.inr (Or.inr (Or.inl ⟨6, TX6, 2, by decide, rfl, rfl, (by decide +kernel), ⟨2, rfl, by decide +kernel⟩, ml_in_665, ml_se_666⟩))⟩) <|
  mc_1 (mk_p (ms_iinc (n := (1)) (by decide +kernel) (by decide +kernel) (by decide)) rfl) <| mc_0
def mt_11_6 : List (Nat × mx_I) := [(97, 48, 48, 0, []), (100, 83, 0, 0, [])]
theorem mw_11_6 : ∀ e ∈ mt_11_6, mx_Ok mx_MT mq_11 e.1 e.2 := 
  mc_1 (mk_p (ms_goto (off := (-49)) (by decide +kernel) (by decide)) rfl) <|
  mc_1 (mk_r (Or.inr (Or.inr (Or.inr ⟨rfl, by decide +kernel, rfl⟩))) rfl) <| mc_0
def mt_11 : List (List (Nat × mx_I)) := [mt_11_0, mt_11_1, mt_11_2, mt_11_3, mt_11_4, mt_11_5, mt_11_6]
theorem mw_11 : ∀ ch ∈ mt_11, ∀ e ∈ ch, mx_Ok mx_MT mq_11 e.1 e.2 := mc_2 mw_11_0 <| mc_2 mw_11_1 <| mc_2 mw_11_2 <| mc_2 mw_11_3 <| mc_2 mw_11_4 <| mc_2 mw_11_5 <| mc_2 mw_11_6 <| mc_3
/- 12 LeagueOffice$Chances.<init>(LLeagueOffice$Book;LLeagueOffice$Texts;LLeagueOffice$Tables;)V -/
def mt_12_0 : List (Nat × mx_I) := [(0, 4, 0, 1, []), (1, 63, 0, 0, []), (4, 4, 0, 1, []), (5, 61, 6, 0, []), (8, 33, 0, 0, []), (9, 0, 60, 2, []), (11, 70, 64, 2, [98]), (14, 54, 1, 3, [])]
theorem mw_12_0 : ∀ e ∈ mt_12_0, mx_Ok mx_MT mq_12 e.1 e.2 := 
  mc_1 (mk_p (ms_aload_n (k := 0) (by decide +kernel) rfl) rfl) <|
  mc_1 (mk_p (ms_obj (idx := 3) 417 103 104 (by decide +kernel) (by decide +kernel) (by decide +kernel) (by decide +kernel)) rfl) <|
  mc_1 (mk_p (ms_aload_n (k := 0) (by decide +kernel) rfl) rfl) <|
  mc_1 (mk_p (mn_6 (idx := 9) 418 (by decide +kernel) (by decide +kernel)) rfl) <|
  mc_1 (mk_p (ms_dup (by decide +kernel)) rfl) <|
  mc_1 (mk_p (ms_bipush (n := 60) (by decide +kernel) (by decide +kernel)) rfl) <|
  mc_1 (mk_c (k := mq_64) rfl ⟨mo_64, 11, 419, none, ml_m_LeagueOffice_Chances_11, Or.inr (Or.inl ⟨rfl, (by decide +kernel), ⟨1, rfl, by decide +kernel⟩, ml_in_114, rfl, rfl⟩)⟩) <|
  mc_1 (mk_p (ms_putF (idx := 14) (w := 423) mx_c1 (by decide) ml_f_LeagueOffice_Chances_14 rfl rfl rfl rfl (by decide +kernel)) rfl) <| mc_0
def mt_12_1 : List (Nat × mx_I) := [(17, 4, 0, 1, []), (18, 61, 6, 0, []), (21, 33, 0, 0, []), (22, 0, 6, 2, []), (24, 70, 64, 2, [98]), (27, 54, 1, 4, []), (30, 4, 0, 1, []), (31, 61, 6, 0, [])]
theorem mw_12_1 : ∀ e ∈ mt_12_1, mx_Ok mx_MT mq_12 e.1 e.2 := 
  mc_1 (mk_p (ms_aload_n (k := 0) (by decide +kernel) rfl) rfl) <|
  mc_1 (mk_p (mn_6 (idx := 9) 418 (by decide +kernel) (by decide +kernel)) rfl) <|
  mc_1 (mk_p (ms_dup (by decide +kernel)) rfl) <|
  mc_1 (mk_p (ms_bipush (n := 6) (by decide +kernel) (by decide +kernel)) rfl) <|
  mc_1 (mk_c (k := mq_64) rfl ⟨mo_64, 11, 419, none, ml_m_LeagueOffice_Chances_11, Or.inr (Or.inl ⟨rfl, (by decide +kernel), ⟨1, rfl, by decide +kernel⟩, ml_in_114, rfl, rfl⟩)⟩) <|
  mc_1 (mk_p (ms_putF (idx := 20) (w := 424) mx_c1 (by decide) ml_f_LeagueOffice_Chances_20 rfl rfl rfl rfl (by decide +kernel)) rfl) <|
  mc_1 (mk_p (ms_aload_n (k := 0) (by decide +kernel) rfl) rfl) <|
  mc_1 (mk_p (mn_6 (idx := 9) 418 (by decide +kernel) (by decide +kernel)) rfl) <| mc_0
def mt_12_2 : List (Nat × mx_I) := [(34, 33, 0, 0, []), (35, 0, 6, 2, []), (37, 70, 64, 2, [98]), (40, 54, 1, 5, []), (43, 4, 0, 1, []), (44, 61, 6, 0, []), (47, 33, 0, 0, [])]
theorem mw_12_2 : ∀ e ∈ mt_12_2, mx_Ok mx_MT mq_12 e.1 e.2 := 
  mc_1 (mk_p (ms_dup (by decide +kernel)) rfl) <|
  mc_1 (mk_p (ms_bipush (n := 6) (by decide +kernel) (by decide +kernel)) rfl) <|
  mc_1 (mk_c (k := mq_64) rfl ⟨mo_64, 11, 419, none, ml_m_LeagueOffice_Chances_11, Or.inr (Or.inl ⟨rfl, (by decide +kernel), ⟨1, rfl, by decide +kernel⟩, ml_in_114, rfl, rfl⟩)⟩) <|
  mc_1 (mk_p (ms_putF (idx := 23) (w := 425) mx_c1 (by decide) ml_f_LeagueOffice_Chances_23 rfl rfl rfl rfl (by decide +kernel)) rfl) <|
  mc_1 (mk_p (ms_aload_n (k := 0) (by decide +kernel) rfl) rfl) <|
  mc_1 (mk_p (mn_6 (idx := 9) 418 (by decide +kernel) (by decide +kernel)) rfl) <|
  mc_1 (mk_p (ms_dup (by decide +kernel)) rfl) <| mc_0
def mt_12_3 : List (Nat × mx_I) := [(48, 0, 6, 2, []), (50, 70, 64, 2, [98]), (53, 54, 1, 6, []), (56, 4, 0, 1, []), (57, 61, 6, 0, []), (60, 33, 0, 0, []), (61, 0, 729, 3, [])]
theorem mw_12_3 : ∀ e ∈ mt_12_3, mx_Ok mx_MT mq_12 e.1 e.2 := 
  mc_1 (mk_p (ms_bipush (n := 6) (by decide +kernel) (by decide +kernel)) rfl) <|
  mc_1 (mk_c (k := mq_64) rfl ⟨mo_64, 11, 419, none, ml_m_LeagueOffice_Chances_11, Or.inr (Or.inl ⟨rfl, (by decide +kernel), ⟨1, rfl, by decide +kernel⟩, ml_in_114, rfl, rfl⟩)⟩) <|
  mc_1 (mk_p (ms_putF (idx := 26) (w := 426) mx_c1 (by decide) ml_f_LeagueOffice_Chances_26 rfl rfl rfl rfl (by decide +kernel)) rfl) <|
  mc_1 (mk_p (ms_aload_n (k := 0) (by decide +kernel) rfl) rfl) <|
  mc_1 (mk_p (mn_6 (idx := 9) 418 (by decide +kernel) (by decide +kernel)) rfl) <|
  mc_1 (mk_p (ms_dup (by decide +kernel)) rfl) <|
  mc_1 (mk_p (ms_sipush (n := 729) (by decide +kernel) (by decide +kernel)) rfl) <| mc_0
def mt_12_4 : List (Nat × mx_I) := [(64, 70, 64, 2, [98]), (67, 54, 1, 7, []), (70, 4, 0, 1, []), (71, 0, 729, 3, []), (74, 62, 3, 0, []), (76, 54, 1, 8, []), (79, 4, 0, 1, [])]
theorem mw_12_4 : ∀ e ∈ mt_12_4, mx_Ok mx_MT mq_12 e.1 e.2 := 
  mc_1 (mk_c (k := mq_64) rfl ⟨mo_64, 11, 419, none, ml_m_LeagueOffice_Chances_11, Or.inr (Or.inl ⟨rfl, (by decide +kernel), ⟨1, rfl, by decide +kernel⟩, ml_in_114, rfl, rfl⟩)⟩) <|
  mc_1 (mk_p (ms_putF (idx := 29) (w := 427) mx_c1 (by decide) ml_f_LeagueOffice_Chances_29 rfl rfl rfl rfl (by decide +kernel)) rfl) <|
  mc_1 (mk_p (ms_aload_n (k := 0) (by decide +kernel) rfl) rfl) <|
  mc_1 (mk_p (ms_sipush (n := 729) (by decide +kernel) (by decide +kernel)) rfl) <|
  mc_1 (mk_p (ms_newa (at' := .long) 320 (by decide) rfl (by decide +kernel) (by decide) (by decide +kernel)) rfl) <|
  mc_1 (mk_p (ms_putF (idx := 32) (w := 428) mx_c1 (by decide) ml_f_LeagueOffice_Chances_32 rfl rfl rfl rfl (by decide +kernel)) rfl) <|
  mc_1 (mk_p (ms_aload_n (k := 0) (by decide +kernel) rfl) rfl) <| mc_0
def mt_12_5 : List (Nat × mx_I) := [(80, 4, 1, 1, []), (81, 54, 1, 0, []), (84, 4, 0, 1, []), (85, 4, 2, 1, []), (86, 54, 1, 1, []), (89, 4, 0, 1, []), (90, 4, 3, 1, []), (91, 54, 1, 2, []), (94, 83, 0, 0, [])]
theorem mw_12_5 : ∀ e ∈ mt_12_5, mx_Ok mx_MT mq_12 e.1 e.2 := 
  mc_1 (mk_p (ms_aload_n (k := 1) (by decide +kernel) rfl) rfl) <|
  mc_1 (mk_p (ms_putF (idx := 36) (w := 420) mx_c1 (by decide) ml_f_LeagueOffice_Chances_36 rfl rfl rfl rfl (by decide +kernel)) rfl) <|
  mc_1 (mk_p (ms_aload_n (k := 0) (by decide +kernel) rfl) rfl) <|
  mc_1 (mk_p (ms_aload_n (k := 2) (by decide +kernel) rfl) rfl) <|
  mc_1 (mk_p (ms_putF (idx := 40) (w := 421) mx_c1 (by decide) ml_f_LeagueOffice_Chances_40 rfl rfl rfl rfl (by decide +kernel)) rfl) <|
  mc_1 (mk_p (ms_aload_n (k := 0) (by decide +kernel) rfl) rfl) <|
  mc_1 (mk_p (ms_aload_n (k := 3) (by decide +kernel) rfl) rfl) <|
  mc_1 (mk_p (ms_putF (idx := 44) (w := 422) mx_c1 (by decide) ml_f_LeagueOffice_Chances_44 rfl rfl rfl rfl (by decide +kernel)) rfl) <|
  mc_1 (mk_r (Or.inr (Or.inr (Or.inr ⟨rfl, by decide +kernel, rfl⟩))) rfl) <| mc_0
def mt_12 : List (List (Nat × mx_I)) := [mt_12_0, mt_12_1, mt_12_2, mt_12_3, mt_12_4, mt_12_5]
theorem mw_12 : ∀ ch ∈ mt_12, ∀ e ∈ ch, mx_Ok mx_MT mq_12 e.1 e.2 := mc_2 mw_12_0 <| mc_2 mw_12_1 <| mc_2 mw_12_2 <| mc_2 mw_12_3 <| mc_2 mw_12_4 <| mc_2 mw_12_5 <| mc_3
/- 13 LeagueOffice$Chances.gather(I)I -/
def mt_13_0 : List (Nat × mx_I) := [(0, 4, 0, 1, []), (1, 51, 1, 0, []), (4, 4, 0, 1, []), (5, 51, 1, 0, []), (8, 51, 0, 0, []), (11, 70, 11, 2, [0]), (14, 4, 0, 1, []), (15, 51, 1, 3, [])]
theorem mw_13_0 : ∀ e ∈ mt_13_0, mx_Ok mx_MT mq_13 e.1 e.2 := 
  mc_1 (mk_p (ms_aload_n (k := 0) (by decide +kernel) rfl) rfl) <|
  mc_1 (mk_p (ms_get (idx := 36) (w := 420) (host := none) mx_c1 (by decide) ml_f_LeagueOffice_Chances_36 (by decide +kernel)) rfl) <|
  mc_1 (mk_p (ms_aload_n (k := 0) (by decide +kernel) rfl) rfl) <|
  mc_1 (mk_p (ms_get (idx := 36) (w := 420) (host := none) mx_c1 (by decide) ml_f_LeagueOffice_Chances_36 (by decide +kernel)) rfl) <|
  mc_1 (mk_p (ms_get (idx := 48) (w := 129) (host := (some "LeagueOffice")) mx_c0 (by decide) ml_f_LeagueOffice_Chances_48 (by decide +kernel)) rfl) <|
  mc_1 (mk_c (k := mq_11) rfl ⟨mo_11, 54, 1110, none, ml_m_LeagueOffice_Chances_54, Or.inr (Or.inr (Or.inl ⟨0, TX0, 12, by decide, rfl, rfl, (by decide +kernel), ⟨1, rfl, by decide +kernel⟩, ml_in_815, ml_se_816⟩))⟩) <|
  mc_1 (mk_p (ms_aload_n (k := 0) (by decide +kernel) rfl) rfl) <|
  mc_1 (mk_p (ms_get (idx := 14) (w := 423) (host := none) mx_c1 (by decide) ml_f_LeagueOffice_Chances_14 (by decide +kernel)) rfl) <| mc_0
def mt_13_1 : List (Nat × mx_I) := [(18, 70, 75, 1, [6]), (21, 0, 0, 1, []), (22, 5, 2, 1, []), (23, 2, 2, 1, []), (24, 4, 0, 1, []), (25, 51, 1, 0, []), (28, 51, 0, 3, []), (31, 70, 65, 1, [6])]
theorem mw_13_1 : ∀ e ∈ mt_13_1, mx_Ok mx_MT mq_13 e.1 e.2 := 
  mc_1 (mk_c (k := mq_75) rfl ⟨mo_75, 57, 1111, none, ml_m_LeagueOffice_Chances_57, Or.inr (Or.inr (Or.inl ⟨6, TX6, 2, by decide, rfl, rfl, (by decide +kernel), ⟨0, rfl, by decide +kernel⟩, ml_in_579, ml_se_580⟩))⟩) <|
  mc_1 (mk_p (ms_iconst (n := 0) (by decide +kernel) (by decide +kernel)) rfl) <|
  mc_1 (mk_p (ms_istore_n (k := 2) (by decide +kernel) rfl (by decide)) rfl) <|
  mc_1 (mk_p (ms_iload_n (k := 2) (by decide +kernel) rfl) rfl) <|
  mc_1 (mk_p (ms_aload_n (k := 0) (by decide +kernel) rfl) rfl) <|
  mc_1 (mk_p (ms_get (idx := 36) (w := 420) (host := none) mx_c1 (by decide) ml_f_LeagueOffice_Chances_36 (by decide +kernel)) rfl) <|
  mc_1 (mk_p (ms_get (idx := 60) (w := 143) (host := (some "LeagueOffice")) mx_c0 (by decide) ml_f_LeagueOffice_Chances_60 (by decide +kernel)) rfl) <|
  mc_1 (mk_c (k := mq_65) rfl ⟨mo_65, 63, 1112, none, ml_m_LeagueOffice_Chances_63, Or.inr (Or.inr (Or.inl ⟨6, TX6, 2, by decide, rfl, rfl, (by decide +kernel), ⟨0, rfl, by decide +kernel⟩, ml_in_587, ml_se_588⟩))⟩) <| mc_0
def mt_13_2 : List (Nat × mx_I) := [(34, 45, 131, 0, []), (37, 4, 0, 1, []), (38, 51, 1, 0, []), (41, 2, 1, 1, []), (42, 4, 0, 1, []), (43, 51, 1, 0, []), (46, 51, 0, 4, [])]
theorem mw_13_2 : ∀ e ∈ mt_13_2, mx_Ok mx_MT mq_13 e.1 e.2 := 
  mc_1 (mk_p (ms_icmp_ge (off := (97)) (by decide +kernel) (by decide)) rfl) <|
  mc_1 (mk_p (ms_aload_n (k := 0) (by decide +kernel) rfl) rfl) <|
  mc_1 (mk_p (ms_get (idx := 36) (w := 420) (host := none) mx_c1 (by decide) ml_f_LeagueOffice_Chances_36 (by decide +kernel)) rfl) <|
  mc_1 (mk_p (ms_iload_n (k := 1) (by decide +kernel) rfl) rfl) <|
  mc_1 (mk_p (ms_aload_n (k := 0) (by decide +kernel) rfl) rfl) <|
  mc_1 (mk_p (ms_get (idx := 36) (w := 420) (host := none) mx_c1 (by decide) ml_f_LeagueOffice_Chances_36 (by decide +kernel)) rfl) <|
  mc_1 (mk_p (ms_get (idx := 67) (w := 150) (host := (some "LeagueOffice")) mx_c0 (by decide) ml_f_LeagueOffice_Chances_67 (by decide +kernel)) rfl) <| mc_0
def mt_13_3 : List (Nat × mx_I) := [(49, 2, 2, 1, []), (50, 70, 68, 2, [6]), (53, 70, 4, 3, [0]), (56, 36, 85, 0, []), (59, 4, 0, 1, []), (60, 51, 1, 0, []), (63, 2, 1, 1, [])]
theorem mw_13_3 : ∀ e ∈ mt_13_3, mx_Ok mx_MT mq_13 e.1 e.2 := 
  mc_1 (mk_p (ms_iload_n (k := 2) (by decide +kernel) rfl) rfl) <|
  mc_1 (mk_c (k := mq_68) rfl ⟨mo_68, 70, 1113, none, ml_m_LeagueOffice_Chances_70, Or.inr (Or.inr (Or.inl ⟨6, TX6, 2, by decide, rfl, rfl, (by decide +kernel), ⟨1, rfl, by decide +kernel⟩, ml_in_591, ml_se_592⟩))⟩) <|
  mc_1 (mk_c (k := mq_4) rfl ⟨mo_4, 74, 1114, none, ml_m_LeagueOffice_Chances_74, Or.inr (Or.inr (Or.inl ⟨0, TX0, 12, by decide, rfl, rfl, (by decide +kernel), ⟨2, rfl, by decide +kernel⟩, ml_in_1115, ml_se_1116⟩))⟩) <|
  mc_1 (mk_p (ms_if_eq (off := (29)) (by decide +kernel) (by decide)) rfl) <|
  mc_1 (mk_p (ms_aload_n (k := 0) (by decide +kernel) rfl) rfl) <|
  mc_1 (mk_p (ms_get (idx := 36) (w := 420) (host := none) mx_c1 (by decide) ml_f_LeagueOffice_Chances_36 (by decide +kernel)) rfl) <|
  mc_1 (mk_p (ms_iload_n (k := 1) (by decide +kernel) rfl) rfl) <| mc_0
def mt_13_4 : List (Nat × mx_I) := [(64, 4, 0, 1, []), (65, 51, 1, 0, []), (68, 51, 0, 5, []), (71, 2, 2, 1, []), (72, 70, 68, 2, [6]), (75, 70, 4, 3, [0]), (78, 36, 85, 0, [])]
theorem mw_13_4 : ∀ e ∈ mt_13_4, mx_Ok mx_MT mq_13 e.1 e.2 := 
  mc_1 (mk_p (ms_aload_n (k := 0) (by decide +kernel) rfl) rfl) <|
  mc_1 (mk_p (ms_get (idx := 36) (w := 420) (host := none) mx_c1 (by decide) ml_f_LeagueOffice_Chances_36 (by decide +kernel)) rfl) <|
  mc_1 (mk_p (ms_get (idx := 78) (w := 157) (host := (some "LeagueOffice")) mx_c0 (by decide) ml_f_LeagueOffice_Chances_78 (by decide +kernel)) rfl) <|
  mc_1 (mk_p (ms_iload_n (k := 2) (by decide +kernel) rfl) rfl) <|
  mc_1 (mk_c (k := mq_68) rfl ⟨mo_68, 70, 1113, none, ml_m_LeagueOffice_Chances_70, Or.inr (Or.inr (Or.inl ⟨6, TX6, 2, by decide, rfl, rfl, (by decide +kernel), ⟨1, rfl, by decide +kernel⟩, ml_in_591, ml_se_592⟩))⟩) <|
  mc_1 (mk_c (k := mq_4) rfl ⟨mo_4, 74, 1114, none, ml_m_LeagueOffice_Chances_74, Or.inr (Or.inr (Or.inl ⟨0, TX0, 12, by decide, rfl, rfl, (by decide +kernel), ⟨2, rfl, by decide +kernel⟩, ml_in_1115, ml_se_1116⟩))⟩) <|
  mc_1 (mk_p (ms_if_eq (off := (7)) (by decide +kernel) (by decide)) rfl) <| mc_0
def mt_13_5 : List (Nat × mx_I) := [(81, 0, 1, 1, []), (82, 48, 86, 0, []), (85, 0, 0, 1, []), (86, 5, 3, 1, []), (87, 2, 3, 1, []), (88, 36, 125, 0, []), (91, 4, 0, 1, []), (92, 51, 1, 0, []), (95, 2, 2, 1, [])]
theorem mw_13_5 : ∀ e ∈ mt_13_5, mx_Ok mx_MT mq_13 e.1 e.2 := 
  mc_1 (mk_p (ms_iconst (n := 1) (by decide +kernel) (by decide +kernel)) rfl) <|
  mc_1 (mk_p (ms_goto (off := (4)) (by decide +kernel) (by decide)) rfl) <|
  mc_1 (mk_p (ms_iconst (n := 0) (by decide +kernel) (by decide +kernel)) rfl) <|
  mc_1 (mk_p (ms_istore_n (k := 3) (by decide +kernel) rfl (by decide)) rfl) <|
  mc_1 (mk_p (ms_iload_n (k := 3) (by decide +kernel) rfl) rfl) <|
  mc_1 (mk_p (ms_if_eq (off := (37)) (by decide +kernel) (by decide)) rfl) <|
  mc_1 (mk_p (ms_aload_n (k := 0) (by decide +kernel) rfl) rfl) <|
  mc_1 (mk_p (ms_get (idx := 36) (w := 420) (host := none) mx_c1 (by decide) ml_f_LeagueOffice_Chances_36 (by decide +kernel)) rfl) <|
  mc_1 (mk_p (ms_iload_n (k := 2) (by decide +kernel) rfl) rfl) <| mc_0
def mt_13_6 : List (Nat × mx_I) := [(96, 70, 6, 2, [0]), (99, 36, 125, 0, []), (102, 4, 0, 1, []), (103, 51, 1, 0, []), (106, 51, 0, 11, []), (109, 2, 2, 1, []), (110, 70, 68, 2, [6])]
theorem mw_13_6 : ∀ e ∈ mt_13_6, mx_Ok mx_MT mq_13 e.1 e.2 := 
  mc_1 (mk_c (k := mq_6) rfl ⟨mo_6, 81, 1118, none, ml_m_LeagueOffice_Chances_81, Or.inr (Or.inr (Or.inl ⟨0, TX0, 12, by decide, rfl, rfl, (by decide +kernel), ⟨1, rfl, by decide +kernel⟩, ml_in_867, ml_se_868⟩))⟩) <|
  mc_1 (mk_p (ms_if_eq (off := (26)) (by decide +kernel) (by decide)) rfl) <|
  mc_1 (mk_p (ms_aload_n (k := 0) (by decide +kernel) rfl) rfl) <|
  mc_1 (mk_p (ms_get (idx := 36) (w := 420) (host := none) mx_c1 (by decide) ml_f_LeagueOffice_Chances_36 (by decide +kernel)) rfl) <|
  mc_1 (mk_p (ms_get (idx := 85) (w := 178) (host := (some "LeagueOffice")) mx_c0 (by decide) ml_f_LeagueOffice_Chances_85 (by decide +kernel)) rfl) <|
  mc_1 (mk_p (ms_iload_n (k := 2) (by decide +kernel) rfl) rfl) <|
  mc_1 (mk_c (k := mq_68) rfl ⟨mo_68, 70, 1113, none, ml_m_LeagueOffice_Chances_70, Or.inr (Or.inr (Or.inl ⟨6, TX6, 2, by decide, rfl, rfl, (by decide +kernel), ⟨1, rfl, by decide +kernel⟩, ml_in_591, ml_se_592⟩))⟩) <| mc_0
def mt_13_7 : List (Nat × mx_I) := [(113, 39, 125, 0, []), (116, 4, 0, 1, []), (117, 51, 1, 3, []), (120, 2, 2, 1, []), (121, 70, 71, 2, [6]), (124, 34, 0, 0, []), (125, 8, 2, 1, [])]
theorem mw_13_7 : ∀ e ∈ mt_13_7, mx_Ok mx_MT mq_13 e.1 e.2 := 
  mc_1 (mk_p (ms_if_ge (off := (12)) (by decide +kernel) (by decide)) rfl) <|
  mc_1 (mk_p (ms_aload_n (k := 0) (by decide +kernel) rfl) rfl) <|
  mc_1 (mk_p (ms_get (idx := 14) (w := 423) (host := none) mx_c1 (by decide) ml_f_LeagueOffice_Chances_14 (by decide +kernel)) rfl) <|
  mc_1 (mk_p (ms_iload_n (k := 2) (by decide +kernel) rfl) rfl) <|
  mc_1 (mk_c (k := mq_71) rfl ⟨mo_71, 88, 1119, none, ml_m_LeagueOffice_Chances_88, Or.inr (Or.inr (Or.inl ⟨6, TX6, 2, by decide, rfl, rfl, (by decide +kernel), ⟨1, rfl, by decide +kernel⟩, ml_in_567, ml_se_568⟩))⟩) <|
  mc_1 (mk_p (ms_pop (by decide +kernel)) rfl) <|
  mc_1 (mk_p (ms_iinc (n := (1)) (by decide +kernel) (by decide +kernel) (by decide)) rfl) <| mc_0
def mt_13_8 : List (Nat × mx_I) := [(128, 48, 23, 0, []), (131, 4, 0, 1, []), (132, 51, 1, 3, []), (135, 70, 65, 1, [6]), (138, 80, 0, 0, [])]
theorem mw_13_8 : ∀ e ∈ mt_13_8, mx_Ok mx_MT mq_13 e.1 e.2 := 
  mc_1 (mk_p (ms_goto (off := (-105)) (by decide +kernel) (by decide)) rfl) <|
  mc_1 (mk_p (ms_aload_n (k := 0) (by decide +kernel) rfl) rfl) <|
  mc_1 (mk_p (ms_get (idx := 14) (w := 423) (host := none) mx_c1 (by decide) ml_f_LeagueOffice_Chances_14 (by decide +kernel)) rfl) <|
  mc_1 (mk_c (k := mq_65) rfl ⟨mo_65, 63, 1112, none, ml_m_LeagueOffice_Chances_63, Or.inr (Or.inr (Or.inl ⟨6, TX6, 2, by decide, rfl, rfl, (by decide +kernel), ⟨0, rfl, by decide +kernel⟩, ml_in_587, ml_se_588⟩))⟩) <|
  mc_1 (mk_r (Or.inl ⟨rfl, by decide +kernel, _, rfl, mf_0⟩) rfl) <| mc_0
def mt_13 : List (List (Nat × mx_I)) := [mt_13_0, mt_13_1, mt_13_2, mt_13_3, mt_13_4, mt_13_5, mt_13_6, mt_13_7, mt_13_8]
theorem mw_13 : ∀ ch ∈ mt_13, ∀ e ∈ ch, mx_Ok mx_MT mq_13 e.1 e.2 := mc_2 mw_13_0 <| mc_2 mw_13_1 <| mc_2 mw_13_2 <| mc_2 mw_13_3 <| mc_2 mw_13_4 <| mc_2 mw_13_5 <| mc_2 mw_13_6 <| mc_2 mw_13_7 <| mc_2 mw_13_8 <| mc_3
/- 14 LeagueOffice$Chances.tryAll(I)Z -/
def mt_14_0 : List (Nat × mx_I) := [(0, 4, 0, 1, []), (1, 4, 0, 1, []), (2, 51, 1, 0, []), (5, 51, 0, 1, []), (8, 2, 1, 1, []), (9, 70, 68, 2, [6]), (12, 70, 13, 2, [1]), (15, 0, 6, 2, [])]
theorem mw_14_0 : ∀ e ∈ mt_14_0, mx_Ok mx_MT mq_14 e.1 e.2 := 
  mc_1 (mk_p (ms_aload_n (k := 0) (by decide +kernel) rfl) rfl) <|
  mc_1 (mk_p (ms_aload_n (k := 0) (by decide +kernel) rfl) rfl) <|
  mc_1 (mk_p (ms_get (idx := 36) (w := 420) (host := none) mx_c1 (by decide) ml_f_LeagueOffice_Chances_36 (by decide +kernel)) rfl) <|
  mc_1 (mk_p (ms_get (idx := 91) (w := 136) (host := (some "LeagueOffice")) mx_c0 (by decide) ml_f_LeagueOffice_Chances_91 (by decide +kernel)) rfl) <|
  mc_1 (mk_p (ms_iload_n (k := 1) (by decide +kernel) rfl) rfl) <|
  mc_1 (mk_c (k := mq_68) rfl ⟨mo_68, 70, 1113, none, ml_m_LeagueOffice_Chances_70, Or.inr (Or.inr (Or.inl ⟨6, TX6, 2, by decide, rfl, rfl, (by decide +kernel), ⟨1, rfl, by decide +kernel⟩, ml_in_591, ml_se_592⟩))⟩) <|
  mc_1 (mk_c (k := mq_13) rfl ⟨mo_13, 94, 1128, none, ml_m_LeagueOffice_Chances_94, Or.inr (Or.inr (Or.inl ⟨1, TX1, 10, by decide, rfl, rfl, (by decide +kernel), ⟨1, rfl, by decide +kernel⟩, ml_in_1107, ml_se_1108⟩))⟩) <|
  mc_1 (mk_p (ms_bipush (n := 6) (by decide +kernel) (by decide +kernel)) rfl) <| mc_0
def mt_14_1 : List (Nat × mx_I) := [(17, 47, 22, 0, []), (20, 0, 0, 1, []), (21, 80, 2, 0, []), (22, 4, 0, 1, []), (23, 51, 1, 2, []), (26, 4, 0, 1, []), (27, 51, 1, 0, []), (30, 51, 0, 0, [])]
theorem mw_14_1 : ∀ e ∈ mt_14_1, mx_Ok mx_MT mq_14 e.1 e.2 := 
  mc_1 (mk_p (ms_icmp_le (off := (5)) (by decide +kernel) (by decide)) rfl) <|
  mc_1 (mk_p (ms_iconst (n := 0) (by decide +kernel) (by decide +kernel)) rfl) <|
  mc_1 (mk_r (Or.inl ⟨rfl, by decide +kernel, _, rfl, mf_2⟩) rfl) <|
  mc_1 (mk_p (ms_aload_n (k := 0) (by decide +kernel) rfl) rfl) <|
  mc_1 (mk_p (ms_get (idx := 44) (w := 422) (host := none) mx_c1 (by decide) ml_f_LeagueOffice_Chances_44 (by decide +kernel)) rfl) <|
  mc_1 (mk_p (ms_aload_n (k := 0) (by decide +kernel) rfl) rfl) <|
  mc_1 (mk_p (ms_get (idx := 36) (w := 420) (host := none) mx_c1 (by decide) ml_f_LeagueOffice_Chances_36 (by decide +kernel)) rfl) <|
  mc_1 (mk_p (ms_get (idx := 48) (w := 129) (host := (some "LeagueOffice")) mx_c0 (by decide) ml_f_LeagueOffice_Chances_48 (by decide +kernel)) rfl) <| mc_0
def mt_14_2 : List (Nat × mx_I) := [(33, 70, 98, 2, [9]), (36, 4, 0, 1, []), (37, 51, 1, 2, []), (40, 2, 1, 1, []), (41, 70, 102, 2, [9]), (44, 6, 2, 1, []), (45, 4, 0, 1, []), (46, 4, 0, 1, []), (47, 70, 15, 1, [1])]
theorem mw_14_2 : ∀ e ∈ mt_14_2, mx_Ok mx_MT mq_14 e.1 e.2 := 
  mc_1 (mk_c (k := mq_98) rfl ⟨mo_98, 97, 1129, none, ml_m_LeagueOffice_Chances_97, Or.inr (Or.inr (Or.inl ⟨9, TX9, 12, by decide, rfl, rfl, (by decide +kernel), ⟨1, rfl, by decide +kernel⟩, ml_in_850, ml_se_851⟩))⟩) <|
  mc_1 (mk_p (ms_aload_n (k := 0) (by decide +kernel) rfl) rfl) <|
  mc_1 (mk_p (ms_get (idx := 44) (w := 422) (host := none) mx_c1 (by decide) ml_f_LeagueOffice_Chances_44 (by decide +kernel)) rfl) <|
  mc_1 (mk_p (ms_iload_n (k := 1) (by decide +kernel) rfl) rfl) <|
  mc_1 (mk_c (k := mq_102) rfl ⟨mo_102, 102, 1130, none, ml_m_LeagueOffice_Chances_102, Or.inr (Or.inr (Or.inl ⟨9, TX9, 12, by decide, rfl, rfl, (by decide +kernel), ⟨1, rfl, by decide +kernel⟩, ml_in_917, ml_se_918⟩))⟩) <|
  mc_1 (mk_p (ms_lstore_n (k := 2) (by decide +kernel) rfl (by decide)) rfl) <|
  mc_1 (mk_p (ms_aload_n (k := 0) (by decide +kernel) rfl) rfl) <|
  mc_1 (mk_p (ms_aload_n (k := 0) (by decide +kernel) rfl) rfl) <|
  mc_1 (mk_c (k := mq_15) rfl ⟨mo_15, 106, 1131, none, ml_m_LeagueOffice_Chances_106, Or.inr (Or.inr (Or.inl ⟨1, TX1, 10, by decide, rfl, rfl, (by decide +kernel), ⟨0, rfl, by decide +kernel⟩, ml_in_1133, ml_se_21⟩))⟩) <| mc_0
def mt_14_3 : List (Nat × mx_I) := [(50, 53, 1, 9, []), (53, 0, 0, 1, []), (54, 5, 4, 2, []), (56, 2, 4, 2, []), (58, 4, 0, 1, []), (59, 51, 1, 9, []), (62, 45, 119, 0, [])]
theorem mw_14_3 : ∀ e ∈ mt_14_3, mx_Ok mx_MT mq_14 e.1 e.2 := 
  mc_1 (mk_p (ms_put (idx := 109) (w := 429) (host := none) mx_c1 (by decide) ml_f_LeagueOffice_Chances_109 rfl rfl (by decide +kernel)) rfl) <|
  mc_1 (mk_p (ms_iconst (n := 0) (by decide +kernel) (by decide +kernel)) rfl) <|
  mc_1 (mk_p (ms_istore (by decide +kernel) (by decide)) rfl) <|
  mc_1 (mk_p (ms_iload (by decide +kernel)) rfl) <|
  mc_1 (mk_p (ms_aload_n (k := 0) (by decide +kernel) rfl) rfl) <|
  mc_1 (mk_p (ms_get (idx := 109) (w := 429) (host := none) mx_c1 (by decide) ml_f_LeagueOffice_Chances_109 (by decide +kernel)) rfl) <|
  mc_1 (mk_p (ms_icmp_ge (off := (57)) (by decide +kernel) (by decide)) rfl) <| mc_0
def mt_14_4 : List (Nat × mx_I) := [(65, 2, 4, 2, []), (67, 4, 0, 1, []), (68, 51, 1, 8, []), (71, 57, 0, 0, []), (72, 45, 119, 0, []), (75, 4, 0, 1, []), (76, 51, 1, 7, []), (79, 2, 4, 2, [])]
theorem mw_14_4 : ∀ e ∈ mt_14_4, mx_Ok mx_MT mq_14 e.1 e.2 := 
  mc_1 (mk_p (ms_iload (by decide +kernel)) rfl) <|
  mc_1 (mk_p (ms_aload_n (k := 0) (by decide +kernel) rfl) rfl) <|
  mc_1 (mk_p (ms_get (idx := 32) (w := 428) (host := none) mx_c1 (by decide) ml_f_LeagueOffice_Chances_32 (by decide +kernel)) rfl) <|
  mc_1 (mk_p (ms_alen (by decide +kernel)) rfl) <|
  mc_1 (mk_p (ms_icmp_ge (off := (47)) (by decide +kernel) (by decide)) rfl) <|
  mc_1 (mk_p (ms_aload_n (k := 0) (by decide +kernel) rfl) rfl) <|
  mc_1 (mk_p (ms_get (idx := 29) (w := 427) (host := none) mx_c1 (by decide) ml_f_LeagueOffice_Chances_29 (by decide +kernel)) rfl) <|
  mc_1 (mk_p (ms_iload (by decide +kernel)) rfl) <| mc_0
def mt_14_5 : List (Nat × mx_I) := [(81, 4, 0, 1, []), (82, 51, 1, 2, []), (85, 2, 1, 1, []), (86, 70, 104, 2, [9]), (89, 70, 69, 3, [6]), (92, 4, 0, 1, []), (93, 51, 1, 8, [])]
theorem mw_14_5 : ∀ e ∈ mt_14_5, mx_Ok mx_MT mq_14 e.1 e.2 := 
  mc_1 (mk_p (ms_aload_n (k := 0) (by decide +kernel) rfl) rfl) <|
  mc_1 (mk_p (ms_get (idx := 44) (w := 422) (host := none) mx_c1 (by decide) ml_f_LeagueOffice_Chances_44 (by decide +kernel)) rfl) <|
  mc_1 (mk_p (ms_iload_n (k := 1) (by decide +kernel) rfl) rfl) <|
  mc_1 (mk_c (k := mq_104) rfl ⟨mo_104, 112, 1152, none, ml_m_LeagueOffice_Chances_112, Or.inr (Or.inr (Or.inl ⟨9, TX9, 12, by decide, rfl, rfl, (by decide +kernel), ⟨1, rfl, by decide +kernel⟩, ml_in_941, ml_se_942⟩))⟩) <|
  mc_1 (mk_c (k := mq_69) rfl ⟨mo_69, 115, 1137, none, ml_m_LeagueOffice_Chances_115, Or.inr (Or.inr (Or.inl ⟨6, TX6, 2, by decide, rfl, rfl, (by decide +kernel), ⟨2, rfl, by decide +kernel⟩, ml_in_665, ml_se_666⟩))⟩) <|
  mc_1 (mk_p (ms_aload_n (k := 0) (by decide +kernel) rfl) rfl) <|
  mc_1 (mk_p (ms_get (idx := 32) (w := 428) (host := none) mx_c1 (by decide) ml_f_LeagueOffice_Chances_32 (by decide +kernel)) rfl) <| mc_0
def mt_14_6 : List (Nat × mx_I) := [(96, 2, 4, 2, []), (98, 4, 0, 1, []), (99, 51, 1, 2, []), (102, 2, 1, 1, []), (103, 70, 102, 2, [9]), (106, 3, 2, 1, []), (107, 20, 0, 0, []), (108, 60, 0, 0, []), (109, 4, 0, 1, []), (110, 70, 16, 1, [1])]
theorem mw_14_6 : ∀ e ∈ mt_14_6, mx_Ok mx_MT mq_14 e.1 e.2 := 
  mc_1 (mk_p (ms_iload (by decide +kernel)) rfl) <|
  mc_1 (mk_p (ms_aload_n (k := 0) (by decide +kernel) rfl) rfl) <|
  mc_1 (mk_p (ms_get (idx := 44) (w := 422) (host := none) mx_c1 (by decide) ml_f_LeagueOffice_Chances_44 (by decide +kernel)) rfl) <|
  mc_1 (mk_p (ms_iload_n (k := 1) (by decide +kernel) rfl) rfl) <|
  mc_1 (mk_c (k := mq_102) rfl ⟨mo_102, 102, 1130, none, ml_m_LeagueOffice_Chances_102, Or.inr (Or.inr (Or.inl ⟨9, TX9, 12, by decide, rfl, rfl, (by decide +kernel), ⟨1, rfl, by decide +kernel⟩, ml_in_917, ml_se_918⟩))⟩) <|
  mc_1 (mk_p (ms_lload_n (k := 2) (by decide +kernel) rfl) rfl) <|
  mc_1 (mk_p (ms_lsub (by decide +kernel)) rfl) <|
  mc_1 (mk_p (ms_last (by decide +kernel)) rfl) <|
  mc_1 (mk_p (ms_aload_n (k := 0) (by decide +kernel) rfl) rfl) <|
  mc_1 (mk_c (k := mq_16) rfl ⟨mo_16, 119, 1153, none, ml_m_LeagueOffice_Chances_119, Or.inr (Or.inr (Or.inl ⟨1, TX1, 10, by decide, rfl, rfl, (by decide +kernel), ⟨0, rfl, by decide +kernel⟩, ml_in_1155, ml_se_25⟩))⟩) <| mc_0
def mt_14_7 : List (Nat × mx_I) := [(113, 8, 4, 1, []), (116, 48, 56, 0, []), (119, 0, 1, 1, []), (120, 80, 2, 0, [])]
theorem mw_14_7 : ∀ e ∈ mt_14_7, mx_Ok mx_MT mq_14 e.1 e.2 := 
  mc_1 (mk_p (ms_iinc (n := (1)) (by decide +kernel) (by decide +kernel) (by decide)) rfl) <|
  mc_1 (mk_p (ms_goto (off := (-60)) (by decide +kernel) (by decide)) rfl) <|
  mc_1 (mk_p (ms_iconst (n := 1) (by decide +kernel) (by decide +kernel)) rfl) <|
  mc_1 (mk_r (Or.inl ⟨rfl, by decide +kernel, _, rfl, mf_2⟩) rfl) <| mc_0
def mt_14 : List (List (Nat × mx_I)) := [mt_14_0, mt_14_1, mt_14_2, mt_14_3, mt_14_4, mt_14_5, mt_14_6, mt_14_7]
theorem mw_14 : ∀ ch ∈ mt_14, ∀ e ∈ ch, mx_Ok mx_MT mq_14 e.1 e.2 := mc_2 mw_14_0 <| mc_2 mw_14_1 <| mc_2 mw_14_2 <| mc_2 mw_14_3 <| mc_2 mw_14_4 <| mc_2 mw_14_5 <| mc_2 mw_14_6 <| mc_2 mw_14_7 <| mc_3
/- 15 LeagueOffice$Chances.enterFirst()I -/
def mt_15_0 : List (Nat × mx_I) := [(0, 0, 1, 1, []), (1, 5, 1, 1, []), (2, 0, 0, 1, []), (3, 5, 2, 1, []), (4, 2, 2, 1, []), (5, 4, 0, 1, []), (6, 51, 1, 3, []), (9, 70, 65, 1, [6]), (12, 45, 135, 0, []), (15, 4, 0, 1, [])]
theorem mw_15_0 : ∀ e ∈ mt_15_0, mx_Ok mx_MT mq_15 e.1 e.2 := 
  mc_1 (mk_p (ms_iconst (n := 1) (by decide +kernel) (by decide +kernel)) rfl) <|
  mc_1 (mk_p (ms_istore_n (k := 1) (by decide +kernel) rfl (by decide)) rfl) <|
  mc_1 (mk_p (ms_iconst (n := 0) (by decide +kernel) (by decide +kernel)) rfl) <|
  mc_1 (mk_p (ms_istore_n (k := 2) (by decide +kernel) rfl (by decide)) rfl) <|
  mc_1 (mk_p (ms_iload_n (k := 2) (by decide +kernel) rfl) rfl) <|
  mc_1 (mk_p (ms_aload_n (k := 0) (by decide +kernel) rfl) rfl) <|
  mc_1 (mk_p (ms_get (idx := 14) (w := 423) (host := none) mx_c1 (by decide) ml_f_LeagueOffice_Chances_14 (by decide +kernel)) rfl) <|
  mc_1 (mk_c (k := mq_65) rfl ⟨mo_65, 63, 1112, none, ml_m_LeagueOffice_Chances_63, Or.inr (Or.inr (Or.inl ⟨6, TX6, 2, by decide, rfl, rfl, (by decide +kernel), ⟨0, rfl, by decide +kernel⟩, ml_in_587, ml_se_588⟩))⟩) <|
  mc_1 (mk_p (ms_icmp_ge (off := (123)) (by decide +kernel) (by decide)) rfl) <|
  mc_1 (mk_p (ms_aload_n (k := 0) (by decide +kernel) rfl) rfl) <| mc_0
def mt_15_1 : List (Nat × mx_I) := [(16, 51, 1, 3, []), (19, 2, 2, 1, []), (20, 70, 68, 2, [6]), (23, 5, 3, 1, []), (24, 4, 0, 1, []), (25, 51, 1, 0, []), (28, 51, 0, 6, []), (31, 2, 3, 1, [])]
theorem mw_15_1 : ∀ e ∈ mt_15_1, mx_Ok mx_MT mq_15 e.1 e.2 := 
  mc_1 (mk_p (ms_get (idx := 14) (w := 423) (host := none) mx_c1 (by decide) ml_f_LeagueOffice_Chances_14 (by decide +kernel)) rfl) <|
  mc_1 (mk_p (ms_iload_n (k := 2) (by decide +kernel) rfl) rfl) <|
  mc_1 (mk_c (k := mq_68) rfl ⟨mo_68, 70, 1113, none, ml_m_LeagueOffice_Chances_70, Or.inr (Or.inr (Or.inl ⟨6, TX6, 2, by decide, rfl, rfl, (by decide +kernel), ⟨1, rfl, by decide +kernel⟩, ml_in_591, ml_se_592⟩))⟩) <|
  mc_1 (mk_p (ms_istore_n (k := 3) (by decide +kernel) rfl (by decide)) rfl) <|
  mc_1 (mk_p (ms_aload_n (k := 0) (by decide +kernel) rfl) rfl) <|
  mc_1 (mk_p (ms_get (idx := 36) (w := 420) (host := none) mx_c1 (by decide) ml_f_LeagueOffice_Chances_36 (by decide +kernel)) rfl) <|
  mc_1 (mk_p (ms_get (idx := 122) (w := 165) (host := (some "LeagueOffice")) mx_c0 (by decide) ml_f_LeagueOffice_Chances_122 (by decide +kernel)) rfl) <|
  mc_1 (mk_p (ms_iload_n (k := 3) (by decide +kernel) rfl) rfl) <| mc_0
def mt_15_2 : List (Nat × mx_I) := [(32, 70, 68, 2, [6]), (35, 5, 4, 2, []), (37, 4, 0, 1, []), (38, 51, 1, 0, []), (41, 51, 0, 3, []), (44, 2, 3, 1, []), (45, 70, 68, 2, [6])]
theorem mw_15_2 : ∀ e ∈ mt_15_2, mx_Ok mx_MT mq_15 e.1 e.2 := 
  mc_1 (mk_c (k := mq_68) rfl ⟨mo_68, 70, 1113, none, ml_m_LeagueOffice_Chances_70, Or.inr (Or.inr (Or.inl ⟨6, TX6, 2, by decide, rfl, rfl, (by decide +kernel), ⟨1, rfl, by decide +kernel⟩, ml_in_591, ml_se_592⟩))⟩) <|
  mc_1 (mk_p (ms_istore (by decide +kernel) (by decide)) rfl) <|
  mc_1 (mk_p (ms_aload_n (k := 0) (by decide +kernel) rfl) rfl) <|
  mc_1 (mk_p (ms_get (idx := 36) (w := 420) (host := none) mx_c1 (by decide) ml_f_LeagueOffice_Chances_36 (by decide +kernel)) rfl) <|
  mc_1 (mk_p (ms_get (idx := 60) (w := 143) (host := (some "LeagueOffice")) mx_c0 (by decide) ml_f_LeagueOffice_Chances_60 (by decide +kernel)) rfl) <|
  mc_1 (mk_p (ms_iload_n (k := 3) (by decide +kernel) rfl) rfl) <|
  mc_1 (mk_c (k := mq_68) rfl ⟨mo_68, 70, 1113, none, ml_m_LeagueOffice_Chances_70, Or.inr (Or.inr (Or.inl ⟨6, TX6, 2, by decide, rfl, rfl, (by decide +kernel), ⟨1, rfl, by decide +kernel⟩, ml_in_591, ml_se_592⟩))⟩) <| mc_0
def mt_15_3 : List (Nat × mx_I) := [(48, 5, 5, 2, []), (50, 4, 0, 1, []), (51, 51, 1, 4, []), (54, 2, 2, 1, []), (55, 4, 0, 1, []), (56, 51, 1, 1, []), (59, 0, 0, 1, []), (60, 2, 4, 2, []), (62, 0, 1, 1, []), (63, 0, 1, 1, [])]
theorem mw_15_3 : ∀ e ∈ mt_15_3, mx_Ok mx_MT mq_15 e.1 e.2 := 
  mc_1 (mk_p (ms_istore (by decide +kernel) (by decide)) rfl) <|
  mc_1 (mk_p (ms_aload_n (k := 0) (by decide +kernel) rfl) rfl) <|
  mc_1 (mk_p (ms_get (idx := 20) (w := 424) (host := none) mx_c1 (by decide) ml_f_LeagueOffice_Chances_20 (by decide +kernel)) rfl) <|
  mc_1 (mk_p (ms_iload_n (k := 2) (by decide +kernel) rfl) rfl) <|
  mc_1 (mk_p (ms_aload_n (k := 0) (by decide +kernel) rfl) rfl) <|
  mc_1 (mk_p (ms_get (idx := 40) (w := 421) (host := none) mx_c1 (by decide) ml_f_LeagueOffice_Chances_40 (by decide +kernel)) rfl) <|
  mc_1 (mk_p (ms_iconst (n := 0) (by decide +kernel) (by decide +kernel)) rfl) <|
  mc_1 (mk_p (ms_iload (by decide +kernel)) rfl) <|
  mc_1 (mk_p (ms_iconst (n := 1) (by decide +kernel) (by decide +kernel)) rfl) <|
  mc_1 (mk_p (ms_iconst (n := 1) (by decide +kernel) (by decide +kernel)) rfl) <| mc_0
def mt_15_4 : List (Nat × mx_I) := [(64, 2, 5, 2, []), (66, 4, 0, 1, []), (67, 51, 1, 0, []), (70, 2, 3, 1, []), (71, 70, 8, 2, [0]), (74, 70, 113, 7, [10]), (77, 70, 69, 3, [6])]
theorem mw_15_4 : ∀ e ∈ mt_15_4, mx_Ok mx_MT mq_15 e.1 e.2 := 
  mc_1 (mk_p (ms_iload (by decide +kernel)) rfl) <|
  mc_1 (mk_p (ms_aload_n (k := 0) (by decide +kernel) rfl) rfl) <|
  mc_1 (mk_p (ms_get (idx := 36) (w := 420) (host := none) mx_c1 (by decide) ml_f_LeagueOffice_Chances_36 (by decide +kernel)) rfl) <|
  mc_1 (mk_p (ms_iload_n (k := 3) (by decide +kernel) rfl) rfl) <|
  mc_1 (mk_c (k := mq_8) rfl ⟨mo_8, 125, 1135, none, ml_m_LeagueOffice_Chances_125, Or.inr (Or.inr (Or.inl ⟨0, TX0, 12, by decide, rfl, rfl, (by decide +kernel), ⟨1, rfl, by decide +kernel⟩, ml_in_886, ml_se_887⟩))⟩) <|
  mc_1 (mk_c (k := mq_113) rfl ⟨mo_113, 128, 1136, none, ml_m_LeagueOffice_Chances_128, Or.inr (Or.inr (Or.inl ⟨10, TX10, 8, by decide, rfl, rfl, (by decide +kernel), ⟨6, rfl, by decide +kernel⟩, ml_in_895, ml_se_896⟩))⟩) <|
  mc_1 (mk_c (k := mq_69) rfl ⟨mo_69, 115, 1137, none, ml_m_LeagueOffice_Chances_115, Or.inr (Or.inr (Or.inl ⟨6, TX6, 2, by decide, rfl, rfl, (by decide +kernel), ⟨2, rfl, by decide +kernel⟩, ml_in_665, ml_se_666⟩))⟩) <| mc_0
def mt_15_5 : List (Nat × mx_I) := [(80, 4, 0, 1, []), (81, 51, 1, 5, []), (84, 2, 2, 1, []), (85, 4, 0, 1, []), (86, 51, 1, 1, []), (89, 0, 1, 1, []), (90, 2, 4, 2, []), (92, 0, 0, 1, []), (93, 0, 0, 1, []), (94, 2, 5, 2, [])]
theorem mw_15_5 : ∀ e ∈ mt_15_5, mx_Ok mx_MT mq_15 e.1 e.2 := 
  mc_1 (mk_p (ms_aload_n (k := 0) (by decide +kernel) rfl) rfl) <|
  mc_1 (mk_p (ms_get (idx := 23) (w := 425) (host := none) mx_c1 (by decide) ml_f_LeagueOffice_Chances_23 (by decide +kernel)) rfl) <|
  mc_1 (mk_p (ms_iload_n (k := 2) (by decide +kernel) rfl) rfl) <|
  mc_1 (mk_p (ms_aload_n (k := 0) (by decide +kernel) rfl) rfl) <|
  mc_1 (mk_p (ms_get (idx := 40) (w := 421) (host := none) mx_c1 (by decide) ml_f_LeagueOffice_Chances_40 (by decide +kernel)) rfl) <|
  mc_1 (mk_p (ms_iconst (n := 1) (by decide +kernel) (by decide +kernel)) rfl) <|
  mc_1 (mk_p (ms_iload (by decide +kernel)) rfl) <|
  mc_1 (mk_p (ms_iconst (n := 0) (by decide +kernel) (by decide +kernel)) rfl) <|
  mc_1 (mk_p (ms_iconst (n := 0) (by decide +kernel) (by decide +kernel)) rfl) <|
  mc_1 (mk_p (ms_iload (by decide +kernel)) rfl) <| mc_0
def mt_15_6 : List (Nat × mx_I) := [(96, 4, 0, 1, []), (97, 51, 1, 0, []), (100, 2, 3, 1, []), (101, 70, 8, 2, [0]), (104, 70, 113, 7, [10]), (107, 70, 69, 3, [6]), (110, 4, 0, 1, []), (111, 51, 1, 6, [])]
theorem mw_15_6 : ∀ e ∈ mt_15_6, mx_Ok mx_MT mq_15 e.1 e.2 := 
  mc_1 (mk_p (ms_aload_n (k := 0) (by decide +kernel) rfl) rfl) <|
  mc_1 (mk_p (ms_get (idx := 36) (w := 420) (host := none) mx_c1 (by decide) ml_f_LeagueOffice_Chances_36 (by decide +kernel)) rfl) <|
  mc_1 (mk_p (ms_iload_n (k := 3) (by decide +kernel) rfl) rfl) <|
  mc_1 (mk_c (k := mq_8) rfl ⟨mo_8, 125, 1135, none, ml_m_LeagueOffice_Chances_125, Or.inr (Or.inr (Or.inl ⟨0, TX0, 12, by decide, rfl, rfl, (by decide +kernel), ⟨1, rfl, by decide +kernel⟩, ml_in_886, ml_se_887⟩))⟩) <|
  mc_1 (mk_c (k := mq_113) rfl ⟨mo_113, 128, 1136, none, ml_m_LeagueOffice_Chances_128, Or.inr (Or.inr (Or.inl ⟨10, TX10, 8, by decide, rfl, rfl, (by decide +kernel), ⟨6, rfl, by decide +kernel⟩, ml_in_895, ml_se_896⟩))⟩) <|
  mc_1 (mk_c (k := mq_69) rfl ⟨mo_69, 115, 1137, none, ml_m_LeagueOffice_Chances_115, Or.inr (Or.inr (Or.inl ⟨6, TX6, 2, by decide, rfl, rfl, (by decide +kernel), ⟨2, rfl, by decide +kernel⟩, ml_in_665, ml_se_666⟩))⟩) <|
  mc_1 (mk_p (ms_aload_n (k := 0) (by decide +kernel) rfl) rfl) <|
  mc_1 (mk_p (ms_get (idx := 26) (w := 426) (host := none) mx_c1 (by decide) ml_f_LeagueOffice_Chances_26 (by decide +kernel)) rfl) <| mc_0
def mt_15_7 : List (Nat × mx_I) := [(114, 2, 2, 1, []), (115, 0, 0, 1, []), (116, 70, 69, 3, [6]), (119, 4, 0, 1, []), (120, 2, 2, 1, []), (121, 0, 1, 1, []), (122, 70, 17, 3, [1]), (125, 2, 1, 1, []), (126, 0, 3, 1, []), (127, 11, 0, 0, [])]
theorem mw_15_7 : ∀ e ∈ mt_15_7, mx_Ok mx_MT mq_15 e.1 e.2 := 
  mc_1 (mk_p (ms_iload_n (k := 2) (by decide +kernel) rfl) rfl) <|
  mc_1 (mk_p (ms_iconst (n := 0) (by decide +kernel) (by decide +kernel)) rfl) <|
  mc_1 (mk_c (k := mq_69) rfl ⟨mo_69, 115, 1137, none, ml_m_LeagueOffice_Chances_115, Or.inr (Or.inr (Or.inl ⟨6, TX6, 2, by decide, rfl, rfl, (by decide +kernel), ⟨2, rfl, by decide +kernel⟩, ml_in_665, ml_se_666⟩))⟩) <|
  mc_1 (mk_p (ms_aload_n (k := 0) (by decide +kernel) rfl) rfl) <|
  mc_1 (mk_p (ms_iload_n (k := 2) (by decide +kernel) rfl) rfl) <|
  mc_1 (mk_p (ms_iconst (n := 1) (by decide +kernel) (by decide +kernel)) rfl) <|
  mc_1 (mk_c (k := mq_17) rfl ⟨mo_17, 134, 1138, none, ml_m_LeagueOffice_Chances_134, Or.inr (Or.inr (Or.inl ⟨1, TX1, 10, by decide, rfl, rfl, (by decide +kernel), ⟨2, rfl, by decide +kernel⟩, ml_in_1140, ml_se_22⟩))⟩) <|
  mc_1 (mk_p (ms_iload_n (k := 1) (by decide +kernel) rfl) rfl) <|
  mc_1 (mk_p (ms_iconst (n := 3) (by decide +kernel) (by decide +kernel)) rfl) <|
  mc_1 (mk_p (ms_imul (by decide +kernel)) rfl) <| mc_0
def mt_15_8 : List (Nat × mx_I) := [(128, 5, 1, 1, []), (129, 8, 2, 1, []), (132, 48, 4, 0, []), (135, 2, 1, 1, []), (136, 80, 0, 0, [])]
theorem mw_15_8 : ∀ e ∈ mt_15_8, mx_Ok mx_MT mq_15 e.1 e.2 := 
  mc_1 (mk_p (ms_istore_n (k := 1) (by decide +kernel) rfl (by decide)) rfl) <|
  mc_1 (mk_p (ms_iinc (n := (1)) (by decide +kernel) (by decide +kernel) (by decide)) rfl) <|
  mc_1 (mk_p (ms_goto (off := (-128)) (by decide +kernel) (by decide)) rfl) <|
  mc_1 (mk_p (ms_iload_n (k := 1) (by decide +kernel) rfl) rfl) <|
  mc_1 (mk_r (Or.inl ⟨rfl, by decide +kernel, _, rfl, mf_0⟩) rfl) <| mc_0
def mt_15 : List (List (Nat × mx_I)) := [mt_15_0, mt_15_1, mt_15_2, mt_15_3, mt_15_4, mt_15_5, mt_15_6, mt_15_7, mt_15_8]
theorem mw_15 : ∀ ch ∈ mt_15, ∀ e ∈ ch, mx_Ok mx_MT mq_15 e.1 e.2 := mc_2 mw_15_0 <| mc_2 mw_15_1 <| mc_2 mw_15_2 <| mc_2 mw_15_3 <| mc_2 mw_15_4 <| mc_2 mw_15_5 <| mc_2 mw_15_6 <| mc_2 mw_15_7 <| mc_2 mw_15_8 <| mc_3
/- 16 LeagueOffice$Chances.enterNext()V -/
def mt_16_0 : List (Nat × mx_I) := [(0, 0, 1, 1, []), (1, 5, 1, 1, []), (2, 4, 0, 1, []), (3, 51, 1, 3, []), (6, 70, 65, 1, [6]), (9, 0, 1, 1, []), (10, 10, 0, 0, []), (11, 5, 2, 1, []), (12, 2, 2, 1, []), (13, 38, 82, 0, [])]
theorem mw_16_0 : ∀ e ∈ mt_16_0, mx_Ok mx_MT mq_16 e.1 e.2 := 
  mc_1 (mk_p (ms_iconst (n := 1) (by decide +kernel) (by decide +kernel)) rfl) <|
  mc_1 (mk_p (ms_istore_n (k := 1) (by decide +kernel) rfl (by decide)) rfl) <|
  mc_1 (mk_p (ms_aload_n (k := 0) (by decide +kernel) rfl) rfl) <|
  mc_1 (mk_p (ms_get (idx := 14) (w := 423) (host := none) mx_c1 (by decide) ml_f_LeagueOffice_Chances_14 (by decide +kernel)) rfl) <|
  mc_1 (mk_c (k := mq_65) rfl ⟨mo_65, 63, 1112, none, ml_m_LeagueOffice_Chances_63, Or.inr (Or.inr (Or.inl ⟨6, TX6, 2, by decide, rfl, rfl, (by decide +kernel), ⟨0, rfl, by decide +kernel⟩, ml_in_587, ml_se_588⟩))⟩) <|
  mc_1 (mk_p (ms_iconst (n := 1) (by decide +kernel) (by decide +kernel)) rfl) <|
  mc_1 (mk_p (ms_isub (by decide +kernel)) rfl) <|
  mc_1 (mk_p (ms_istore_n (k := 2) (by decide +kernel) rfl (by decide)) rfl) <|
  mc_1 (mk_p (ms_iload_n (k := 2) (by decide +kernel) rfl) rfl) <|
  mc_1 (mk_p (ms_if_lt (off := (69)) (by decide +kernel) (by decide)) rfl) <| mc_0
def mt_16_1 : List (Nat × mx_I) := [(16, 2, 1, 1, []), (17, 36, 82, 0, []), (20, 4, 0, 1, []), (21, 2, 2, 1, []), (22, 0, 4294967295, 1, []), (23, 70, 17, 3, [1]), (26, 4, 0, 1, []), (27, 51, 1, 6, []), (30, 2, 2, 1, []), (31, 70, 68, 2, [6])]
theorem mw_16_1 : ∀ e ∈ mt_16_1, mx_Ok mx_MT mq_16 e.1 e.2 := 
  mc_1 (mk_p (ms_iload_n (k := 1) (by decide +kernel) rfl) rfl) <|
  mc_1 (mk_p (ms_if_eq (off := (65)) (by decide +kernel) (by decide)) rfl) <|
  mc_1 (mk_p (ms_aload_n (k := 0) (by decide +kernel) rfl) rfl) <|
  mc_1 (mk_p (ms_iload_n (k := 2) (by decide +kernel) rfl) rfl) <|
  mc_1 (mk_p (ms_iconst (n := (-1)) (by decide +kernel) (by decide +kernel)) rfl) <|
  mc_1 (mk_c (k := mq_17) rfl ⟨mo_17, 134, 1138, none, ml_m_LeagueOffice_Chances_134, Or.inr (Or.inr (Or.inl ⟨1, TX1, 10, by decide, rfl, rfl, (by decide +kernel), ⟨2, rfl, by decide +kernel⟩, ml_in_1140, ml_se_22⟩))⟩) <|
  mc_1 (mk_p (ms_aload_n (k := 0) (by decide +kernel) rfl) rfl) <|
  mc_1 (mk_p (ms_get (idx := 26) (w := 426) (host := none) mx_c1 (by decide) ml_f_LeagueOffice_Chances_26 (by decide +kernel)) rfl) <|
  mc_1 (mk_p (ms_iload_n (k := 2) (by decide +kernel) rfl) rfl) <|
  mc_1 (mk_c (k := mq_68) rfl ⟨mo_68, 70, 1113, none, ml_m_LeagueOffice_Chances_70, Or.inr (Or.inr (Or.inl ⟨6, TX6, 2, by decide, rfl, rfl, (by decide +kernel), ⟨1, rfl, by decide +kernel⟩, ml_in_591, ml_se_592⟩))⟩) <| mc_0
def mt_16_2 : List (Nat × mx_I) := [(34, 0, 2, 1, []), (35, 43, 42, 0, []), (38, 0, 1, 1, []), (39, 48, 43, 0, []), (42, 0, 0, 1, []), (43, 5, 1, 1, []), (44, 4, 0, 1, []), (45, 51, 1, 6, [])]
theorem mw_16_2 : ∀ e ∈ mt_16_2, mx_Ok mx_MT mq_16 e.1 e.2 := 
  mc_1 (mk_p (ms_iconst (n := 2) (by decide +kernel) (by decide +kernel)) rfl) <|
  mc_1 (mk_p (ms_icmp_ne (off := (7)) (by decide +kernel) (by decide)) rfl) <|
  mc_1 (mk_p (ms_iconst (n := 1) (by decide +kernel) (by decide +kernel)) rfl) <|
  mc_1 (mk_p (ms_goto (off := (4)) (by decide +kernel) (by decide)) rfl) <|
  mc_1 (mk_p (ms_iconst (n := 0) (by decide +kernel) (by decide +kernel)) rfl) <|
  mc_1 (mk_p (ms_istore_n (k := 1) (by decide +kernel) rfl (by decide)) rfl) <|
  mc_1 (mk_p (ms_aload_n (k := 0) (by decide +kernel) rfl) rfl) <|
  mc_1 (mk_p (ms_get (idx := 26) (w := 426) (host := none) mx_c1 (by decide) ml_f_LeagueOffice_Chances_26 (by decide +kernel)) rfl) <| mc_0
def mt_16_3 : List (Nat × mx_I) := [(48, 2, 2, 1, []), (49, 2, 1, 1, []), (50, 36, 57, 0, []), (53, 0, 0, 1, []), (54, 48, 67, 0, []), (57, 4, 0, 1, []), (58, 51, 1, 6, []), (61, 2, 2, 1, []), (62, 70, 68, 2, [6])]
theorem mw_16_3 : ∀ e ∈ mt_16_3, mx_Ok mx_MT mq_16 e.1 e.2 := 
  mc_1 (mk_p (ms_iload_n (k := 2) (by decide +kernel) rfl) rfl) <|
  mc_1 (mk_p (ms_iload_n (k := 1) (by decide +kernel) rfl) rfl) <|
  mc_1 (mk_p (ms_if_eq (off := (7)) (by decide +kernel) (by decide)) rfl) <|
  mc_1 (mk_p (ms_iconst (n := 0) (by decide +kernel) (by decide +kernel)) rfl) <|
  mc_1 (mk_p (ms_goto (off := (13)) (by decide +kernel) (by decide)) rfl) <|
  mc_1 (mk_p (ms_aload_n (k := 0) (by decide +kernel) rfl) rfl) <|
  mc_1 (mk_p (ms_get (idx := 26) (w := 426) (host := none) mx_c1 (by decide) ml_f_LeagueOffice_Chances_26 (by decide +kernel)) rfl) <|
  mc_1 (mk_p (ms_iload_n (k := 2) (by decide +kernel) rfl) rfl) <|
  mc_1 (mk_c (k := mq_68) rfl ⟨mo_68, 70, 1113, none, ml_m_LeagueOffice_Chances_70, Or.inr (Or.inr (Or.inl ⟨6, TX6, 2, by decide, rfl, rfl, (by decide +kernel), ⟨1, rfl, by decide +kernel⟩, ml_in_591, ml_se_592⟩))⟩) <| mc_0
def mt_16_4 : List (Nat × mx_I) := [(65, 0, 1, 1, []), (66, 9, 0, 0, []), (67, 70, 69, 3, [6]), (70, 4, 0, 1, []), (71, 2, 2, 1, []), (72, 0, 1, 1, []), (73, 70, 17, 3, [1]), (76, 8, 2, 4294967295, []), (79, 48, 12, 0, [])]
theorem mw_16_4 : ∀ e ∈ mt_16_4, mx_Ok mx_MT mq_16 e.1 e.2 := 
  mc_1 (mk_p (ms_iconst (n := 1) (by decide +kernel) (by decide +kernel)) rfl) <|
  mc_1 (mk_p (ms_iadd (by decide +kernel)) rfl) <|
  mc_1 (mk_c (k := mq_69) rfl ⟨mo_69, 115, 1137, none, ml_m_LeagueOffice_Chances_115, Or.inr (Or.inr (Or.inl ⟨6, TX6, 2, by decide, rfl, rfl, (by decide +kernel), ⟨2, rfl, by decide +kernel⟩, ml_in_665, ml_se_666⟩))⟩) <|
  mc_1 (mk_p (ms_aload_n (k := 0) (by decide +kernel) rfl) rfl) <|
  mc_1 (mk_p (ms_iload_n (k := 2) (by decide +kernel) rfl) rfl) <|
  mc_1 (mk_p (ms_iconst (n := 1) (by decide +kernel) (by decide +kernel)) rfl) <|
  mc_1 (mk_c (k := mq_17) rfl ⟨mo_17, 134, 1138, none, ml_m_LeagueOffice_Chances_134, Or.inr (Or.inr (Or.inl ⟨1, TX1, 10, by decide, rfl, rfl, (by decide +kernel), ⟨2, rfl, by decide +kernel⟩, ml_in_1140, ml_se_22⟩))⟩) <|
  mc_1 (mk_p (ms_iinc (n := (-1)) (by decide +kernel) (by decide +kernel) (by decide)) rfl) <|
  mc_1 (mk_p (ms_goto (off := (-67)) (by decide +kernel) (by decide)) rfl) <| mc_0
def mt_16_5 : List (Nat × mx_I) := [(82, 83, 0, 0, [])]
theorem mw_16_5 : ∀ e ∈ mt_16_5, mx_Ok mx_MT mq_16 e.1 e.2 := 
  mc_1 (mk_r (Or.inr (Or.inr (Or.inr ⟨rfl, by decide +kernel, rfl⟩))) rfl) <| mc_0
def mt_16 : List (List (Nat × mx_I)) := [mt_16_0, mt_16_1, mt_16_2, mt_16_3, mt_16_4, mt_16_5]
theorem mw_16 : ∀ ch ∈ mt_16, ∀ e ∈ ch, mx_Ok mx_MT mq_16 e.1 e.2 := mc_2 mw_16_0 <| mc_2 mw_16_1 <| mc_2 mw_16_2 <| mc_2 mw_16_3 <| mc_2 mw_16_4 <| mc_2 mw_16_5 <| mc_3
/- 17 LeagueOffice$Chances.enter(II)V -/
def mt_17_0 : List (Nat × mx_I) := [(0, 4, 0, 1, []), (1, 51, 1, 0, []), (4, 51, 0, 4, []), (7, 4, 0, 1, []), (8, 51, 1, 3, []), (11, 2, 1, 1, []), (12, 70, 68, 2, [6]), (15, 70, 68, 2, [6])]
theorem mw_17_0 : ∀ e ∈ mt_17_0, mx_Ok mx_MT mq_17 e.1 e.2 := 
  mc_1 (mk_p (ms_aload_n (k := 0) (by decide +kernel) rfl) rfl) <|
  mc_1 (mk_p (ms_get (idx := 36) (w := 420) (host := none) mx_c1 (by decide) ml_f_LeagueOffice_Chances_36 (by decide +kernel)) rfl) <|
  mc_1 (mk_p (ms_get (idx := 67) (w := 150) (host := (some "LeagueOffice")) mx_c0 (by decide) ml_f_LeagueOffice_Chances_67 (by decide +kernel)) rfl) <|
  mc_1 (mk_p (ms_aload_n (k := 0) (by decide +kernel) rfl) rfl) <|
  mc_1 (mk_p (ms_get (idx := 14) (w := 423) (host := none) mx_c1 (by decide) ml_f_LeagueOffice_Chances_14 (by decide +kernel)) rfl) <|
  mc_1 (mk_p (ms_iload_n (k := 1) (by decide +kernel) rfl) rfl) <|
  mc_1 (mk_c (k := mq_68) rfl ⟨mo_68, 70, 1113, none, ml_m_LeagueOffice_Chances_70, Or.inr (Or.inr (Or.inl ⟨6, TX6, 2, by decide, rfl, rfl, (by decide +kernel), ⟨1, rfl, by decide +kernel⟩, ml_in_591, ml_se_592⟩))⟩) <|
  mc_1 (mk_c (k := mq_68) rfl ⟨mo_68, 70, 1113, none, ml_m_LeagueOffice_Chances_70, Or.inr (Or.inr (Or.inl ⟨6, TX6, 2, by decide, rfl, rfl, (by decide +kernel), ⟨1, rfl, by decide +kernel⟩, ml_in_591, ml_se_592⟩))⟩) <| mc_0
def mt_17_1 : List (Nat × mx_I) := [(18, 5, 3, 1, []), (19, 4, 0, 1, []), (20, 51, 1, 0, []), (23, 51, 0, 5, []), (26, 4, 0, 1, []), (27, 51, 1, 3, []), (30, 2, 1, 1, []), (31, 70, 68, 2, [6])]
theorem mw_17_1 : ∀ e ∈ mt_17_1, mx_Ok mx_MT mq_17 e.1 e.2 := 
  mc_1 (mk_p (ms_istore_n (k := 3) (by decide +kernel) rfl (by decide)) rfl) <|
  mc_1 (mk_p (ms_aload_n (k := 0) (by decide +kernel) rfl) rfl) <|
  mc_1 (mk_p (ms_get (idx := 36) (w := 420) (host := none) mx_c1 (by decide) ml_f_LeagueOffice_Chances_36 (by decide +kernel)) rfl) <|
  mc_1 (mk_p (ms_get (idx := 78) (w := 157) (host := (some "LeagueOffice")) mx_c0 (by decide) ml_f_LeagueOffice_Chances_78 (by decide +kernel)) rfl) <|
  mc_1 (mk_p (ms_aload_n (k := 0) (by decide +kernel) rfl) rfl) <|
  mc_1 (mk_p (ms_get (idx := 14) (w := 423) (host := none) mx_c1 (by decide) ml_f_LeagueOffice_Chances_14 (by decide +kernel)) rfl) <|
  mc_1 (mk_p (ms_iload_n (k := 1) (by decide +kernel) rfl) rfl) <|
  mc_1 (mk_c (k := mq_68) rfl ⟨mo_68, 70, 1113, none, ml_m_LeagueOffice_Chances_70, Or.inr (Or.inr (Or.inl ⟨6, TX6, 2, by decide, rfl, rfl, (by decide +kernel), ⟨1, rfl, by decide +kernel⟩, ml_in_591, ml_se_592⟩))⟩) <| mc_0
def mt_17_2 : List (Nat × mx_I) := [(34, 70, 68, 2, [6]), (37, 5, 4, 2, []), (39, 4, 0, 1, []), (40, 51, 1, 6, []), (43, 2, 1, 1, []), (44, 70, 68, 2, [6]), (47, 37, 62, 0, [])]
theorem mw_17_2 : ∀ e ∈ mt_17_2, mx_Ok mx_MT mq_17 e.1 e.2 := 
  mc_1 (mk_c (k := mq_68) rfl ⟨mo_68, 70, 1113, none, ml_m_LeagueOffice_Chances_70, Or.inr (Or.inr (Or.inl ⟨6, TX6, 2, by decide, rfl, rfl, (by decide +kernel), ⟨1, rfl, by decide +kernel⟩, ml_in_591, ml_se_592⟩))⟩) <|
  mc_1 (mk_p (ms_istore (by decide +kernel) (by decide)) rfl) <|
  mc_1 (mk_p (ms_aload_n (k := 0) (by decide +kernel) rfl) rfl) <|
  mc_1 (mk_p (ms_get (idx := 26) (w := 426) (host := none) mx_c1 (by decide) ml_f_LeagueOffice_Chances_26 (by decide +kernel)) rfl) <|
  mc_1 (mk_p (ms_iload_n (k := 1) (by decide +kernel) rfl) rfl) <|
  mc_1 (mk_c (k := mq_68) rfl ⟨mo_68, 70, 1113, none, ml_m_LeagueOffice_Chances_70, Or.inr (Or.inr (Or.inl ⟨6, TX6, 2, by decide, rfl, rfl, (by decide +kernel), ⟨1, rfl, by decide +kernel⟩, ml_in_591, ml_se_592⟩))⟩) <|
  mc_1 (mk_p (ms_if_ne (off := (15)) (by decide +kernel) (by decide)) rfl) <| mc_0
def mt_17_3 : List (Nat × mx_I) := [(50, 4, 0, 1, []), (51, 2, 1, 1, []), (52, 2, 3, 1, []), (53, 2, 4, 2, []), (55, 2, 2, 1, []), (56, 70, 18, 5, [1]), (59, 48, 95, 0, []), (62, 4, 0, 1, []), (63, 51, 1, 6, [])]
theorem mw_17_3 : ∀ e ∈ mt_17_3, mx_Ok mx_MT mq_17 e.1 e.2 := 
  mc_1 (mk_p (ms_aload_n (k := 0) (by decide +kernel) rfl) rfl) <|
  mc_1 (mk_p (ms_iload_n (k := 1) (by decide +kernel) rfl) rfl) <|
  mc_1 (mk_p (ms_iload_n (k := 3) (by decide +kernel) rfl) rfl) <|
  mc_1 (mk_p (ms_iload (by decide +kernel)) rfl) <|
  mc_1 (mk_p (ms_iload_n (k := 2) (by decide +kernel) rfl) rfl) <|
  mc_1 (mk_c (k := mq_18) rfl ⟨mo_18, 137, 1142, none, ml_m_LeagueOffice_Chances_137, Or.inr (Or.inr (Or.inl ⟨1, TX1, 10, by decide, rfl, rfl, (by decide +kernel), ⟨4, rfl, by decide +kernel⟩, ml_in_1144, ml_se_23⟩))⟩) <|
  mc_1 (mk_p (ms_goto (off := (36)) (by decide +kernel) (by decide)) rfl) <|
  mc_1 (mk_p (ms_aload_n (k := 0) (by decide +kernel) rfl) rfl) <|
  mc_1 (mk_p (ms_get (idx := 26) (w := 426) (host := none) mx_c1 (by decide) ml_f_LeagueOffice_Chances_26 (by decide +kernel)) rfl) <| mc_0
def mt_17_4 : List (Nat × mx_I) := [(66, 2, 1, 1, []), (67, 70, 68, 2, [6]), (70, 0, 1, 1, []), (71, 43, 86, 0, []), (74, 4, 0, 1, []), (75, 2, 1, 1, []), (76, 2, 3, 1, []), (77, 2, 4, 2, []), (79, 2, 2, 1, [])]
theorem mw_17_4 : ∀ e ∈ mt_17_4, mx_Ok mx_MT mq_17 e.1 e.2 := 
  mc_1 (mk_p (ms_iload_n (k := 1) (by decide +kernel) rfl) rfl) <|
  mc_1 (mk_c (k := mq_68) rfl ⟨mo_68, 70, 1113, none, ml_m_LeagueOffice_Chances_70, Or.inr (Or.inr (Or.inl ⟨6, TX6, 2, by decide, rfl, rfl, (by decide +kernel), ⟨1, rfl, by decide +kernel⟩, ml_in_591, ml_se_592⟩))⟩) <|
  mc_1 (mk_p (ms_iconst (n := 1) (by decide +kernel) (by decide +kernel)) rfl) <|
  mc_1 (mk_p (ms_icmp_ne (off := (15)) (by decide +kernel) (by decide)) rfl) <|
  mc_1 (mk_p (ms_aload_n (k := 0) (by decide +kernel) rfl) rfl) <|
  mc_1 (mk_p (ms_iload_n (k := 1) (by decide +kernel) rfl) rfl) <|
  mc_1 (mk_p (ms_iload_n (k := 3) (by decide +kernel) rfl) rfl) <|
  mc_1 (mk_p (ms_iload (by decide +kernel)) rfl) <|
  mc_1 (mk_p (ms_iload_n (k := 2) (by decide +kernel) rfl) rfl) <| mc_0
def mt_17_5 : List (Nat × mx_I) := [(80, 70, 19, 5, [1]), (83, 48, 95, 0, []), (86, 4, 0, 1, []), (87, 2, 1, 1, []), (88, 2, 4, 2, []), (90, 2, 3, 1, []), (91, 2, 2, 1, []), (92, 70, 18, 5, [1]), (95, 83, 0, 0, [])]
theorem mw_17_5 : ∀ e ∈ mt_17_5, mx_Ok mx_MT mq_17 e.1 e.2 := 
  mc_1 (mk_c (k := mq_19) rfl ⟨mo_19, 141, 1148, none, ml_m_LeagueOffice_Chances_141, Or.inr (Or.inr (Or.inl ⟨1, TX1, 10, by decide, rfl, rfl, (by decide +kernel), ⟨4, rfl, by decide +kernel⟩, ml_in_1150, ml_se_24⟩))⟩) <|
  mc_1 (mk_p (ms_goto (off := (12)) (by decide +kernel) (by decide)) rfl) <|
  mc_1 (mk_p (ms_aload_n (k := 0) (by decide +kernel) rfl) rfl) <|
  mc_1 (mk_p (ms_iload_n (k := 1) (by decide +kernel) rfl) rfl) <|
  mc_1 (mk_p (ms_iload (by decide +kernel)) rfl) <|
  mc_1 (mk_p (ms_iload_n (k := 3) (by decide +kernel) rfl) rfl) <|
  mc_1 (mk_p (ms_iload_n (k := 2) (by decide +kernel) rfl) rfl) <|
  mc_1 (mk_c (k := mq_18) rfl ⟨mo_18, 137, 1142, none, ml_m_LeagueOffice_Chances_137, Or.inr (Or.inr (Or.inl ⟨1, TX1, 10, by decide, rfl, rfl, (by decide +kernel), ⟨4, rfl, by decide +kernel⟩, ml_in_1144, ml_se_23⟩))⟩) <|
  mc_1 (mk_r (Or.inr (Or.inr (Or.inr ⟨rfl, by decide +kernel, rfl⟩))) rfl) <| mc_0
def mt_17 : List (List (Nat × mx_I)) := [mt_17_0, mt_17_1, mt_17_2, mt_17_3, mt_17_4, mt_17_5]
theorem mw_17 : ∀ ch ∈ mt_17, ∀ e ∈ ch, mx_Ok mx_MT mq_17 e.1 e.2 := mc_2 mw_17_0 <| mc_2 mw_17_1 <| mc_2 mw_17_2 <| mc_2 mw_17_3 <| mc_2 mw_17_4 <| mc_2 mw_17_5 <| mc_3
/- 18 LeagueOffice$Chances.enterWin(IIII)V -/
def mt_18_0 : List (Nat × mx_I) := [(0, 4, 0, 1, []), (1, 51, 1, 2, []), (4, 2, 2, 1, []), (5, 2, 4, 2, []), (7, 28, 0, 0, []), (8, 4, 0, 1, []), (9, 51, 1, 4, []), (12, 2, 1, 1, []), (13, 70, 68, 2, [6])]
theorem mw_18_0 : ∀ e ∈ mt_18_0, mx_Ok mx_MT mq_18 e.1 e.2 := 
  mc_1 (mk_p (ms_aload_n (k := 0) (by decide +kernel) rfl) rfl) <|
  mc_1 (mk_p (ms_get (idx := 44) (w := 422) (host := none) mx_c1 (by decide) ml_f_LeagueOffice_Chances_44 (by decide +kernel)) rfl) <|
  mc_1 (mk_p (ms_iload_n (k := 2) (by decide +kernel) rfl) rfl) <|
  mc_1 (mk_p (ms_iload (by decide +kernel)) rfl) <|
  mc_1 (mk_p (ms_i2l (by decide +kernel)) rfl) <|
  mc_1 (mk_p (ms_aload_n (k := 0) (by decide +kernel) rfl) rfl) <|
  mc_1 (mk_p (ms_get (idx := 20) (w := 424) (host := none) mx_c1 (by decide) ml_f_LeagueOffice_Chances_20 (by decide +kernel)) rfl) <|
  mc_1 (mk_p (ms_iload_n (k := 1) (by decide +kernel) rfl) rfl) <|
  mc_1 (mk_c (k := mq_68) rfl ⟨mo_68, 70, 1113, none, ml_m_LeagueOffice_Chances_70, Or.inr (Or.inr (Or.inl ⟨6, TX6, 2, by decide, rfl, rfl, (by decide +kernel), ⟨1, rfl, by decide +kernel⟩, ml_in_591, ml_se_592⟩))⟩) <| mc_0
def mt_18_1 : List (Nat × mx_I) := [(16, 28, 0, 0, []), (17, 21, 0, 0, []), (18, 70, 100, 3, [9]), (21, 4, 0, 1, []), (22, 51, 1, 2, []), (25, 2, 2, 1, []), (26, 2, 4, 2, []), (28, 2, 4, 2, []), (30, 2, 4, 2, [])]
theorem mw_18_1 : ∀ e ∈ mt_18_1, mx_Ok mx_MT mq_18 e.1 e.2 := 
  mc_1 (mk_p (ms_i2l (by decide +kernel)) rfl) <|
  mc_1 (mk_p (ms_lmul (by decide +kernel)) rfl) <|
  mc_1 (mk_c (k := mq_100) rfl ⟨mo_100, 144, 1146, none, ml_m_LeagueOffice_Chances_144, Or.inr (Or.inr (Or.inl ⟨9, TX9, 12, by decide, rfl, rfl, (by decide +kernel), ⟨2, rfl, by decide +kernel⟩, ml_in_913, ml_se_914⟩))⟩) <|
  mc_1 (mk_p (ms_aload_n (k := 0) (by decide +kernel) rfl) rfl) <|
  mc_1 (mk_p (ms_get (idx := 44) (w := 422) (host := none) mx_c1 (by decide) ml_f_LeagueOffice_Chances_44 (by decide +kernel)) rfl) <|
  mc_1 (mk_p (ms_iload_n (k := 2) (by decide +kernel) rfl) rfl) <|
  mc_1 (mk_p (ms_iload (by decide +kernel)) rfl) <|
  mc_1 (mk_p (ms_iload (by decide +kernel)) rfl) <|
  mc_1 (mk_p (ms_iload (by decide +kernel)) rfl) <| mc_0
def mt_18_2 : List (Nat × mx_I) := [(32, 70, 101, 5, [9]), (35, 4, 0, 1, []), (36, 51, 1, 2, []), (39, 2, 3, 1, []), (40, 2, 4, 2, []), (42, 16, 0, 0, []), (43, 0, 0, 1, []), (44, 0, 0, 1, []), (45, 70, 101, 5, [9])]
theorem mw_18_2 : ∀ e ∈ mt_18_2, mx_Ok mx_MT mq_18 e.1 e.2 := 
  mc_1 (mk_c (k := mq_101) rfl ⟨mo_101, 148, 1147, none, ml_m_LeagueOffice_Chances_148, Or.inr (Or.inr (Or.inl ⟨9, TX9, 12, by decide, rfl, rfl, (by decide +kernel), ⟨4, rfl, by decide +kernel⟩, ml_in_877, ml_se_878⟩))⟩) <|
  mc_1 (mk_p (ms_aload_n (k := 0) (by decide +kernel) rfl) rfl) <|
  mc_1 (mk_p (ms_get (idx := 44) (w := 422) (host := none) mx_c1 (by decide) ml_f_LeagueOffice_Chances_44 (by decide +kernel)) rfl) <|
  mc_1 (mk_p (ms_iload_n (k := 3) (by decide +kernel) rfl) rfl) <|
  mc_1 (mk_p (ms_iload (by decide +kernel)) rfl) <|
  mc_1 (mk_p (ms_ineg (by decide +kernel)) rfl) <|
  mc_1 (mk_p (ms_iconst (n := 0) (by decide +kernel) (by decide +kernel)) rfl) <|
  mc_1 (mk_p (ms_iconst (n := 0) (by decide +kernel) (by decide +kernel)) rfl) <|
  mc_1 (mk_c (k := mq_101) rfl ⟨mo_101, 148, 1147, none, ml_m_LeagueOffice_Chances_148, Or.inr (Or.inr (Or.inl ⟨9, TX9, 12, by decide, rfl, rfl, (by decide +kernel), ⟨4, rfl, by decide +kernel⟩, ml_in_877, ml_se_878⟩))⟩) <| mc_0
def mt_18_3 : List (Nat × mx_I) := [(48, 83, 0, 0, [])]
theorem mw_18_3 : ∀ e ∈ mt_18_3, mx_Ok mx_MT mq_18 e.1 e.2 := 
  mc_1 (mk_r (Or.inr (Or.inr (Or.inr ⟨rfl, by decide +kernel, rfl⟩))) rfl) <| mc_0
def mt_18 : List (List (Nat × mx_I)) := [mt_18_0, mt_18_1, mt_18_2, mt_18_3]
theorem mw_18 : ∀ ch ∈ mt_18, ∀ e ∈ ch, mx_Ok mx_MT mq_18 e.1 e.2 := mc_2 mw_18_0 <| mc_2 mw_18_1 <| mc_2 mw_18_2 <| mc_2 mw_18_3 <| mc_3
/- 19 LeagueOffice$Chances.enterDraw(IIII)V -/
def mt_19_0 : List (Nat × mx_I) := [(0, 4, 0, 1, []), (1, 51, 1, 2, []), (4, 2, 2, 1, []), (5, 2, 4, 2, []), (7, 28, 0, 0, []), (8, 4, 0, 1, []), (9, 51, 1, 5, []), (12, 2, 1, 1, []), (13, 70, 68, 2, [6])]
theorem mw_19_0 : ∀ e ∈ mt_19_0, mx_Ok mx_MT mq_19 e.1 e.2 := 
  mc_1 (mk_p (ms_aload_n (k := 0) (by decide +kernel) rfl) rfl) <|
  mc_1 (mk_p (ms_get (idx := 44) (w := 422) (host := none) mx_c1 (by decide) ml_f_LeagueOffice_Chances_44 (by decide +kernel)) rfl) <|
  mc_1 (mk_p (ms_iload_n (k := 2) (by decide +kernel) rfl) rfl) <|
  mc_1 (mk_p (ms_iload (by decide +kernel)) rfl) <|
  mc_1 (mk_p (ms_i2l (by decide +kernel)) rfl) <|
  mc_1 (mk_p (ms_aload_n (k := 0) (by decide +kernel) rfl) rfl) <|
  mc_1 (mk_p (ms_get (idx := 23) (w := 425) (host := none) mx_c1 (by decide) ml_f_LeagueOffice_Chances_23 (by decide +kernel)) rfl) <|
  mc_1 (mk_p (ms_iload_n (k := 1) (by decide +kernel) rfl) rfl) <|
  mc_1 (mk_c (k := mq_68) rfl ⟨mo_68, 70, 1113, none, ml_m_LeagueOffice_Chances_70, Or.inr (Or.inr (Or.inl ⟨6, TX6, 2, by decide, rfl, rfl, (by decide +kernel), ⟨1, rfl, by decide +kernel⟩, ml_in_591, ml_se_592⟩))⟩) <| mc_0
def mt_19_1 : List (Nat × mx_I) := [(16, 28, 0, 0, []), (17, 21, 0, 0, []), (18, 70, 100, 3, [9]), (21, 4, 0, 1, []), (22, 51, 1, 2, []), (25, 2, 3, 1, []), (26, 2, 4, 2, []), (28, 28, 0, 0, []), (29, 4, 0, 1, []), (30, 51, 1, 5, [])]
theorem mw_19_1 : ∀ e ∈ mt_19_1, mx_Ok mx_MT mq_19 e.1 e.2 := 
  mc_1 (mk_p (ms_i2l (by decide +kernel)) rfl) <|
  mc_1 (mk_p (ms_lmul (by decide +kernel)) rfl) <|
  mc_1 (mk_c (k := mq_100) rfl ⟨mo_100, 144, 1146, none, ml_m_LeagueOffice_Chances_144, Or.inr (Or.inr (Or.inl ⟨9, TX9, 12, by decide, rfl, rfl, (by decide +kernel), ⟨2, rfl, by decide +kernel⟩, ml_in_913, ml_se_914⟩))⟩) <|
  mc_1 (mk_p (ms_aload_n (k := 0) (by decide +kernel) rfl) rfl) <|
  mc_1 (mk_p (ms_get (idx := 44) (w := 422) (host := none) mx_c1 (by decide) ml_f_LeagueOffice_Chances_44 (by decide +kernel)) rfl) <|
  mc_1 (mk_p (ms_iload_n (k := 3) (by decide +kernel) rfl) rfl) <|
  mc_1 (mk_p (ms_iload (by decide +kernel)) rfl) <|
  mc_1 (mk_p (ms_i2l (by decide +kernel)) rfl) <|
  mc_1 (mk_p (ms_aload_n (k := 0) (by decide +kernel) rfl) rfl) <|
  mc_1 (mk_p (ms_get (idx := 23) (w := 425) (host := none) mx_c1 (by decide) ml_f_LeagueOffice_Chances_23 (by decide +kernel)) rfl) <| mc_0
def mt_19_2 : List (Nat × mx_I) := [(33, 2, 1, 1, []), (34, 70, 68, 2, [6]), (37, 28, 0, 0, []), (38, 21, 0, 0, []), (39, 70, 100, 3, [9]), (42, 83, 0, 0, [])]
theorem mw_19_2 : ∀ e ∈ mt_19_2, mx_Ok mx_MT mq_19 e.1 e.2 := 
  mc_1 (mk_p (ms_iload_n (k := 1) (by decide +kernel) rfl) rfl) <|
  mc_1 (mk_c (k := mq_68) rfl ⟨mo_68, 70, 1113, none, ml_m_LeagueOffice_Chances_70, Or.inr (Or.inr (Or.inl ⟨6, TX6, 2, by decide, rfl, rfl, (by decide +kernel), ⟨1, rfl, by decide +kernel⟩, ml_in_591, ml_se_592⟩))⟩) <|
  mc_1 (mk_p (ms_i2l (by decide +kernel)) rfl) <|
  mc_1 (mk_p (ms_lmul (by decide +kernel)) rfl) <|
  mc_1 (mk_c (k := mq_100) rfl ⟨mo_100, 144, 1146, none, ml_m_LeagueOffice_Chances_144, Or.inr (Or.inr (Or.inl ⟨9, TX9, 12, by decide, rfl, rfl, (by decide +kernel), ⟨2, rfl, by decide +kernel⟩, ml_in_913, ml_se_914⟩))⟩) <|
  mc_1 (mk_r (Or.inr (Or.inr (Or.inr ⟨rfl, by decide +kernel, rfl⟩))) rfl) <| mc_0
def mt_19 : List (List (Nat × mx_I)) := [mt_19_0, mt_19_1, mt_19_2]
theorem mw_19 : ∀ ch ∈ mt_19, ∀ e ∈ ch, mx_Ok mx_MT mq_19 e.1 e.2 := mc_2 mw_19_0 <| mc_2 mw_19_1 <| mc_2 mw_19_2 <| mc_3
/- 20 LeagueOffice$Chances.bestPlace()I -/
def mt_20_0 : List (Nat × mx_I) := [(0, 0, 12, 2, []), (2, 5, 1, 1, []), (3, 0, 0, 1, []), (4, 5, 2, 1, []), (5, 2, 2, 1, []), (6, 4, 0, 1, []), (7, 51, 1, 9, []), (10, 45, 32, 0, []), (13, 2, 1, 1, []), (14, 4, 0, 1, []), (15, 51, 1, 7, [])]
theorem mw_20_0 : ∀ e ∈ mt_20_0, mx_Ok mx_MT mq_20 e.1 e.2 := 
  mc_1 (mk_p (ms_bipush (n := 12) (by decide +kernel) (by decide +kernel)) rfl) <|
  mc_1 (mk_p (ms_istore_n (k := 1) (by decide +kernel) rfl (by decide)) rfl) <|
  mc_1 (mk_p (ms_iconst (n := 0) (by decide +kernel) (by decide +kernel)) rfl) <|
  mc_1 (mk_p (ms_istore_n (k := 2) (by decide +kernel) rfl (by decide)) rfl) <|
  mc_1 (mk_p (ms_iload_n (k := 2) (by decide +kernel) rfl) rfl) <|
  mc_1 (mk_p (ms_aload_n (k := 0) (by decide +kernel) rfl) rfl) <|
  mc_1 (mk_p (ms_get (idx := 109) (w := 429) (host := none) mx_c1 (by decide) ml_f_LeagueOffice_Chances_109 (by decide +kernel)) rfl) <|
  mc_1 (mk_p (ms_icmp_ge (off := (22)) (by decide +kernel) (by decide)) rfl) <|
  mc_1 (mk_p (ms_iload_n (k := 1) (by decide +kernel) rfl) rfl) <|
  mc_1 (mk_p (ms_aload_n (k := 0) (by decide +kernel) rfl) rfl) <|
  mc_1 (mk_p (ms_get (idx := 29) (w := 427) (host := none) mx_c1 (by decide) ml_f_LeagueOffice_Chances_29 (by decide +kernel)) rfl) <| mc_0
def mt_20_1 : List (Nat × mx_I) := [(18, 2, 2, 1, []), (19, 70, 68, 2, [6]), (22, 70, 267, 2, []), (25, 5, 1, 1, []), (26, 8, 2, 1, []), (29, 48, 5, 0, [])]
theorem mw_20_1 : ∀ e ∈ mt_20_1, mx_Ok mx_MT mq_20 e.1 e.2 := 
  mc_1 (mk_p (ms_iload_n (k := 2) (by decide +kernel) rfl) rfl) <|
  mc_1 (mk_c (k := mq_68) rfl ⟨mo_68, 70, 1113, none, ml_m_LeagueOffice_Chances_70, Or.inr (Or.inr (Or.inl ⟨6, TX6, 2, by decide, rfl, rfl, (by decide +kernel), ⟨1, rfl, by decide +kernel⟩, ml_in_591, ml_se_592⟩))⟩) <|
  mc_1 (mk_c (k := mq_267) rfl ⟨mo_267, 151, 1161, none, ml_m_LeagueOffice_Chances_151, Or.inl ⟨rfl, (by decide +kernel), by decide +kernel, ml_st_995⟩⟩) <|
  mc_1 (mk_p (ms_istore_n (k := 1) (by decide +kernel) rfl (by decide)) rfl) <|
  mc_1 (mk_p (ms_iinc (n := (1)) (by decide +kernel) (by decide +kernel) (by decide)) rfl) <|
  mc_1 (mk_p (ms_goto (off := (-24)) (by decide +kernel) (by decide)) rfl) <| mc_0
def mt_20_2 : List (Nat × mx_I) := [(32, 2, 1, 1, []), (33, 80, 0, 0, [])]
theorem mw_20_2 : ∀ e ∈ mt_20_2, mx_Ok mx_MT mq_20 e.1 e.2 := 
  mc_1 (mk_p (ms_iload_n (k := 1) (by decide +kernel) rfl) rfl) <|
  mc_1 (mk_r (Or.inl ⟨rfl, by decide +kernel, _, rfl, mf_0⟩) rfl) <| mc_0
def mt_20 : List (List (Nat × mx_I)) := [mt_20_0, mt_20_1, mt_20_2]
theorem mw_20 : ∀ ch ∈ mt_20, ∀ e ∈ ch, mx_Ok mx_MT mq_20 e.1 e.2 := mc_2 mw_20_0 <| mc_2 mw_20_1 <| mc_2 mw_20_2 <| mc_3
/- 21 LeagueOffice$Chances.worstPlace()I -/
def mt_21_0 : List (Nat × mx_I) := [(0, 0, 0, 1, []), (1, 5, 1, 1, []), (2, 0, 0, 1, []), (3, 5, 2, 1, []), (4, 2, 2, 1, []), (5, 4, 0, 1, []), (6, 51, 1, 9, []), (9, 45, 31, 0, []), (12, 2, 1, 1, []), (13, 4, 0, 1, []), (14, 51, 1, 7, [])]
theorem mw_21_0 : ∀ e ∈ mt_21_0, mx_Ok mx_MT mq_21 e.1 e.2 := 
  mc_1 (mk_p (ms_iconst (n := 0) (by decide +kernel) (by decide +kernel)) rfl) <|
  mc_1 (mk_p (ms_istore_n (k := 1) (by decide +kernel) rfl (by decide)) rfl) <|
  mc_1 (mk_p (ms_iconst (n := 0) (by decide +kernel) (by decide +kernel)) rfl) <|
  mc_1 (mk_p (ms_istore_n (k := 2) (by decide +kernel) rfl (by decide)) rfl) <|
  mc_1 (mk_p (ms_iload_n (k := 2) (by decide +kernel) rfl) rfl) <|
  mc_1 (mk_p (ms_aload_n (k := 0) (by decide +kernel) rfl) rfl) <|
  mc_1 (mk_p (ms_get (idx := 109) (w := 429) (host := none) mx_c1 (by decide) ml_f_LeagueOffice_Chances_109 (by decide +kernel)) rfl) <|
  mc_1 (mk_p (ms_icmp_ge (off := (22)) (by decide +kernel) (by decide)) rfl) <|
  mc_1 (mk_p (ms_iload_n (k := 1) (by decide +kernel) rfl) rfl) <|
  mc_1 (mk_p (ms_aload_n (k := 0) (by decide +kernel) rfl) rfl) <|
  mc_1 (mk_p (ms_get (idx := 29) (w := 427) (host := none) mx_c1 (by decide) ml_f_LeagueOffice_Chances_29 (by decide +kernel)) rfl) <| mc_0
def mt_21_1 : List (Nat × mx_I) := [(17, 2, 2, 1, []), (18, 70, 68, 2, [6]), (21, 70, 266, 2, []), (24, 5, 1, 1, []), (25, 8, 2, 1, []), (28, 48, 4, 0, []), (31, 2, 1, 1, [])]
theorem mw_21_1 : ∀ e ∈ mt_21_1, mx_Ok mx_MT mq_21 e.1 e.2 := 
  mc_1 (mk_p (ms_iload_n (k := 2) (by decide +kernel) rfl) rfl) <|
  mc_1 (mk_c (k := mq_68) rfl ⟨mo_68, 70, 1113, none, ml_m_LeagueOffice_Chances_70, Or.inr (Or.inr (Or.inl ⟨6, TX6, 2, by decide, rfl, rfl, (by decide +kernel), ⟨1, rfl, by decide +kernel⟩, ml_in_591, ml_se_592⟩))⟩) <|
  mc_1 (mk_c (k := mq_266) rfl ⟨mo_266, 157, 1166, none, ml_m_LeagueOffice_Chances_157, Or.inl ⟨rfl, (by decide +kernel), by decide +kernel, ml_st_118⟩⟩) <|
  mc_1 (mk_p (ms_istore_n (k := 1) (by decide +kernel) rfl (by decide)) rfl) <|
  mc_1 (mk_p (ms_iinc (n := (1)) (by decide +kernel) (by decide +kernel) (by decide)) rfl) <|
  mc_1 (mk_p (ms_goto (off := (-24)) (by decide +kernel) (by decide)) rfl) <|
  mc_1 (mk_p (ms_iload_n (k := 1) (by decide +kernel) rfl) rfl) <| mc_0
def mt_21_2 : List (Nat × mx_I) := [(32, 80, 0, 0, [])]
theorem mw_21_2 : ∀ e ∈ mt_21_2, mx_Ok mx_MT mq_21 e.1 e.2 := 
  mc_1 (mk_r (Or.inl ⟨rfl, by decide +kernel, _, rfl, mf_0⟩) rfl) <| mc_0
def mt_21 : List (List (Nat × mx_I)) := [mt_21_0, mt_21_1, mt_21_2]
theorem mw_21 : ∀ ch ∈ mt_21, ∀ e ∈ ch, mx_Ok mx_MT mq_21 e.1 e.2 := mc_2 mw_21_0 <| mc_2 mw_21_1 <| mc_2 mw_21_2 <| mc_3
/- 22 LeagueOffice$Chances.leastFor(I)I -/
def mt_22_0 : List (Nat × mx_I) := [(0, 0, 4294967295, 1, []), (1, 5, 2, 1, []), (2, 0, 0, 1, []), (3, 5, 3, 1, []), (4, 2, 3, 1, []), (5, 4, 0, 1, []), (6, 51, 1, 9, []), (9, 45, 50, 0, []), (12, 4, 0, 1, []), (13, 51, 1, 7, [])]
theorem mw_22_0 : ∀ e ∈ mt_22_0, mx_Ok mx_MT mq_22 e.1 e.2 := 
  mc_1 (mk_p (ms_iconst (n := (-1)) (by decide +kernel) (by decide +kernel)) rfl) <|
  mc_1 (mk_p (ms_istore_n (k := 2) (by decide +kernel) rfl (by decide)) rfl) <|
  mc_1 (mk_p (ms_iconst (n := 0) (by decide +kernel) (by decide +kernel)) rfl) <|
  mc_1 (mk_p (ms_istore_n (k := 3) (by decide +kernel) rfl (by decide)) rfl) <|
  mc_1 (mk_p (ms_iload_n (k := 3) (by decide +kernel) rfl) rfl) <|
  mc_1 (mk_p (ms_aload_n (k := 0) (by decide +kernel) rfl) rfl) <|
  mc_1 (mk_p (ms_get (idx := 109) (w := 429) (host := none) mx_c1 (by decide) ml_f_LeagueOffice_Chances_109 (by decide +kernel)) rfl) <|
  mc_1 (mk_p (ms_icmp_ge (off := (41)) (by decide +kernel) (by decide)) rfl) <|
  mc_1 (mk_p (ms_aload_n (k := 0) (by decide +kernel) rfl) rfl) <|
  mc_1 (mk_p (ms_get (idx := 29) (w := 427) (host := none) mx_c1 (by decide) ml_f_LeagueOffice_Chances_29 (by decide +kernel)) rfl) <| mc_0
def mt_22_1 : List (Nat × mx_I) := [(16, 2, 3, 1, []), (17, 70, 68, 2, [6]), (20, 2, 1, 1, []), (21, 47, 44, 0, []), (24, 2, 2, 1, []), (25, 38, 42, 0, []), (28, 4, 0, 1, []), (29, 2, 3, 1, []), (30, 70, 23, 2, [1])]
theorem mw_22_1 : ∀ e ∈ mt_22_1, mx_Ok mx_MT mq_22 e.1 e.2 := 
  mc_1 (mk_p (ms_iload_n (k := 3) (by decide +kernel) rfl) rfl) <|
  mc_1 (mk_c (k := mq_68) rfl ⟨mo_68, 70, 1113, none, ml_m_LeagueOffice_Chances_70, Or.inr (Or.inr (Or.inl ⟨6, TX6, 2, by decide, rfl, rfl, (by decide +kernel), ⟨1, rfl, by decide +kernel⟩, ml_in_591, ml_se_592⟩))⟩) <|
  mc_1 (mk_p (ms_iload_n (k := 1) (by decide +kernel) rfl) rfl) <|
  mc_1 (mk_p (ms_icmp_le (off := (23)) (by decide +kernel) (by decide)) rfl) <|
  mc_1 (mk_p (ms_iload_n (k := 2) (by decide +kernel) rfl) rfl) <|
  mc_1 (mk_p (ms_if_lt (off := (17)) (by decide +kernel) (by decide)) rfl) <|
  mc_1 (mk_p (ms_aload_n (k := 0) (by decide +kernel) rfl) rfl) <|
  mc_1 (mk_p (ms_iload_n (k := 3) (by decide +kernel) rfl) rfl) <|
  mc_1 (mk_c (k := mq_23) rfl ⟨mo_23, 160, 1179, none, ml_m_LeagueOffice_Chances_160, Or.inr (Or.inr (Or.inl ⟨1, TX1, 10, by decide, rfl, rfl, (by decide +kernel), ⟨1, rfl, by decide +kernel⟩, ml_in_1181, ml_se_26⟩))⟩) <| mc_0
def mt_22_2 : List (Nat × mx_I) := [(33, 4, 0, 1, []), (34, 2, 2, 1, []), (35, 70, 23, 2, [1]), (38, 27, 0, 0, []), (39, 41, 44, 0, []), (42, 2, 3, 1, []), (43, 5, 2, 1, []), (44, 8, 3, 1, []), (47, 48, 4, 0, [])]
theorem mw_22_2 : ∀ e ∈ mt_22_2, mx_Ok mx_MT mq_22 e.1 e.2 := 
  mc_1 (mk_p (ms_aload_n (k := 0) (by decide +kernel) rfl) rfl) <|
  mc_1 (mk_p (ms_iload_n (k := 2) (by decide +kernel) rfl) rfl) <|
  mc_1 (mk_c (k := mq_23) rfl ⟨mo_23, 160, 1179, none, ml_m_LeagueOffice_Chances_160, Or.inr (Or.inr (Or.inl ⟨1, TX1, 10, by decide, rfl, rfl, (by decide +kernel), ⟨1, rfl, by decide +kernel⟩, ml_in_1181, ml_se_26⟩))⟩) <|
  mc_1 (mk_p (ms_lcmp (by decide +kernel)) rfl) <|
  mc_1 (mk_p (ms_if_le (off := (5)) (by decide +kernel) (by decide)) rfl) <|
  mc_1 (mk_p (ms_iload_n (k := 3) (by decide +kernel) rfl) rfl) <|
  mc_1 (mk_p (ms_istore_n (k := 2) (by decide +kernel) rfl (by decide)) rfl) <|
  mc_1 (mk_p (ms_iinc (n := (1)) (by decide +kernel) (by decide +kernel) (by decide)) rfl) <|
  mc_1 (mk_p (ms_goto (off := (-43)) (by decide +kernel) (by decide)) rfl) <| mc_0
def mt_22_3 : List (Nat × mx_I) := [(50, 0, 4294967295, 1, []), (51, 5, 3, 1, []), (52, 0, 0, 1, []), (53, 5, 4, 2, []), (55, 2, 4, 2, []), (57, 4, 0, 1, []), (58, 51, 1, 9, []), (61, 45, 123, 0, [])]
theorem mw_22_3 : ∀ e ∈ mt_22_3, mx_Ok mx_MT mq_22 e.1 e.2 := 
  mc_1 (mk_p (ms_iconst (n := (-1)) (by decide +kernel) (by decide +kernel)) rfl) <|
  mc_1 (mk_p (ms_istore_n (k := 3) (by decide +kernel) rfl (by decide)) rfl) <|
  mc_1 (mk_p (ms_iconst (n := 0) (by decide +kernel) (by decide +kernel)) rfl) <|
  mc_1 (mk_p (ms_istore (by decide +kernel) (by decide)) rfl) <|
  mc_1 (mk_p (ms_iload (by decide +kernel)) rfl) <|
  mc_1 (mk_p (ms_aload_n (k := 0) (by decide +kernel) rfl) rfl) <|
  mc_1 (mk_p (ms_get (idx := 109) (w := 429) (host := none) mx_c1 (by decide) ml_f_LeagueOffice_Chances_109 (by decide +kernel)) rfl) <|
  mc_1 (mk_p (ms_icmp_ge (off := (62)) (by decide +kernel) (by decide)) rfl) <| mc_0
def mt_22_4 : List (Nat × mx_I) := [(64, 2, 2, 1, []), (65, 38, 83, 0, []), (68, 4, 0, 1, []), (69, 2, 4, 2, []), (71, 70, 23, 2, [1]), (74, 4, 0, 1, []), (75, 2, 2, 1, []), (76, 70, 23, 2, [1]), (79, 27, 0, 0, [])]
theorem mw_22_4 : ∀ e ∈ mt_22_4, mx_Ok mx_MT mq_22 e.1 e.2 := 
  mc_1 (mk_p (ms_iload_n (k := 2) (by decide +kernel) rfl) rfl) <|
  mc_1 (mk_p (ms_if_lt (off := (18)) (by decide +kernel) (by decide)) rfl) <|
  mc_1 (mk_p (ms_aload_n (k := 0) (by decide +kernel) rfl) rfl) <|
  mc_1 (mk_p (ms_iload (by decide +kernel)) rfl) <|
  mc_1 (mk_c (k := mq_23) rfl ⟨mo_23, 160, 1179, none, ml_m_LeagueOffice_Chances_160, Or.inr (Or.inr (Or.inl ⟨1, TX1, 10, by decide, rfl, rfl, (by decide +kernel), ⟨1, rfl, by decide +kernel⟩, ml_in_1181, ml_se_26⟩))⟩) <|
  mc_1 (mk_p (ms_aload_n (k := 0) (by decide +kernel) rfl) rfl) <|
  mc_1 (mk_p (ms_iload_n (k := 2) (by decide +kernel) rfl) rfl) <|
  mc_1 (mk_c (k := mq_23) rfl ⟨mo_23, 160, 1179, none, ml_m_LeagueOffice_Chances_160, Or.inr (Or.inr (Or.inl ⟨1, TX1, 10, by decide, rfl, rfl, (by decide +kernel), ⟨1, rfl, by decide +kernel⟩, ml_in_1181, ml_se_26⟩))⟩) <|
  mc_1 (mk_p (ms_lcmp (by decide +kernel)) rfl) <| mc_0
def mt_22_5 : List (Nat × mx_I) := [(80, 41, 87, 0, []), (83, 0, 1, 1, []), (84, 48, 88, 0, []), (87, 0, 0, 1, []), (88, 5, 5, 2, []), (90, 2, 5, 2, []), (92, 36, 117, 0, []), (95, 2, 3, 1, [])]
theorem mw_22_5 : ∀ e ∈ mt_22_5, mx_Ok mx_MT mq_22 e.1 e.2 := 
  mc_1 (mk_p (ms_if_le (off := (7)) (by decide +kernel) (by decide)) rfl) <|
  mc_1 (mk_p (ms_iconst (n := 1) (by decide +kernel) (by decide +kernel)) rfl) <|
  mc_1 (mk_p (ms_goto (off := (4)) (by decide +kernel) (by decide)) rfl) <|
  mc_1 (mk_p (ms_iconst (n := 0) (by decide +kernel) (by decide +kernel)) rfl) <|
  mc_1 (mk_p (ms_istore (by decide +kernel) (by decide)) rfl) <|
  mc_1 (mk_p (ms_iload (by decide +kernel)) rfl) <|
  mc_1 (mk_p (ms_if_eq (off := (25)) (by decide +kernel) (by decide)) rfl) <|
  mc_1 (mk_p (ms_iload_n (k := 3) (by decide +kernel) rfl) rfl) <| mc_0
def mt_22_6 : List (Nat × mx_I) := [(96, 38, 114, 0, []), (99, 4, 0, 1, []), (100, 2, 4, 2, []), (102, 70, 23, 2, [1]), (105, 4, 0, 1, []), (106, 2, 3, 1, []), (107, 70, 23, 2, [1]), (110, 27, 0, 0, []), (111, 39, 117, 0, [])]
theorem mw_22_6 : ∀ e ∈ mt_22_6, mx_Ok mx_MT mq_22 e.1 e.2 := 
  mc_1 (mk_p (ms_if_lt (off := (18)) (by decide +kernel) (by decide)) rfl) <|
  mc_1 (mk_p (ms_aload_n (k := 0) (by decide +kernel) rfl) rfl) <|
  mc_1 (mk_p (ms_iload (by decide +kernel)) rfl) <|
  mc_1 (mk_c (k := mq_23) rfl ⟨mo_23, 160, 1179, none, ml_m_LeagueOffice_Chances_160, Or.inr (Or.inr (Or.inl ⟨1, TX1, 10, by decide, rfl, rfl, (by decide +kernel), ⟨1, rfl, by decide +kernel⟩, ml_in_1181, ml_se_26⟩))⟩) <|
  mc_1 (mk_p (ms_aload_n (k := 0) (by decide +kernel) rfl) rfl) <|
  mc_1 (mk_p (ms_iload_n (k := 3) (by decide +kernel) rfl) rfl) <|
  mc_1 (mk_c (k := mq_23) rfl ⟨mo_23, 160, 1179, none, ml_m_LeagueOffice_Chances_160, Or.inr (Or.inr (Or.inl ⟨1, TX1, 10, by decide, rfl, rfl, (by decide +kernel), ⟨1, rfl, by decide +kernel⟩, ml_in_1181, ml_se_26⟩))⟩) <|
  mc_1 (mk_p (ms_lcmp (by decide +kernel)) rfl) <|
  mc_1 (mk_p (ms_if_ge (off := (6)) (by decide +kernel) (by decide)) rfl) <| mc_0
def mt_22_7 : List (Nat × mx_I) := [(114, 2, 4, 2, []), (116, 5, 3, 1, []), (117, 8, 4, 1, []), (120, 48, 55, 0, []), (123, 2, 3, 1, []), (124, 39, 131, 0, []), (127, 0, 4294967295, 1, [])]
theorem mw_22_7 : ∀ e ∈ mt_22_7, mx_Ok mx_MT mq_22 e.1 e.2 := 
  mc_1 (mk_p (ms_iload (by decide +kernel)) rfl) <|
  mc_1 (mk_p (ms_istore_n (k := 3) (by decide +kernel) rfl (by decide)) rfl) <|
  mc_1 (mk_p (ms_iinc (n := (1)) (by decide +kernel) (by decide +kernel) (by decide)) rfl) <|
  mc_1 (mk_p (ms_goto (off := (-65)) (by decide +kernel) (by decide)) rfl) <|
  mc_1 (mk_p (ms_iload_n (k := 3) (by decide +kernel) rfl) rfl) <|
  mc_1 (mk_p (ms_if_ge (off := (7)) (by decide +kernel) (by decide)) rfl) <|
  mc_1 (mk_p (ms_iconst (n := (-1)) (by decide +kernel) (by decide +kernel)) rfl) <| mc_0
def mt_22_8 : List (Nat × mx_I) := [(128, 48, 137, 0, []), (131, 4, 0, 1, []), (132, 2, 3, 1, []), (133, 70, 23, 2, [1]), (136, 29, 0, 0, []), (137, 80, 0, 0, [])]
theorem mw_22_8 : ∀ e ∈ mt_22_8, mx_Ok mx_MT mq_22 e.1 e.2 := 
  mc_1 (mk_p (ms_goto (off := (9)) (by decide +kernel) (by decide)) rfl) <|
  mc_1 (mk_p (ms_aload_n (k := 0) (by decide +kernel) rfl) rfl) <|
  mc_1 (mk_p (ms_iload_n (k := 3) (by decide +kernel) rfl) rfl) <|
  mc_1 (mk_c (k := mq_23) rfl ⟨mo_23, 160, 1179, none, ml_m_LeagueOffice_Chances_160, Or.inr (Or.inr (Or.inl ⟨1, TX1, 10, by decide, rfl, rfl, (by decide +kernel), ⟨1, rfl, by decide +kernel⟩, ml_in_1181, ml_se_26⟩))⟩) <|
  mc_1 (mk_p (ms_l2i (by decide +kernel)) rfl) <|
  mc_1 (mk_r (Or.inl ⟨rfl, by decide +kernel, _, rfl, mf_0⟩) rfl) <| mc_0
def mt_22 : List (List (Nat × mx_I)) := [mt_22_0, mt_22_1, mt_22_2, mt_22_3, mt_22_4, mt_22_5, mt_22_6, mt_22_7, mt_22_8]
theorem mw_22 : ∀ ch ∈ mt_22, ∀ e ∈ ch, mx_Ok mx_MT mq_22 e.1 e.2 := mc_2 mw_22_0 <| mc_2 mw_22_1 <| mc_2 mw_22_2 <| mc_2 mw_22_3 <| mc_2 mw_22_4 <| mc_2 mw_22_5 <| mc_2 mw_22_6 <| mc_2 mw_22_7 <| mc_2 mw_22_8 <| mc_3
/- 23 LeagueOffice$Chances.sumOf(I)J -/
def mt_23_0 : List (Nat × mx_I) := [(0, 2, 1, 1, []), (1, 38, 22, 0, []), (4, 2, 1, 1, []), (5, 4, 0, 1, []), (6, 51, 1, 8, []), (9, 57, 0, 0, []), (10, 45, 22, 0, []), (13, 4, 0, 1, []), (14, 51, 1, 8, [])]
theorem mw_23_0 : ∀ e ∈ mt_23_0, mx_Ok mx_MT mq_23 e.1 e.2 := 
  mc_1 (mk_p (ms_iload_n (k := 1) (by decide +kernel) rfl) rfl) <|
  mc_1 (mk_p (ms_if_lt (off := (21)) (by decide +kernel) (by decide)) rfl) <|
  mc_1 (mk_p (ms_iload_n (k := 1) (by decide +kernel) rfl) rfl) <|
  mc_1 (mk_p (ms_aload_n (k := 0) (by decide +kernel) rfl) rfl) <|
  mc_1 (mk_p (ms_get (idx := 32) (w := 428) (host := none) mx_c1 (by decide) ml_f_LeagueOffice_Chances_32 (by decide +kernel)) rfl) <|
  mc_1 (mk_p (ms_alen (by decide +kernel)) rfl) <|
  mc_1 (mk_p (ms_icmp_ge (off := (12)) (by decide +kernel) (by decide)) rfl) <|
  mc_1 (mk_p (ms_aload_n (k := 0) (by decide +kernel) rfl) rfl) <|
  mc_1 (mk_p (ms_get (idx := 32) (w := 428) (host := none) mx_c1 (by decide) ml_f_LeagueOffice_Chances_32 (by decide +kernel)) rfl) <| mc_0
def mt_23_1 : List (Nat × mx_I) := [(17, 2, 1, 1, []), (18, 58, 3, 0, []), (19, 48, 23, 0, []), (22, 1, 0, 1, []), (23, 81, 0, 0, [])]
theorem mw_23_1 : ∀ e ∈ mt_23_1, mx_Ok mx_MT mq_23 e.1 e.2 := 
  mc_1 (mk_p (ms_iload_n (k := 1) (by decide +kernel) rfl) rfl) <|
  mc_1 (mk_p (ms_ald (Or.inr (Or.inr (Or.inr ⟨rfl, by decide +kernel⟩)))) rfl) <|
  mc_1 (mk_p (ms_goto (off := (4)) (by decide +kernel) (by decide)) rfl) <|
  mc_1 (mk_p (ms_lconst (n := 0) (by decide +kernel) rfl) rfl) <|
  mc_1 (mk_r (Or.inr (Or.inl ⟨rfl, by decide +kernel, rfl⟩)) rfl) <| mc_0
def mt_23 : List (List (Nat × mx_I)) := [mt_23_0, mt_23_1]
theorem mw_23 : ∀ ch ∈ mt_23, ∀ e ∈ ch, mx_Ok mx_MT mq_23 e.1 e.2 := mc_2 mw_23_0 <| mc_2 mw_23_1 <| mc_3
/- 24 LeagueOffice$Failures.<init>(LLeagueOffice$Book;)V -/
def mt_24_0 : List (Nat × mx_I) := [(0, 4, 0, 1, []), (1, 63, 0, 0, []), (4, 4, 0, 1, []), (5, 61, 6, 0, []), (8, 33, 0, 0, []), (9, 0, 12, 2, []), (11, 70, 64, 2, [98]), (14, 54, 2, 2, [])]
theorem mw_24_0 : ∀ e ∈ mt_24_0, mx_Ok mx_MT mq_24 e.1 e.2 := 
  mc_1 (mk_p (ms_aload_n (k := 0) (by decide +kernel) rfl) rfl) <|
  mc_1 (mk_p (ms_obj (idx := 3) 387 103 104 (by decide +kernel) (by decide +kernel) (by decide +kernel) (by decide +kernel)) rfl) <|
  mc_1 (mk_p (ms_aload_n (k := 0) (by decide +kernel) rfl) rfl) <|
  mc_1 (mk_p (mn_6 (idx := 9) 388 (by decide +kernel) (by decide +kernel)) rfl) <|
  mc_1 (mk_p (ms_dup (by decide +kernel)) rfl) <|
  mc_1 (mk_p (ms_bipush (n := 12) (by decide +kernel) (by decide +kernel)) rfl) <|
  mc_1 (mk_c (k := mq_64) rfl ⟨mo_64, 11, 389, none, ml_m_LeagueOffice_Failures_11, Or.inr (Or.inl ⟨rfl, (by decide +kernel), ⟨1, rfl, by decide +kernel⟩, ml_in_114, rfl, rfl⟩)⟩) <|
  mc_1 (mk_p (ms_putF (idx := 14) (w := 392) mx_c2 (by decide) ml_f_LeagueOffice_Failures_14 rfl rfl rfl rfl (by decide +kernel)) rfl) <| mc_0
def mt_24_1 : List (Nat × mx_I) := [(17, 4, 0, 1, []), (18, 61, 6, 0, []), (21, 33, 0, 0, []), (22, 0, 60, 2, []), (24, 70, 64, 2, [98]), (27, 54, 2, 3, []), (30, 4, 0, 1, []), (31, 61, 6, 0, [])]
theorem mw_24_1 : ∀ e ∈ mt_24_1, mx_Ok mx_MT mq_24 e.1 e.2 := 
  mc_1 (mk_p (ms_aload_n (k := 0) (by decide +kernel) rfl) rfl) <|
  mc_1 (mk_p (mn_6 (idx := 9) 388 (by decide +kernel) (by decide +kernel)) rfl) <|
  mc_1 (mk_p (ms_dup (by decide +kernel)) rfl) <|
  mc_1 (mk_p (ms_bipush (n := 60) (by decide +kernel) (by decide +kernel)) rfl) <|
  mc_1 (mk_c (k := mq_64) rfl ⟨mo_64, 11, 389, none, ml_m_LeagueOffice_Failures_11, Or.inr (Or.inl ⟨rfl, (by decide +kernel), ⟨1, rfl, by decide +kernel⟩, ml_in_114, rfl, rfl⟩)⟩) <|
  mc_1 (mk_p (ms_putF (idx := 20) (w := 393) mx_c2 (by decide) ml_f_LeagueOffice_Failures_20 rfl rfl rfl rfl (by decide +kernel)) rfl) <|
  mc_1 (mk_p (ms_aload_n (k := 0) (by decide +kernel) rfl) rfl) <|
  mc_1 (mk_p (mn_6 (idx := 9) 388 (by decide +kernel) (by decide +kernel)) rfl) <| mc_0
def mt_24_2 : List (Nat × mx_I) := [(34, 33, 0, 0, []), (35, 0, 720, 3, []), (38, 70, 64, 2, [98]), (41, 54, 2, 4, []), (44, 4, 0, 1, []), (45, 61, 6, 0, [])]
theorem mw_24_2 : ∀ e ∈ mt_24_2, mx_Ok mx_MT mq_24 e.1 e.2 := 
  mc_1 (mk_p (ms_dup (by decide +kernel)) rfl) <|
  mc_1 (mk_p (ms_sipush (n := 720) (by decide +kernel) (by decide +kernel)) rfl) <|
  mc_1 (mk_c (k := mq_64) rfl ⟨mo_64, 11, 389, none, ml_m_LeagueOffice_Failures_11, Or.inr (Or.inl ⟨rfl, (by decide +kernel), ⟨1, rfl, by decide +kernel⟩, ml_in_114, rfl, rfl⟩)⟩) <|
  mc_1 (mk_p (ms_putF (idx := 23) (w := 394) mx_c2 (by decide) ml_f_LeagueOffice_Failures_23 rfl rfl rfl rfl (by decide +kernel)) rfl) <|
  mc_1 (mk_p (ms_aload_n (k := 0) (by decide +kernel) rfl) rfl) <|
  mc_1 (mk_p (mn_6 (idx := 9) 388 (by decide +kernel) (by decide +kernel)) rfl) <| mc_0
def mt_24_3 : List (Nat × mx_I) := [(48, 33, 0, 0, []), (49, 0, 720, 3, []), (52, 70, 64, 2, [98]), (55, 54, 2, 5, []), (58, 4, 0, 1, []), (59, 61, 6, 0, []), (62, 33, 0, 0, []), (63, 0, 720, 3, [])]
theorem mw_24_3 : ∀ e ∈ mt_24_3, mx_Ok mx_MT mq_24 e.1 e.2 := 
  mc_1 (mk_p (ms_dup (by decide +kernel)) rfl) <|
  mc_1 (mk_p (ms_sipush (n := 720) (by decide +kernel) (by decide +kernel)) rfl) <|
  mc_1 (mk_c (k := mq_64) rfl ⟨mo_64, 11, 389, none, ml_m_LeagueOffice_Failures_11, Or.inr (Or.inl ⟨rfl, (by decide +kernel), ⟨1, rfl, by decide +kernel⟩, ml_in_114, rfl, rfl⟩)⟩) <|
  mc_1 (mk_p (ms_putF (idx := 26) (w := 395) mx_c2 (by decide) ml_f_LeagueOffice_Failures_26 rfl rfl rfl rfl (by decide +kernel)) rfl) <|
  mc_1 (mk_p (ms_aload_n (k := 0) (by decide +kernel) rfl) rfl) <|
  mc_1 (mk_p (mn_6 (idx := 9) 388 (by decide +kernel) (by decide +kernel)) rfl) <|
  mc_1 (mk_p (ms_dup (by decide +kernel)) rfl) <|
  mc_1 (mk_p (ms_sipush (n := 720) (by decide +kernel) (by decide +kernel)) rfl) <| mc_0
def mt_24_4 : List (Nat × mx_I) := [(66, 70, 64, 2, [98]), (69, 54, 2, 6, []), (72, 4, 0, 1, []), (73, 4, 1, 1, []), (74, 54, 2, 0, []), (77, 83, 0, 0, [])]
theorem mw_24_4 : ∀ e ∈ mt_24_4, mx_Ok mx_MT mq_24 e.1 e.2 := 
  mc_1 (mk_c (k := mq_64) rfl ⟨mo_64, 11, 389, none, ml_m_LeagueOffice_Failures_11, Or.inr (Or.inl ⟨rfl, (by decide +kernel), ⟨1, rfl, by decide +kernel⟩, ml_in_114, rfl, rfl⟩)⟩) <|
  mc_1 (mk_p (ms_putF (idx := 29) (w := 396) mx_c2 (by decide) ml_f_LeagueOffice_Failures_29 rfl rfl rfl rfl (by decide +kernel)) rfl) <|
  mc_1 (mk_p (ms_aload_n (k := 0) (by decide +kernel) rfl) rfl) <|
  mc_1 (mk_p (ms_aload_n (k := 1) (by decide +kernel) rfl) rfl) <|
  mc_1 (mk_p (ms_putF (idx := 32) (w := 390) mx_c2 (by decide) ml_f_LeagueOffice_Failures_32 rfl rfl rfl rfl (by decide +kernel)) rfl) <|
  mc_1 (mk_r (Or.inr (Or.inr (Or.inr ⟨rfl, by decide +kernel, rfl⟩))) rfl) <| mc_0
def mt_24 : List (List (Nat × mx_I)) := [mt_24_0, mt_24_1, mt_24_2, mt_24_3, mt_24_4]
theorem mw_24 : ∀ ch ∈ mt_24, ∀ e ∈ ch, mx_Ok mx_MT mq_24 e.1 e.2 := mc_2 mw_24_0 <| mc_2 mw_24_1 <| mc_2 mw_24_2 <| mc_2 mw_24_3 <| mc_2 mw_24_4 <| mc_3
/- 25 LeagueOffice$Failures.hasFailed(I)Z -/
def mt_25_0 : List (Nat × mx_I) := [(0, 4, 0, 1, []), (1, 51, 2, 2, []), (4, 2, 1, 1, []), (5, 70, 68, 2, [6]), (8, 41, 15, 0, []), (11, 0, 1, 1, []), (12, 48, 16, 0, []), (15, 0, 0, 1, [])]
theorem mw_25_0 : ∀ e ∈ mt_25_0, mx_Ok mx_MT mq_25 e.1 e.2 := 
  mc_1 (mk_p (ms_aload_n (k := 0) (by decide +kernel) rfl) rfl) <|
  mc_1 (mk_p (ms_get (idx := 14) (w := 392) (host := none) mx_c2 (by decide) ml_f_LeagueOffice_Failures_14 (by decide +kernel)) rfl) <|
  mc_1 (mk_p (ms_iload_n (k := 1) (by decide +kernel) rfl) rfl) <|
  mc_1 (mk_c (k := mq_68) rfl ⟨mo_68, 36, 1063, none, ml_m_LeagueOffice_Failures_36, Or.inr (Or.inr (Or.inl ⟨6, TX6, 2, by decide, rfl, rfl, (by decide +kernel), ⟨1, rfl, by decide +kernel⟩, ml_in_591, ml_se_592⟩))⟩) <|
  mc_1 (mk_p (ms_if_le (off := (7)) (by decide +kernel) (by decide)) rfl) <|
  mc_1 (mk_p (ms_iconst (n := 1) (by decide +kernel) (by decide +kernel)) rfl) <|
  mc_1 (mk_p (ms_goto (off := (4)) (by decide +kernel) (by decide)) rfl) <|
  mc_1 (mk_p (ms_iconst (n := 0) (by decide +kernel) (by decide +kernel)) rfl) <| mc_0
def mt_25_1 : List (Nat × mx_I) := [(16, 80, 2, 0, [])]
theorem mw_25_1 : ∀ e ∈ mt_25_1, mx_Ok mx_MT mq_25 e.1 e.2 := 
  mc_1 (mk_r (Or.inl ⟨rfl, by decide +kernel, _, rfl, mf_2⟩) rfl) <| mc_0
def mt_25 : List (List (Nat × mx_I)) := [mt_25_0, mt_25_1]
theorem mw_25 : ∀ ch ∈ mt_25, ∀ e ∈ ch, mx_Ok mx_MT mq_25 e.1 e.2 := mc_2 mw_25_0 <| mc_2 mw_25_1 <| mc_3
/- 26 LeagueOffice$Failures.enter(I)I -/
def mt_26_0 : List (Nat × mx_I) := [(0, 4, 0, 1, []), (1, 33, 0, 0, []), (2, 51, 2, 1, []), (5, 0, 1, 1, []), (6, 9, 0, 0, []), (7, 53, 2, 1, []), (10, 4, 0, 1, []), (11, 51, 2, 2, []), (14, 2, 1, 1, []), (15, 4, 0, 1, [])]
theorem mw_26_0 : ∀ e ∈ mt_26_0, mx_Ok mx_MT mq_26 e.1 e.2 := 
  mc_1 (mk_p (ms_aload_n (k := 0) (by decide +kernel) rfl) rfl) <|
  mc_1 (mk_p (ms_dup (by decide +kernel)) rfl) <|
  mc_1 (mk_p (ms_get (idx := 40) (w := 391) (host := none) mx_c2 (by decide) ml_f_LeagueOffice_Failures_40 (by decide +kernel)) rfl) <|
  mc_1 (mk_p (ms_iconst (n := 1) (by decide +kernel) (by decide +kernel)) rfl) <|
  mc_1 (mk_p (ms_iadd (by decide +kernel)) rfl) <|
  mc_1 (mk_p (ms_put (idx := 40) (w := 391) (host := none) mx_c2 (by decide) ml_f_LeagueOffice_Failures_40 rfl rfl (by decide +kernel)) rfl) <|
  mc_1 (mk_p (ms_aload_n (k := 0) (by decide +kernel) rfl) rfl) <|
  mc_1 (mk_p (ms_get (idx := 14) (w := 392) (host := none) mx_c2 (by decide) ml_f_LeagueOffice_Failures_14 (by decide +kernel)) rfl) <|
  mc_1 (mk_p (ms_iload_n (k := 1) (by decide +kernel) rfl) rfl) <|
  mc_1 (mk_p (ms_aload_n (k := 0) (by decide +kernel) rfl) rfl) <| mc_0
def mt_26_1 : List (Nat × mx_I) := [(16, 51, 2, 1, []), (19, 70, 69, 3, [6]), (22, 4, 0, 1, []), (23, 51, 2, 0, []), (26, 4, 0, 1, []), (27, 51, 2, 0, []), (30, 51, 0, 0, [])]
theorem mw_26_1 : ∀ e ∈ mt_26_1, mx_Ok mx_MT mq_26 e.1 e.2 := 
  mc_1 (mk_p (ms_get (idx := 40) (w := 391) (host := none) mx_c2 (by decide) ml_f_LeagueOffice_Failures_40 (by decide +kernel)) rfl) <|
  mc_1 (mk_c (k := mq_69) rfl ⟨mo_69, 44, 1068, none, ml_m_LeagueOffice_Failures_44, Or.inr (Or.inr (Or.inl ⟨6, TX6, 2, by decide, rfl, rfl, (by decide +kernel), ⟨2, rfl, by decide +kernel⟩, ml_in_665, ml_se_666⟩))⟩) <|
  mc_1 (mk_p (ms_aload_n (k := 0) (by decide +kernel) rfl) rfl) <|
  mc_1 (mk_p (ms_get (idx := 32) (w := 390) (host := none) mx_c2 (by decide) ml_f_LeagueOffice_Failures_32 (by decide +kernel)) rfl) <|
  mc_1 (mk_p (ms_aload_n (k := 0) (by decide +kernel) rfl) rfl) <|
  mc_1 (mk_p (ms_get (idx := 32) (w := 390) (host := none) mx_c2 (by decide) ml_f_LeagueOffice_Failures_32 (by decide +kernel)) rfl) <|
  mc_1 (mk_p (ms_get (idx := 48) (w := 132) (host := (some "LeagueOffice")) mx_c0 (by decide) ml_f_LeagueOffice_Failures_48 (by decide +kernel)) rfl) <| mc_0
def mt_26_2 : List (Nat × mx_I) := [(33, 70, 11, 2, [0]), (36, 0, 0, 1, []), (37, 5, 2, 1, []), (38, 2, 2, 1, []), (39, 0, 60, 2, []), (41, 45, 64, 0, []), (44, 4, 0, 1, []), (45, 51, 2, 4, [])]
theorem mw_26_2 : ∀ e ∈ mt_26_2, mx_Ok mx_MT mq_26 e.1 e.2 := 
  mc_1 (mk_c (k := mq_11) rfl ⟨mo_11, 53, 1069, none, ml_m_LeagueOffice_Failures_53, Or.inr (Or.inr (Or.inl ⟨0, TX0, 12, by decide, rfl, rfl, (by decide +kernel), ⟨1, rfl, by decide +kernel⟩, ml_in_815, ml_se_816⟩))⟩) <|
  mc_1 (mk_p (ms_iconst (n := 0) (by decide +kernel) (by decide +kernel)) rfl) <|
  mc_1 (mk_p (ms_istore_n (k := 2) (by decide +kernel) rfl (by decide)) rfl) <|
  mc_1 (mk_p (ms_iload_n (k := 2) (by decide +kernel) rfl) rfl) <|
  mc_1 (mk_p (ms_bipush (n := 60) (by decide +kernel) (by decide +kernel)) rfl) <|
  mc_1 (mk_p (ms_icmp_ge (off := (23)) (by decide +kernel) (by decide)) rfl) <|
  mc_1 (mk_p (ms_aload_n (k := 0) (by decide +kernel) rfl) rfl) <|
  mc_1 (mk_p (ms_get (idx := 23) (w := 394) (host := none) mx_c2 (by decide) ml_f_LeagueOffice_Failures_23 (by decide +kernel)) rfl) <| mc_0
def mt_26_3 : List (Nat × mx_I) := [(48, 2, 1, 1, []), (49, 0, 60, 2, []), (51, 11, 0, 0, []), (52, 2, 2, 1, []), (53, 9, 0, 0, []), (54, 0, 4294967295, 1, []), (55, 70, 69, 3, [6]), (58, 8, 2, 1, []), (61, 48, 38, 0, [])]
theorem mw_26_3 : ∀ e ∈ mt_26_3, mx_Ok mx_MT mq_26 e.1 e.2 := 
  mc_1 (mk_p (ms_iload_n (k := 1) (by decide +kernel) rfl) rfl) <|
  mc_1 (mk_p (ms_bipush (n := 60) (by decide +kernel) (by decide +kernel)) rfl) <|
  mc_1 (mk_p (ms_imul (by decide +kernel)) rfl) <|
  mc_1 (mk_p (ms_iload_n (k := 2) (by decide +kernel) rfl) rfl) <|
  mc_1 (mk_p (ms_iadd (by decide +kernel)) rfl) <|
  mc_1 (mk_p (ms_iconst (n := (-1)) (by decide +kernel) (by decide +kernel)) rfl) <|
  mc_1 (mk_c (k := mq_69) rfl ⟨mo_69, 44, 1068, none, ml_m_LeagueOffice_Failures_44, Or.inr (Or.inr (Or.inl ⟨6, TX6, 2, by decide, rfl, rfl, (by decide +kernel), ⟨2, rfl, by decide +kernel⟩, ml_in_665, ml_se_666⟩))⟩) <|
  mc_1 (mk_p (ms_iinc (n := (1)) (by decide +kernel) (by decide +kernel) (by decide)) rfl) <|
  mc_1 (mk_p (ms_goto (off := (-23)) (by decide +kernel) (by decide)) rfl) <| mc_0
def mt_26_4 : List (Nat × mx_I) := [(64, 0, 0, 1, []), (65, 5, 2, 1, []), (66, 0, 0, 1, []), (67, 5, 3, 1, []), (68, 0, 0, 1, []), (69, 5, 4, 2, []), (71, 2, 4, 2, []), (73, 4, 0, 1, []), (74, 51, 2, 0, []), (77, 51, 0, 3, [])]
theorem mw_26_4 : ∀ e ∈ mt_26_4, mx_Ok mx_MT mq_26 e.1 e.2 := 
  mc_1 (mk_p (ms_iconst (n := 0) (by decide +kernel) (by decide +kernel)) rfl) <|
  mc_1 (mk_p (ms_istore_n (k := 2) (by decide +kernel) rfl (by decide)) rfl) <|
  mc_1 (mk_p (ms_iconst (n := 0) (by decide +kernel) (by decide +kernel)) rfl) <|
  mc_1 (mk_p (ms_istore_n (k := 3) (by decide +kernel) rfl (by decide)) rfl) <|
  mc_1 (mk_p (ms_iconst (n := 0) (by decide +kernel) (by decide +kernel)) rfl) <|
  mc_1 (mk_p (ms_istore (by decide +kernel) (by decide)) rfl) <|
  mc_1 (mk_p (ms_iload (by decide +kernel)) rfl) <|
  mc_1 (mk_p (ms_aload_n (k := 0) (by decide +kernel) rfl) rfl) <|
  mc_1 (mk_p (ms_get (idx := 32) (w := 390) (host := none) mx_c2 (by decide) ml_f_LeagueOffice_Failures_32 (by decide +kernel)) rfl) <|
  mc_1 (mk_p (ms_get (idx := 56) (w := 145) (host := (some "LeagueOffice")) mx_c0 (by decide) ml_f_LeagueOffice_Failures_56 (by decide +kernel)) rfl) <| mc_0
def mt_26_5 : List (Nat × mx_I) := [(80, 70, 65, 1, [6]), (83, 45, 141, 0, []), (86, 4, 0, 1, []), (87, 51, 2, 0, []), (90, 2, 4, 2, []), (92, 2, 1, 1, []), (93, 70, 5, 3, [0])]
theorem mw_26_5 : ∀ e ∈ mt_26_5, mx_Ok mx_MT mq_26 e.1 e.2 := 
  mc_1 (mk_c (k := mq_65) rfl ⟨mo_65, 59, 1070, none, ml_m_LeagueOffice_Failures_59, Or.inr (Or.inr (Or.inl ⟨6, TX6, 2, by decide, rfl, rfl, (by decide +kernel), ⟨0, rfl, by decide +kernel⟩, ml_in_587, ml_se_588⟩))⟩) <|
  mc_1 (mk_p (ms_icmp_ge (off := (58)) (by decide +kernel) (by decide)) rfl) <|
  mc_1 (mk_p (ms_aload_n (k := 0) (by decide +kernel) rfl) rfl) <|
  mc_1 (mk_p (ms_get (idx := 32) (w := 390) (host := none) mx_c2 (by decide) ml_f_LeagueOffice_Failures_32 (by decide +kernel)) rfl) <|
  mc_1 (mk_p (ms_iload (by decide +kernel)) rfl) <|
  mc_1 (mk_p (ms_iload_n (k := 1) (by decide +kernel) rfl) rfl) <|
  mc_1 (mk_c (k := mq_5) rfl ⟨mo_5, 63, 1071, none, ml_m_LeagueOffice_Failures_63, Or.inr (Or.inr (Or.inl ⟨0, TX0, 12, by decide, rfl, rfl, (by decide +kernel), ⟨2, rfl, by decide +kernel⟩, ml_in_1018, ml_se_1019⟩))⟩) <| mc_0
def mt_26_6 : List (Nat × mx_I) := [(96, 36, 135, 0, []), (99, 4, 0, 1, []), (100, 51, 2, 0, []), (103, 2, 4, 2, []), (105, 70, 6, 2, [0]), (108, 37, 114, 0, []), (111, 48, 135, 0, [])]
theorem mw_26_6 : ∀ e ∈ mt_26_6, mx_Ok mx_MT mq_26 e.1 e.2 := 
  mc_1 (mk_p (ms_if_eq (off := (39)) (by decide +kernel) (by decide)) rfl) <|
  mc_1 (mk_p (ms_aload_n (k := 0) (by decide +kernel) rfl) rfl) <|
  mc_1 (mk_p (ms_get (idx := 32) (w := 390) (host := none) mx_c2 (by decide) ml_f_LeagueOffice_Failures_32 (by decide +kernel)) rfl) <|
  mc_1 (mk_p (ms_iload (by decide +kernel)) rfl) <|
  mc_1 (mk_c (k := mq_6) rfl ⟨mo_6, 67, 1072, none, ml_m_LeagueOffice_Failures_67, Or.inr (Or.inr (Or.inl ⟨0, TX0, 12, by decide, rfl, rfl, (by decide +kernel), ⟨1, rfl, by decide +kernel⟩, ml_in_867, ml_se_868⟩))⟩) <|
  mc_1 (mk_p (ms_if_ne (off := (6)) (by decide +kernel) (by decide)) rfl) <|
  mc_1 (mk_p (ms_goto (off := (24)) (by decide +kernel) (by decide)) rfl) <| mc_0
def mt_26_7 : List (Nat × mx_I) := [(114, 8, 2, 1, []), (117, 4, 0, 1, []), (118, 51, 2, 0, []), (121, 51, 0, 11, []), (124, 2, 4, 2, []), (126, 70, 68, 2, [6])]
theorem mw_26_7 : ∀ e ∈ mt_26_7, mx_Ok mx_MT mq_26 e.1 e.2 := 
  mc_1 (mk_p (ms_iinc (n := (1)) (by decide +kernel) (by decide +kernel) (by decide)) rfl) <|
  mc_1 (mk_p (ms_aload_n (k := 0) (by decide +kernel) rfl) rfl) <|
  mc_1 (mk_p (ms_get (idx := 32) (w := 390) (host := none) mx_c2 (by decide) ml_f_LeagueOffice_Failures_32 (by decide +kernel)) rfl) <|
  mc_1 (mk_p (ms_get (idx := 71) (w := 179) (host := (some "LeagueOffice")) mx_c0 (by decide) ml_f_LeagueOffice_Failures_71 (by decide +kernel)) rfl) <|
  mc_1 (mk_p (ms_iload (by decide +kernel)) rfl) <|
  mc_1 (mk_c (k := mq_68) rfl ⟨mo_68, 36, 1063, none, ml_m_LeagueOffice_Failures_36, Or.inr (Or.inr (Or.inl ⟨6, TX6, 2, by decide, rfl, rfl, (by decide +kernel), ⟨1, rfl, by decide +kernel⟩, ml_in_591, ml_se_592⟩))⟩) <| mc_0
def mt_26_8 : List (Nat × mx_I) := [(129, 38, 135, 0, []), (132, 8, 3, 1, []), (135, 8, 4, 1, []), (138, 48, 71, 0, []), (141, 4, 0, 1, []), (142, 2, 1, 1, []), (143, 0, 2, 1, [])]
theorem mw_26_8 : ∀ e ∈ mt_26_8, mx_Ok mx_MT mq_26 e.1 e.2 := 
  mc_1 (mk_p (ms_if_lt (off := (6)) (by decide +kernel) (by decide)) rfl) <|
  mc_1 (mk_p (ms_iinc (n := (1)) (by decide +kernel) (by decide +kernel) (by decide)) rfl) <|
  mc_1 (mk_p (ms_iinc (n := (1)) (by decide +kernel) (by decide +kernel) (by decide)) rfl) <|
  mc_1 (mk_p (ms_goto (off := (-67)) (by decide +kernel) (by decide)) rfl) <|
  mc_1 (mk_p (ms_aload_n (k := 0) (by decide +kernel) rfl) rfl) <|
  mc_1 (mk_p (ms_iload_n (k := 1) (by decide +kernel) rfl) rfl) <|
  mc_1 (mk_p (ms_iconst (n := 2) (by decide +kernel) (by decide +kernel)) rfl) <| mc_0
def mt_26_9 : List (Nat × mx_I) := [(144, 2, 3, 1, []), (145, 11, 0, 0, []), (146, 2, 2, 1, []), (147, 45, 154, 0, []), (150, 0, 1, 1, []), (151, 48, 155, 0, []), (154, 0, 0, 1, []), (155, 70, 27, 3, [2]), (158, 80, 0, 0, [])]
theorem mw_26_9 : ∀ e ∈ mt_26_9, mx_Ok mx_MT mq_26 e.1 e.2 := 
  mc_1 (mk_p (ms_iload_n (k := 3) (by decide +kernel) rfl) rfl) <|
  mc_1 (mk_p (ms_imul (by decide +kernel)) rfl) <|
  mc_1 (mk_p (ms_iload_n (k := 2) (by decide +kernel) rfl) rfl) <|
  mc_1 (mk_p (ms_icmp_ge (off := (7)) (by decide +kernel) (by decide)) rfl) <|
  mc_1 (mk_p (ms_iconst (n := 1) (by decide +kernel) (by decide +kernel)) rfl) <|
  mc_1 (mk_p (ms_goto (off := (4)) (by decide +kernel) (by decide)) rfl) <|
  mc_1 (mk_p (ms_iconst (n := 0) (by decide +kernel) (by decide +kernel)) rfl) <|
  mc_1 (mk_c (k := mq_27) rfl ⟨mo_27, 74, 1073, none, ml_m_LeagueOffice_Failures_74, Or.inr (Or.inr (Or.inl ⟨2, TX2, 7, by decide, rfl, rfl, (by decide +kernel), ⟨2, rfl, by decide +kernel⟩, ml_in_1075, ml_se_17⟩))⟩) <|
  mc_1 (mk_r (Or.inl ⟨rfl, by decide +kernel, _, rfl, mf_0⟩) rfl) <| mc_0
def mt_26 : List (List (Nat × mx_I)) := [mt_26_0, mt_26_1, mt_26_2, mt_26_3, mt_26_4, mt_26_5, mt_26_6, mt_26_7, mt_26_8, mt_26_9]
theorem mw_26 : ∀ ch ∈ mt_26, ∀ e ∈ ch, mx_Ok mx_MT mq_26 e.1 e.2 := mc_2 mw_26_0 <| mc_2 mw_26_1 <| mc_2 mw_26_2 <| mc_2 mw_26_3 <| mc_2 mw_26_4 <| mc_2 mw_26_5 <| mc_2 mw_26_6 <| mc_2 mw_26_7 <| mc_2 mw_26_8 <| mc_2 mw_26_9 <| mc_3
/- 27 LeagueOffice$Failures.changeGames(IZ)I -/
def mt_27_0 : List (Nat × mx_I) := [(0, 0, 0, 1, []), (1, 5, 3, 1, []), (2, 0, 0, 1, []), (3, 5, 4, 2, []), (5, 2, 4, 2, []), (7, 4, 0, 1, []), (8, 51, 2, 0, []), (11, 51, 0, 3, []), (14, 70, 65, 1, [6])]
theorem mw_27_0 : ∀ e ∈ mt_27_0, mx_Ok mx_MT mq_27 e.1 e.2 := 
  mc_1 (mk_p (ms_iconst (n := 0) (by decide +kernel) (by decide +kernel)) rfl) <|
  mc_1 (mk_p (ms_istore_n (k := 3) (by decide +kernel) rfl (by decide)) rfl) <|
  mc_1 (mk_p (ms_iconst (n := 0) (by decide +kernel) (by decide +kernel)) rfl) <|
  mc_1 (mk_p (ms_istore (by decide +kernel) (by decide)) rfl) <|
  mc_1 (mk_p (ms_iload (by decide +kernel)) rfl) <|
  mc_1 (mk_p (ms_aload_n (k := 0) (by decide +kernel) rfl) rfl) <|
  mc_1 (mk_p (ms_get (idx := 32) (w := 390) (host := none) mx_c2 (by decide) ml_f_LeagueOffice_Failures_32 (by decide +kernel)) rfl) <|
  mc_1 (mk_p (ms_get (idx := 56) (w := 145) (host := (some "LeagueOffice")) mx_c0 (by decide) ml_f_LeagueOffice_Failures_56 (by decide +kernel)) rfl) <|
  mc_1 (mk_c (k := mq_65) rfl ⟨mo_65, 59, 1070, none, ml_m_LeagueOffice_Failures_59, Or.inr (Or.inr (Or.inl ⟨6, TX6, 2, by decide, rfl, rfl, (by decide +kernel), ⟨0, rfl, by decide +kernel⟩, ml_in_587, ml_se_588⟩))⟩) <| mc_0
def mt_27_1 : List (Nat × mx_I) := [(17, 45, 113, 0, []), (20, 4, 0, 1, []), (21, 51, 2, 0, []), (24, 2, 4, 2, []), (26, 2, 1, 1, []), (27, 70, 5, 3, [0]), (30, 36, 107, 0, [])]
theorem mw_27_1 : ∀ e ∈ mt_27_1, mx_Ok mx_MT mq_27 e.1 e.2 := 
  mc_1 (mk_p (ms_icmp_ge (off := (96)) (by decide +kernel) (by decide)) rfl) <|
  mc_1 (mk_p (ms_aload_n (k := 0) (by decide +kernel) rfl) rfl) <|
  mc_1 (mk_p (ms_get (idx := 32) (w := 390) (host := none) mx_c2 (by decide) ml_f_LeagueOffice_Failures_32 (by decide +kernel)) rfl) <|
  mc_1 (mk_p (ms_iload (by decide +kernel)) rfl) <|
  mc_1 (mk_p (ms_iload_n (k := 1) (by decide +kernel) rfl) rfl) <|
  mc_1 (mk_c (k := mq_5) rfl ⟨mo_5, 63, 1071, none, ml_m_LeagueOffice_Failures_63, Or.inr (Or.inr (Or.inl ⟨0, TX0, 12, by decide, rfl, rfl, (by decide +kernel), ⟨2, rfl, by decide +kernel⟩, ml_in_1018, ml_se_1019⟩))⟩) <|
  mc_1 (mk_p (ms_if_eq (off := (77)) (by decide +kernel) (by decide)) rfl) <| mc_0
def mt_27_2 : List (Nat × mx_I) := [(33, 4, 0, 1, []), (34, 51, 2, 0, []), (37, 2, 4, 2, []), (39, 70, 6, 2, [0]), (42, 37, 48, 0, []), (45, 48, 107, 0, [])]
theorem mw_27_2 : ∀ e ∈ mt_27_2, mx_Ok mx_MT mq_27 e.1 e.2 := 
  mc_1 (mk_p (ms_aload_n (k := 0) (by decide +kernel) rfl) rfl) <|
  mc_1 (mk_p (ms_get (idx := 32) (w := 390) (host := none) mx_c2 (by decide) ml_f_LeagueOffice_Failures_32 (by decide +kernel)) rfl) <|
  mc_1 (mk_p (ms_iload (by decide +kernel)) rfl) <|
  mc_1 (mk_c (k := mq_6) rfl ⟨mo_6, 67, 1072, none, ml_m_LeagueOffice_Failures_67, Or.inr (Or.inr (Or.inl ⟨0, TX0, 12, by decide, rfl, rfl, (by decide +kernel), ⟨1, rfl, by decide +kernel⟩, ml_in_867, ml_se_868⟩))⟩) <|
  mc_1 (mk_p (ms_if_ne (off := (6)) (by decide +kernel) (by decide)) rfl) <|
  mc_1 (mk_p (ms_goto (off := (62)) (by decide +kernel) (by decide)) rfl) <| mc_0
def mt_27_3 : List (Nat × mx_I) := [(48, 2, 2, 1, []), (49, 37, 70, 0, []), (52, 4, 0, 1, []), (53, 51, 2, 0, []), (56, 51, 0, 11, []), (59, 2, 4, 2, []), (61, 70, 68, 2, [6])]
theorem mw_27_3 : ∀ e ∈ mt_27_3, mx_Ok mx_MT mq_27 e.1 e.2 := 
  mc_1 (mk_p (ms_iload_n (k := 2) (by decide +kernel) rfl) rfl) <|
  mc_1 (mk_p (ms_if_ne (off := (21)) (by decide +kernel) (by decide)) rfl) <|
  mc_1 (mk_p (ms_aload_n (k := 0) (by decide +kernel) rfl) rfl) <|
  mc_1 (mk_p (ms_get (idx := 32) (w := 390) (host := none) mx_c2 (by decide) ml_f_LeagueOffice_Failures_32 (by decide +kernel)) rfl) <|
  mc_1 (mk_p (ms_get (idx := 71) (w := 179) (host := (some "LeagueOffice")) mx_c0 (by decide) ml_f_LeagueOffice_Failures_71 (by decide +kernel)) rfl) <|
  mc_1 (mk_p (ms_iload (by decide +kernel)) rfl) <|
  mc_1 (mk_c (k := mq_68) rfl ⟨mo_68, 36, 1063, none, ml_m_LeagueOffice_Failures_36, Or.inr (Or.inr (Or.inl ⟨6, TX6, 2, by decide, rfl, rfl, (by decide +kernel), ⟨1, rfl, by decide +kernel⟩, ml_in_591, ml_se_592⟩))⟩) <| mc_0
def mt_27_4 : List (Nat × mx_I) := [(64, 38, 70, 0, []), (67, 48, 107, 0, []), (70, 4, 0, 1, []), (71, 2, 1, 1, []), (72, 2, 4, 2, []), (74, 70, 28, 3, [2]), (77, 2, 2, 1, []), (78, 36, 97, 0, [])]
theorem mw_27_4 : ∀ e ∈ mt_27_4, mx_Ok mx_MT mq_27 e.1 e.2 := 
  mc_1 (mk_p (ms_if_lt (off := (6)) (by decide +kernel) (by decide)) rfl) <|
  mc_1 (mk_p (ms_goto (off := (40)) (by decide +kernel) (by decide)) rfl) <|
  mc_1 (mk_p (ms_aload_n (k := 0) (by decide +kernel) rfl) rfl) <|
  mc_1 (mk_p (ms_iload_n (k := 1) (by decide +kernel) rfl) rfl) <|
  mc_1 (mk_p (ms_iload (by decide +kernel)) rfl) <|
  mc_1 (mk_c (k := mq_28) rfl ⟨mo_28, 78, 1077, none, ml_m_LeagueOffice_Failures_78, Or.inr (Or.inr (Or.inl ⟨2, TX2, 7, by decide, rfl, rfl, (by decide +kernel), ⟨2, rfl, by decide +kernel⟩, ml_in_1079, ml_se_18⟩))⟩) <|
  mc_1 (mk_p (ms_iload_n (k := 2) (by decide +kernel) rfl) rfl) <|
  mc_1 (mk_p (ms_if_eq (off := (19)) (by decide +kernel) (by decide)) rfl) <| mc_0
def mt_27_5 : List (Nat × mx_I) := [(81, 4, 0, 1, []), (82, 51, 2, 0, []), (85, 51, 0, 3, []), (88, 2, 4, 2, []), (90, 0, 5, 1, []), (91, 70, 69, 3, [6]), (94, 48, 104, 0, [])]
theorem mw_27_5 : ∀ e ∈ mt_27_5, mx_Ok mx_MT mq_27 e.1 e.2 := 
  mc_1 (mk_p (ms_aload_n (k := 0) (by decide +kernel) rfl) rfl) <|
  mc_1 (mk_p (ms_get (idx := 32) (w := 390) (host := none) mx_c2 (by decide) ml_f_LeagueOffice_Failures_32 (by decide +kernel)) rfl) <|
  mc_1 (mk_p (ms_get (idx := 56) (w := 145) (host := (some "LeagueOffice")) mx_c0 (by decide) ml_f_LeagueOffice_Failures_56 (by decide +kernel)) rfl) <|
  mc_1 (mk_p (ms_iload (by decide +kernel)) rfl) <|
  mc_1 (mk_p (ms_iconst (n := 5) (by decide +kernel) (by decide +kernel)) rfl) <|
  mc_1 (mk_c (k := mq_69) rfl ⟨mo_69, 44, 1068, none, ml_m_LeagueOffice_Failures_44, Or.inr (Or.inr (Or.inl ⟨6, TX6, 2, by decide, rfl, rfl, (by decide +kernel), ⟨2, rfl, by decide +kernel⟩, ml_in_665, ml_se_666⟩))⟩) <|
  mc_1 (mk_p (ms_goto (off := (10)) (by decide +kernel) (by decide)) rfl) <| mc_0
def mt_27_6 : List (Nat × mx_I) := [(97, 4, 0, 1, []), (98, 2, 4, 2, []), (100, 2, 1, 1, []), (101, 70, 29, 3, [2]), (104, 8, 3, 1, []), (107, 8, 4, 1, []), (110, 48, 5, 0, [])]
theorem mw_27_6 : ∀ e ∈ mt_27_6, mx_Ok mx_MT mq_27 e.1 e.2 := 
  mc_1 (mk_p (ms_aload_n (k := 0) (by decide +kernel) rfl) rfl) <|
  mc_1 (mk_p (ms_iload (by decide +kernel)) rfl) <|
  mc_1 (mk_p (ms_iload_n (k := 1) (by decide +kernel) rfl) rfl) <|
  mc_1 (mk_c (k := mq_29) rfl ⟨mo_29, 81, 1081, none, ml_m_LeagueOffice_Failures_81, Or.inr (Or.inr (Or.inl ⟨2, TX2, 7, by decide, rfl, rfl, (by decide +kernel), ⟨2, rfl, by decide +kernel⟩, ml_in_1083, ml_se_19⟩))⟩) <|
  mc_1 (mk_p (ms_iinc (n := (1)) (by decide +kernel) (by decide +kernel) (by decide)) rfl) <|
  mc_1 (mk_p (ms_iinc (n := (1)) (by decide +kernel) (by decide +kernel) (by decide)) rfl) <|
  mc_1 (mk_p (ms_goto (off := (-105)) (by decide +kernel) (by decide)) rfl) <| mc_0
def mt_27_7 : List (Nat × mx_I) := [(113, 2, 3, 1, []), (114, 80, 0, 0, [])]
theorem mw_27_7 : ∀ e ∈ mt_27_7, mx_Ok mx_MT mq_27 e.1 e.2 := 
  mc_1 (mk_p (ms_iload_n (k := 3) (by decide +kernel) rfl) rfl) <|
  mc_1 (mk_r (Or.inl ⟨rfl, by decide +kernel, _, rfl, mf_0⟩) rfl) <| mc_0
def mt_27 : List (List (Nat × mx_I)) := [mt_27_0, mt_27_1, mt_27_2, mt_27_3, mt_27_4, mt_27_5, mt_27_6, mt_27_7]
theorem mw_27 : ∀ ch ∈ mt_27, ∀ e ∈ ch, mx_Ok mx_MT mq_27 e.1 e.2 := mc_2 mw_27_0 <| mc_2 mw_27_1 <| mc_2 mw_27_2 <| mc_2 mw_27_3 <| mc_2 mw_27_4 <| mc_2 mw_27_5 <| mc_2 mw_27_6 <| mc_2 mw_27_7 <| mc_3
/- 28 LeagueOffice$Failures.keep(II)V -/
def mt_28_0 : List (Nat × mx_I) := [(0, 4, 0, 1, []), (1, 51, 2, 4, []), (4, 2, 1, 1, []), (5, 0, 60, 2, []), (7, 11, 0, 0, []), (8, 2, 2, 1, []), (9, 9, 0, 0, []), (10, 4, 0, 1, []), (11, 51, 2, 0, []), (14, 51, 0, 3, [])]
theorem mw_28_0 : ∀ e ∈ mt_28_0, mx_Ok mx_MT mq_28 e.1 e.2 := 
  mc_1 (mk_p (ms_aload_n (k := 0) (by decide +kernel) rfl) rfl) <|
  mc_1 (mk_p (ms_get (idx := 23) (w := 394) (host := none) mx_c2 (by decide) ml_f_LeagueOffice_Failures_23 (by decide +kernel)) rfl) <|
  mc_1 (mk_p (ms_iload_n (k := 1) (by decide +kernel) rfl) rfl) <|
  mc_1 (mk_p (ms_bipush (n := 60) (by decide +kernel) (by decide +kernel)) rfl) <|
  mc_1 (mk_p (ms_imul (by decide +kernel)) rfl) <|
  mc_1 (mk_p (ms_iload_n (k := 2) (by decide +kernel) rfl) rfl) <|
  mc_1 (mk_p (ms_iadd (by decide +kernel)) rfl) <|
  mc_1 (mk_p (ms_aload_n (k := 0) (by decide +kernel) rfl) rfl) <|
  mc_1 (mk_p (ms_get (idx := 32) (w := 390) (host := none) mx_c2 (by decide) ml_f_LeagueOffice_Failures_32 (by decide +kernel)) rfl) <|
  mc_1 (mk_p (ms_get (idx := 56) (w := 145) (host := (some "LeagueOffice")) mx_c0 (by decide) ml_f_LeagueOffice_Failures_56 (by decide +kernel)) rfl) <| mc_0
def mt_28_1 : List (Nat × mx_I) := [(17, 2, 2, 1, []), (18, 70, 68, 2, [6]), (21, 70, 69, 3, [6]), (24, 4, 0, 1, []), (25, 51, 2, 5, []), (28, 2, 1, 1, []), (29, 0, 60, 2, []), (31, 11, 0, 0, [])]
theorem mw_28_1 : ∀ e ∈ mt_28_1, mx_Ok mx_MT mq_28 e.1 e.2 := 
  mc_1 (mk_p (ms_iload_n (k := 2) (by decide +kernel) rfl) rfl) <|
  mc_1 (mk_c (k := mq_68) rfl ⟨mo_68, 36, 1063, none, ml_m_LeagueOffice_Failures_36, Or.inr (Or.inr (Or.inl ⟨6, TX6, 2, by decide, rfl, rfl, (by decide +kernel), ⟨1, rfl, by decide +kernel⟩, ml_in_591, ml_se_592⟩))⟩) <|
  mc_1 (mk_c (k := mq_69) rfl ⟨mo_69, 44, 1068, none, ml_m_LeagueOffice_Failures_44, Or.inr (Or.inr (Or.inl ⟨6, TX6, 2, by decide, rfl, rfl, (by decide +kernel), ⟨2, rfl, by decide +kernel⟩, ml_in_665, ml_se_666⟩))⟩) <|
  mc_1 (mk_p (ms_aload_n (k := 0) (by decide +kernel) rfl) rfl) <|
  mc_1 (mk_p (ms_get (idx := 26) (w := 395) (host := none) mx_c2 (by decide) ml_f_LeagueOffice_Failures_26 (by decide +kernel)) rfl) <|
  mc_1 (mk_p (ms_iload_n (k := 1) (by decide +kernel) rfl) rfl) <|
  mc_1 (mk_p (ms_bipush (n := 60) (by decide +kernel) (by decide +kernel)) rfl) <|
  mc_1 (mk_p (ms_imul (by decide +kernel)) rfl) <| mc_0
def mt_28_2 : List (Nat × mx_I) := [(32, 2, 2, 1, []), (33, 9, 0, 0, []), (34, 4, 0, 1, []), (35, 51, 2, 0, []), (38, 51, 0, 4, []), (41, 2, 2, 1, []), (42, 70, 68, 2, [6]), (45, 70, 69, 3, [6])]
theorem mw_28_2 : ∀ e ∈ mt_28_2, mx_Ok mx_MT mq_28 e.1 e.2 := 
  mc_1 (mk_p (ms_iload_n (k := 2) (by decide +kernel) rfl) rfl) <|
  mc_1 (mk_p (ms_iadd (by decide +kernel)) rfl) <|
  mc_1 (mk_p (ms_aload_n (k := 0) (by decide +kernel) rfl) rfl) <|
  mc_1 (mk_p (ms_get (idx := 32) (w := 390) (host := none) mx_c2 (by decide) ml_f_LeagueOffice_Failures_32 (by decide +kernel)) rfl) <|
  mc_1 (mk_p (ms_get (idx := 84) (w := 153) (host := (some "LeagueOffice")) mx_c0 (by decide) ml_f_LeagueOffice_Failures_84 (by decide +kernel)) rfl) <|
  mc_1 (mk_p (ms_iload_n (k := 2) (by decide +kernel) rfl) rfl) <|
  mc_1 (mk_c (k := mq_68) rfl ⟨mo_68, 36, 1063, none, ml_m_LeagueOffice_Failures_36, Or.inr (Or.inr (Or.inl ⟨6, TX6, 2, by decide, rfl, rfl, (by decide +kernel), ⟨1, rfl, by decide +kernel⟩, ml_in_591, ml_se_592⟩))⟩) <|
  mc_1 (mk_c (k := mq_69) rfl ⟨mo_69, 44, 1068, none, ml_m_LeagueOffice_Failures_44, Or.inr (Or.inr (Or.inl ⟨6, TX6, 2, by decide, rfl, rfl, (by decide +kernel), ⟨2, rfl, by decide +kernel⟩, ml_in_665, ml_se_666⟩))⟩) <| mc_0
def mt_28_3 : List (Nat × mx_I) := [(48, 4, 0, 1, []), (49, 51, 2, 6, []), (52, 2, 1, 1, []), (53, 0, 60, 2, []), (55, 11, 0, 0, []), (56, 2, 2, 1, []), (57, 9, 0, 0, []), (58, 4, 0, 1, []), (59, 51, 2, 0, []), (62, 51, 0, 5, [])]
theorem mw_28_3 : ∀ e ∈ mt_28_3, mx_Ok mx_MT mq_28 e.1 e.2 := 
  mc_1 (mk_p (ms_aload_n (k := 0) (by decide +kernel) rfl) rfl) <|
  mc_1 (mk_p (ms_get (idx := 29) (w := 396) (host := none) mx_c2 (by decide) ml_f_LeagueOffice_Failures_29 (by decide +kernel)) rfl) <|
  mc_1 (mk_p (ms_iload_n (k := 1) (by decide +kernel) rfl) rfl) <|
  mc_1 (mk_p (ms_bipush (n := 60) (by decide +kernel) (by decide +kernel)) rfl) <|
  mc_1 (mk_p (ms_imul (by decide +kernel)) rfl) <|
  mc_1 (mk_p (ms_iload_n (k := 2) (by decide +kernel) rfl) rfl) <|
  mc_1 (mk_p (ms_iadd (by decide +kernel)) rfl) <|
  mc_1 (mk_p (ms_aload_n (k := 0) (by decide +kernel) rfl) rfl) <|
  mc_1 (mk_p (ms_get (idx := 32) (w := 390) (host := none) mx_c2 (by decide) ml_f_LeagueOffice_Failures_32 (by decide +kernel)) rfl) <|
  mc_1 (mk_p (ms_get (idx := 87) (w := 160) (host := (some "LeagueOffice")) mx_c0 (by decide) ml_f_LeagueOffice_Failures_87 (by decide +kernel)) rfl) <| mc_0
def mt_28_4 : List (Nat × mx_I) := [(65, 2, 2, 1, []), (66, 70, 68, 2, [6]), (69, 70, 69, 3, [6]), (72, 4, 0, 1, []), (73, 51, 2, 3, []), (76, 2, 2, 1, []), (77, 4, 0, 1, []), (78, 51, 2, 1, [])]
theorem mw_28_4 : ∀ e ∈ mt_28_4, mx_Ok mx_MT mq_28 e.1 e.2 := 
  mc_1 (mk_p (ms_iload_n (k := 2) (by decide +kernel) rfl) rfl) <|
  mc_1 (mk_c (k := mq_68) rfl ⟨mo_68, 36, 1063, none, ml_m_LeagueOffice_Failures_36, Or.inr (Or.inr (Or.inl ⟨6, TX6, 2, by decide, rfl, rfl, (by decide +kernel), ⟨1, rfl, by decide +kernel⟩, ml_in_591, ml_se_592⟩))⟩) <|
  mc_1 (mk_c (k := mq_69) rfl ⟨mo_69, 44, 1068, none, ml_m_LeagueOffice_Failures_44, Or.inr (Or.inr (Or.inl ⟨6, TX6, 2, by decide, rfl, rfl, (by decide +kernel), ⟨2, rfl, by decide +kernel⟩, ml_in_665, ml_se_666⟩))⟩) <|
  mc_1 (mk_p (ms_aload_n (k := 0) (by decide +kernel) rfl) rfl) <|
  mc_1 (mk_p (ms_get (idx := 20) (w := 393) (host := none) mx_c2 (by decide) ml_f_LeagueOffice_Failures_20 (by decide +kernel)) rfl) <|
  mc_1 (mk_p (ms_iload_n (k := 2) (by decide +kernel) rfl) rfl) <|
  mc_1 (mk_p (ms_aload_n (k := 0) (by decide +kernel) rfl) rfl) <|
  mc_1 (mk_p (ms_get (idx := 40) (w := 391) (host := none) mx_c2 (by decide) ml_f_LeagueOffice_Failures_40 (by decide +kernel)) rfl) <| mc_0
def mt_28_5 : List (Nat × mx_I) := [(81, 70, 69, 3, [6]), (84, 83, 0, 0, [])]
theorem mw_28_5 : ∀ e ∈ mt_28_5, mx_Ok mx_MT mq_28 e.1 e.2 := 
  mc_1 (mk_c (k := mq_69) rfl ⟨mo_69, 44, 1068, none, ml_m_LeagueOffice_Failures_44, Or.inr (Or.inr (Or.inl ⟨6, TX6, 2, by decide, rfl, rfl, (by decide +kernel), ⟨2, rfl, by decide +kernel⟩, ml_in_665, ml_se_666⟩))⟩) <|
  mc_1 (mk_r (Or.inr (Or.inr (Or.inr ⟨rfl, by decide +kernel, rfl⟩))) rfl) <| mc_0
def mt_28 : List (List (Nat × mx_I)) := [mt_28_0, mt_28_1, mt_28_2, mt_28_3, mt_28_4, mt_28_5]
theorem mw_28 : ∀ ch ∈ mt_28, ∀ e ∈ ch, mx_Ok mx_MT mq_28 e.1 e.2 := mc_2 mw_28_0 <| mc_2 mw_28_1 <| mc_2 mw_28_2 <| mc_2 mw_28_3 <| mc_2 mw_28_4 <| mc_2 mw_28_5 <| mc_3
/- 29 LeagueOffice$Failures.give(II)V -/
def mt_29_0 : List (Nat × mx_I) := [(0, 4, 0, 1, []), (1, 51, 2, 0, []), (4, 51, 0, 4, []), (7, 2, 1, 1, []), (8, 70, 68, 2, [6]), (11, 2, 2, 1, []), (12, 43, 29, 0, []), (15, 4, 0, 1, [])]
theorem mw_29_0 : ∀ e ∈ mt_29_0, mx_Ok mx_MT mq_29 e.1 e.2 := 
  mc_1 (mk_p (ms_aload_n (k := 0) (by decide +kernel) rfl) rfl) <|
  mc_1 (mk_p (ms_get (idx := 32) (w := 390) (host := none) mx_c2 (by decide) ml_f_LeagueOffice_Failures_32 (by decide +kernel)) rfl) <|
  mc_1 (mk_p (ms_get (idx := 84) (w := 153) (host := (some "LeagueOffice")) mx_c0 (by decide) ml_f_LeagueOffice_Failures_84 (by decide +kernel)) rfl) <|
  mc_1 (mk_p (ms_iload_n (k := 1) (by decide +kernel) rfl) rfl) <|
  mc_1 (mk_c (k := mq_68) rfl ⟨mo_68, 36, 1063, none, ml_m_LeagueOffice_Failures_36, Or.inr (Or.inr (Or.inl ⟨6, TX6, 2, by decide, rfl, rfl, (by decide +kernel), ⟨1, rfl, by decide +kernel⟩, ml_in_591, ml_se_592⟩))⟩) <|
  mc_1 (mk_p (ms_iload_n (k := 2) (by decide +kernel) rfl) rfl) <|
  mc_1 (mk_p (ms_icmp_ne (off := (17)) (by decide +kernel) (by decide)) rfl) <|
  mc_1 (mk_p (ms_aload_n (k := 0) (by decide +kernel) rfl) rfl) <| mc_0
def mt_29_1 : List (Nat × mx_I) := [(16, 51, 2, 0, []), (19, 51, 0, 5, []), (22, 2, 1, 1, []), (23, 70, 68, 2, [6]), (26, 48, 40, 0, []), (29, 4, 0, 1, []), (30, 51, 2, 0, [])]
theorem mw_29_1 : ∀ e ∈ mt_29_1, mx_Ok mx_MT mq_29 e.1 e.2 := 
  mc_1 (mk_p (ms_get (idx := 32) (w := 390) (host := none) mx_c2 (by decide) ml_f_LeagueOffice_Failures_32 (by decide +kernel)) rfl) <|
  mc_1 (mk_p (ms_get (idx := 87) (w := 160) (host := (some "LeagueOffice")) mx_c0 (by decide) ml_f_LeagueOffice_Failures_87 (by decide +kernel)) rfl) <|
  mc_1 (mk_p (ms_iload_n (k := 1) (by decide +kernel) rfl) rfl) <|
  mc_1 (mk_c (k := mq_68) rfl ⟨mo_68, 36, 1063, none, ml_m_LeagueOffice_Failures_36, Or.inr (Or.inr (Or.inl ⟨6, TX6, 2, by decide, rfl, rfl, (by decide +kernel), ⟨1, rfl, by decide +kernel⟩, ml_in_591, ml_se_592⟩))⟩) <|
  mc_1 (mk_p (ms_goto (off := (14)) (by decide +kernel) (by decide)) rfl) <|
  mc_1 (mk_p (ms_aload_n (k := 0) (by decide +kernel) rfl) rfl) <|
  mc_1 (mk_p (ms_get (idx := 32) (w := 390) (host := none) mx_c2 (by decide) ml_f_LeagueOffice_Failures_32 (by decide +kernel)) rfl) <| mc_0
def mt_29_2 : List (Nat × mx_I) := [(33, 51, 0, 4, []), (36, 2, 1, 1, []), (37, 70, 68, 2, [6]), (40, 5, 3, 1, []), (41, 4, 0, 1, []), (42, 51, 2, 0, []), (45, 51, 0, 3, [])]
theorem mw_29_2 : ∀ e ∈ mt_29_2, mx_Ok mx_MT mq_29 e.1 e.2 := 
  mc_1 (mk_p (ms_get (idx := 84) (w := 153) (host := (some "LeagueOffice")) mx_c0 (by decide) ml_f_LeagueOffice_Failures_84 (by decide +kernel)) rfl) <|
  mc_1 (mk_p (ms_iload_n (k := 1) (by decide +kernel) rfl) rfl) <|
  mc_1 (mk_c (k := mq_68) rfl ⟨mo_68, 36, 1063, none, ml_m_LeagueOffice_Failures_36, Or.inr (Or.inr (Or.inl ⟨6, TX6, 2, by decide, rfl, rfl, (by decide +kernel), ⟨1, rfl, by decide +kernel⟩, ml_in_591, ml_se_592⟩))⟩) <|
  mc_1 (mk_p (ms_istore_n (k := 3) (by decide +kernel) rfl (by decide)) rfl) <|
  mc_1 (mk_p (ms_aload_n (k := 0) (by decide +kernel) rfl) rfl) <|
  mc_1 (mk_p (ms_get (idx := 32) (w := 390) (host := none) mx_c2 (by decide) ml_f_LeagueOffice_Failures_32 (by decide +kernel)) rfl) <|
  mc_1 (mk_p (ms_get (idx := 56) (w := 145) (host := (some "LeagueOffice")) mx_c0 (by decide) ml_f_LeagueOffice_Failures_56 (by decide +kernel)) rfl) <| mc_0
def mt_29_3 : List (Nat × mx_I) := [(48, 2, 1, 1, []), (49, 0, 3, 1, []), (50, 70, 69, 3, [6]), (53, 4, 0, 1, []), (54, 51, 2, 0, []), (57, 51, 0, 4, []), (60, 2, 1, 1, []), (61, 2, 3, 1, []), (62, 70, 69, 3, [6])]
theorem mw_29_3 : ∀ e ∈ mt_29_3, mx_Ok mx_MT mq_29 e.1 e.2 := 
  mc_1 (mk_p (ms_iload_n (k := 1) (by decide +kernel) rfl) rfl) <|
  mc_1 (mk_p (ms_iconst (n := 3) (by decide +kernel) (by decide +kernel)) rfl) <|
  mc_1 (mk_c (k := mq_69) rfl ⟨mo_69, 44, 1068, none, ml_m_LeagueOffice_Failures_44, Or.inr (Or.inr (Or.inl ⟨6, TX6, 2, by decide, rfl, rfl, (by decide +kernel), ⟨2, rfl, by decide +kernel⟩, ml_in_665, ml_se_666⟩))⟩) <|
  mc_1 (mk_p (ms_aload_n (k := 0) (by decide +kernel) rfl) rfl) <|
  mc_1 (mk_p (ms_get (idx := 32) (w := 390) (host := none) mx_c2 (by decide) ml_f_LeagueOffice_Failures_32 (by decide +kernel)) rfl) <|
  mc_1 (mk_p (ms_get (idx := 84) (w := 153) (host := (some "LeagueOffice")) mx_c0 (by decide) ml_f_LeagueOffice_Failures_84 (by decide +kernel)) rfl) <|
  mc_1 (mk_p (ms_iload_n (k := 1) (by decide +kernel) rfl) rfl) <|
  mc_1 (mk_p (ms_iload_n (k := 3) (by decide +kernel) rfl) rfl) <|
  mc_1 (mk_c (k := mq_69) rfl ⟨mo_69, 44, 1068, none, ml_m_LeagueOffice_Failures_44, Or.inr (Or.inr (Or.inl ⟨6, TX6, 2, by decide, rfl, rfl, (by decide +kernel), ⟨2, rfl, by decide +kernel⟩, ml_in_665, ml_se_666⟩))⟩) <| mc_0
def mt_29_4 : List (Nat × mx_I) := [(65, 4, 0, 1, []), (66, 51, 2, 0, []), (69, 51, 0, 5, []), (72, 2, 1, 1, []), (73, 2, 2, 1, []), (74, 70, 69, 3, [6]), (77, 83, 0, 0, [])]
theorem mw_29_4 : ∀ e ∈ mt_29_4, mx_Ok mx_MT mq_29 e.1 e.2 := 
  mc_1 (mk_p (ms_aload_n (k := 0) (by decide +kernel) rfl) rfl) <|
  mc_1 (mk_p (ms_get (idx := 32) (w := 390) (host := none) mx_c2 (by decide) ml_f_LeagueOffice_Failures_32 (by decide +kernel)) rfl) <|
  mc_1 (mk_p (ms_get (idx := 87) (w := 160) (host := (some "LeagueOffice")) mx_c0 (by decide) ml_f_LeagueOffice_Failures_87 (by decide +kernel)) rfl) <|
  mc_1 (mk_p (ms_iload_n (k := 1) (by decide +kernel) rfl) rfl) <|
  mc_1 (mk_p (ms_iload_n (k := 2) (by decide +kernel) rfl) rfl) <|
  mc_1 (mk_c (k := mq_69) rfl ⟨mo_69, 44, 1068, none, ml_m_LeagueOffice_Failures_44, Or.inr (Or.inr (Or.inl ⟨6, TX6, 2, by decide, rfl, rfl, (by decide +kernel), ⟨2, rfl, by decide +kernel⟩, ml_in_665, ml_se_666⟩))⟩) <|
  mc_1 (mk_r (Or.inr (Or.inr (Or.inr ⟨rfl, by decide +kernel, rfl⟩))) rfl) <| mc_0
def mt_29 : List (List (Nat × mx_I)) := [mt_29_0, mt_29_1, mt_29_2, mt_29_3, mt_29_4]
theorem mw_29 : ∀ ch ∈ mt_29, ∀ e ∈ ch, mx_Ok mx_MT mq_29 e.1 e.2 := mc_2 mw_29_0 <| mc_2 mw_29_1 <| mc_2 mw_29_2 <| mc_2 mw_29_3 <| mc_2 mw_29_4 <| mc_3
/- 30 LeagueOffice$Failures.hasChanged(II)Z -/
def mt_30_0 : List (Nat × mx_I) := [(0, 4, 0, 1, []), (1, 51, 2, 4, []), (4, 2, 1, 1, []), (5, 0, 60, 2, []), (7, 11, 0, 0, []), (8, 2, 2, 1, []), (9, 9, 0, 0, []), (10, 70, 68, 2, [6]), (13, 0, 4294967295, 1, []), (14, 42, 21, 0, [])]
theorem mw_30_0 : ∀ e ∈ mt_30_0, mx_Ok mx_MT mq_30 e.1 e.2 := 
  mc_1 (mk_p (ms_aload_n (k := 0) (by decide +kernel) rfl) rfl) <|
  mc_1 (mk_p (ms_get (idx := 23) (w := 394) (host := none) mx_c2 (by decide) ml_f_LeagueOffice_Failures_23 (by decide +kernel)) rfl) <|
  mc_1 (mk_p (ms_iload_n (k := 1) (by decide +kernel) rfl) rfl) <|
  mc_1 (mk_p (ms_bipush (n := 60) (by decide +kernel) (by decide +kernel)) rfl) <|
  mc_1 (mk_p (ms_imul (by decide +kernel)) rfl) <|
  mc_1 (mk_p (ms_iload_n (k := 2) (by decide +kernel) rfl) rfl) <|
  mc_1 (mk_p (ms_iadd (by decide +kernel)) rfl) <|
  mc_1 (mk_c (k := mq_68) rfl ⟨mo_68, 36, 1063, none, ml_m_LeagueOffice_Failures_36, Or.inr (Or.inr (Or.inl ⟨6, TX6, 2, by decide, rfl, rfl, (by decide +kernel), ⟨1, rfl, by decide +kernel⟩, ml_in_591, ml_se_592⟩))⟩) <|
  mc_1 (mk_p (ms_iconst (n := (-1)) (by decide +kernel) (by decide +kernel)) rfl) <|
  mc_1 (mk_p (ms_icmp_eq (off := (7)) (by decide +kernel) (by decide)) rfl) <| mc_0
def mt_30_1 : List (Nat × mx_I) := [(17, 0, 1, 1, []), (18, 48, 22, 0, []), (21, 0, 0, 1, []), (22, 80, 2, 0, [])]
theorem mw_30_1 : ∀ e ∈ mt_30_1, mx_Ok mx_MT mq_30 e.1 e.2 := 
  mc_1 (mk_p (ms_iconst (n := 1) (by decide +kernel) (by decide +kernel)) rfl) <|
  mc_1 (mk_p (ms_goto (off := (4)) (by decide +kernel) (by decide)) rfl) <|
  mc_1 (mk_p (ms_iconst (n := 0) (by decide +kernel) (by decide +kernel)) rfl) <|
  mc_1 (mk_r (Or.inl ⟨rfl, by decide +kernel, _, rfl, mf_2⟩) rfl) <| mc_0
def mt_30 : List (List (Nat × mx_I)) := [mt_30_0, mt_30_1]
theorem mw_30 : ∀ ch ∈ mt_30, ∀ e ∈ ch, mx_Ok mx_MT mq_30 e.1 e.2 := mc_2 mw_30_0 <| mc_2 mw_30_1 <| mc_3
/- 31 LeagueOffice$Failures.canGoBack(I)Z -/
def mt_31_0 : List (Nat × mx_I) := [(0, 4, 0, 1, []), (1, 2, 1, 1, []), (2, 70, 25, 2, [2]), (5, 37, 10, 0, []), (8, 0, 0, 1, []), (9, 80, 2, 0, []), (10, 0, 0, 1, []), (11, 5, 2, 1, []), (12, 2, 2, 1, []), (13, 4, 0, 1, []), (14, 51, 2, 0, [])]
theorem mw_31_0 : ∀ e ∈ mt_31_0, mx_Ok mx_MT mq_31 e.1 e.2 := 
  mc_1 (mk_p (ms_aload_n (k := 0) (by decide +kernel) rfl) rfl) <|
  mc_1 (mk_p (ms_iload_n (k := 1) (by decide +kernel) rfl) rfl) <|
  mc_1 (mk_c (k := mq_25) rfl ⟨mo_25, 90, 1093, none, ml_m_LeagueOffice_Failures_90, Or.inr (Or.inr (Or.inl ⟨2, TX2, 7, by decide, rfl, rfl, (by decide +kernel), ⟨1, rfl, by decide +kernel⟩, ml_in_1060, ml_se_1061⟩))⟩) <|
  mc_1 (mk_p (ms_if_ne (off := (5)) (by decide +kernel) (by decide)) rfl) <|
  mc_1 (mk_p (ms_iconst (n := 0) (by decide +kernel) (by decide +kernel)) rfl) <|
  mc_1 (mk_r (Or.inl ⟨rfl, by decide +kernel, _, rfl, mf_2⟩) rfl) <|
  mc_1 (mk_p (ms_iconst (n := 0) (by decide +kernel) (by decide +kernel)) rfl) <|
  mc_1 (mk_p (ms_istore_n (k := 2) (by decide +kernel) rfl (by decide)) rfl) <|
  mc_1 (mk_p (ms_iload_n (k := 2) (by decide +kernel) rfl) rfl) <|
  mc_1 (mk_p (ms_aload_n (k := 0) (by decide +kernel) rfl) rfl) <|
  mc_1 (mk_p (ms_get (idx := 32) (w := 390) (host := none) mx_c2 (by decide) ml_f_LeagueOffice_Failures_32 (by decide +kernel)) rfl) <| mc_0
def mt_31_1 : List (Nat × mx_I) := [(17, 51, 0, 3, []), (20, 70, 65, 1, [6]), (23, 45, 62, 0, []), (26, 4, 0, 1, []), (27, 2, 1, 1, []), (28, 2, 2, 1, []), (29, 70, 30, 3, [2])]
theorem mw_31_1 : ∀ e ∈ mt_31_1, mx_Ok mx_MT mq_31 e.1 e.2 := 
  mc_1 (mk_p (ms_get (idx := 56) (w := 145) (host := (some "LeagueOffice")) mx_c0 (by decide) ml_f_LeagueOffice_Failures_56 (by decide +kernel)) rfl) <|
  mc_1 (mk_c (k := mq_65) rfl ⟨mo_65, 59, 1070, none, ml_m_LeagueOffice_Failures_59, Or.inr (Or.inr (Or.inl ⟨6, TX6, 2, by decide, rfl, rfl, (by decide +kernel), ⟨0, rfl, by decide +kernel⟩, ml_in_587, ml_se_588⟩))⟩) <|
  mc_1 (mk_p (ms_icmp_ge (off := (39)) (by decide +kernel) (by decide)) rfl) <|
  mc_1 (mk_p (ms_aload_n (k := 0) (by decide +kernel) rfl) rfl) <|
  mc_1 (mk_p (ms_iload_n (k := 1) (by decide +kernel) rfl) rfl) <|
  mc_1 (mk_p (ms_iload_n (k := 2) (by decide +kernel) rfl) rfl) <|
  mc_1 (mk_c (k := mq_30) rfl ⟨mo_30, 93, 1094, none, ml_m_LeagueOffice_Failures_93, Or.inr (Or.inr (Or.inl ⟨2, TX2, 7, by decide, rfl, rfl, (by decide +kernel), ⟨2, rfl, by decide +kernel⟩, ml_in_1096, ml_se_20⟩))⟩) <| mc_0
def mt_31_2 : List (Nat × mx_I) := [(32, 36, 56, 0, []), (35, 4, 0, 1, []), (36, 51, 2, 3, []), (39, 2, 2, 1, []), (40, 70, 68, 2, [6]), (43, 4, 0, 1, []), (44, 51, 2, 2, []), (47, 2, 1, 1, [])]
theorem mw_31_2 : ∀ e ∈ mt_31_2, mx_Ok mx_MT mq_31 e.1 e.2 := 
  mc_1 (mk_p (ms_if_eq (off := (24)) (by decide +kernel) (by decide)) rfl) <|
  mc_1 (mk_p (ms_aload_n (k := 0) (by decide +kernel) rfl) rfl) <|
  mc_1 (mk_p (ms_get (idx := 20) (w := 393) (host := none) mx_c2 (by decide) ml_f_LeagueOffice_Failures_20 (by decide +kernel)) rfl) <|
  mc_1 (mk_p (ms_iload_n (k := 2) (by decide +kernel) rfl) rfl) <|
  mc_1 (mk_c (k := mq_68) rfl ⟨mo_68, 36, 1063, none, ml_m_LeagueOffice_Failures_36, Or.inr (Or.inr (Or.inl ⟨6, TX6, 2, by decide, rfl, rfl, (by decide +kernel), ⟨1, rfl, by decide +kernel⟩, ml_in_591, ml_se_592⟩))⟩) <|
  mc_1 (mk_p (ms_aload_n (k := 0) (by decide +kernel) rfl) rfl) <|
  mc_1 (mk_p (ms_get (idx := 14) (w := 392) (host := none) mx_c2 (by decide) ml_f_LeagueOffice_Failures_14 (by decide +kernel)) rfl) <|
  mc_1 (mk_p (ms_iload_n (k := 1) (by decide +kernel) rfl) rfl) <| mc_0
def mt_31_3 : List (Nat × mx_I) := [(48, 70, 68, 2, [6]), (51, 42, 56, 0, []), (54, 0, 0, 1, []), (55, 80, 2, 0, []), (56, 8, 2, 1, []), (59, 48, 12, 0, []), (62, 0, 1, 1, []), (63, 80, 2, 0, [])]
theorem mw_31_3 : ∀ e ∈ mt_31_3, mx_Ok mx_MT mq_31 e.1 e.2 := 
  mc_1 (mk_c (k := mq_68) rfl ⟨mo_68, 36, 1063, none, ml_m_LeagueOffice_Failures_36, Or.inr (Or.inr (Or.inl ⟨6, TX6, 2, by decide, rfl, rfl, (by decide +kernel), ⟨1, rfl, by decide +kernel⟩, ml_in_591, ml_se_592⟩))⟩) <|
  mc_1 (mk_p (ms_icmp_eq (off := (5)) (by decide +kernel) (by decide)) rfl) <|
  mc_1 (mk_p (ms_iconst (n := 0) (by decide +kernel) (by decide +kernel)) rfl) <|
  mc_1 (mk_r (Or.inl ⟨rfl, by decide +kernel, _, rfl, mf_2⟩) rfl) <|
  mc_1 (mk_p (ms_iinc (n := (1)) (by decide +kernel) (by decide +kernel) (by decide)) rfl) <|
  mc_1 (mk_p (ms_goto (off := (-47)) (by decide +kernel) (by decide)) rfl) <|
  mc_1 (mk_p (ms_iconst (n := 1) (by decide +kernel) (by decide +kernel)) rfl) <|
  mc_1 (mk_r (Or.inl ⟨rfl, by decide +kernel, _, rfl, mf_2⟩) rfl) <| mc_0
def mt_31 : List (List (Nat × mx_I)) := [mt_31_0, mt_31_1, mt_31_2, mt_31_3]
theorem mw_31 : ∀ ch ∈ mt_31, ∀ e ∈ ch, mx_Ok mx_MT mq_31 e.1 e.2 := mc_2 mw_31_0 <| mc_2 mw_31_1 <| mc_2 mw_31_2 <| mc_2 mw_31_3 <| mc_3
/- 32 LeagueOffice$Failures.goBack(I)I -/
def mt_32_0 : List (Nat × mx_I) := [(0, 0, 0, 1, []), (1, 5, 2, 1, []), (2, 0, 0, 1, []), (3, 5, 3, 1, []), (4, 2, 3, 1, []), (5, 4, 0, 1, []), (6, 51, 2, 0, []), (9, 51, 0, 3, []), (12, 70, 65, 1, [6]), (15, 45, 111, 0, [])]
theorem mw_32_0 : ∀ e ∈ mt_32_0, mx_Ok mx_MT mq_32 e.1 e.2 := 
  mc_1 (mk_p (ms_iconst (n := 0) (by decide +kernel) (by decide +kernel)) rfl) <|
  mc_1 (mk_p (ms_istore_n (k := 2) (by decide +kernel) rfl (by decide)) rfl) <|
  mc_1 (mk_p (ms_iconst (n := 0) (by decide +kernel) (by decide +kernel)) rfl) <|
  mc_1 (mk_p (ms_istore_n (k := 3) (by decide +kernel) rfl (by decide)) rfl) <|
  mc_1 (mk_p (ms_iload_n (k := 3) (by decide +kernel) rfl) rfl) <|
  mc_1 (mk_p (ms_aload_n (k := 0) (by decide +kernel) rfl) rfl) <|
  mc_1 (mk_p (ms_get (idx := 32) (w := 390) (host := none) mx_c2 (by decide) ml_f_LeagueOffice_Failures_32 (by decide +kernel)) rfl) <|
  mc_1 (mk_p (ms_get (idx := 56) (w := 145) (host := (some "LeagueOffice")) mx_c0 (by decide) ml_f_LeagueOffice_Failures_56 (by decide +kernel)) rfl) <|
  mc_1 (mk_c (k := mq_65) rfl ⟨mo_65, 59, 1070, none, ml_m_LeagueOffice_Failures_59, Or.inr (Or.inr (Or.inl ⟨6, TX6, 2, by decide, rfl, rfl, (by decide +kernel), ⟨0, rfl, by decide +kernel⟩, ml_in_587, ml_se_588⟩))⟩) <|
  mc_1 (mk_p (ms_icmp_ge (off := (96)) (by decide +kernel) (by decide)) rfl) <| mc_0
def mt_32_1 : List (Nat × mx_I) := [(18, 4, 0, 1, []), (19, 2, 1, 1, []), (20, 2, 3, 1, []), (21, 70, 30, 3, [2]), (24, 37, 30, 0, []), (27, 48, 105, 0, []), (30, 4, 0, 1, []), (31, 51, 2, 0, [])]
theorem mw_32_1 : ∀ e ∈ mt_32_1, mx_Ok mx_MT mq_32 e.1 e.2 := 
  mc_1 (mk_p (ms_aload_n (k := 0) (by decide +kernel) rfl) rfl) <|
  mc_1 (mk_p (ms_iload_n (k := 1) (by decide +kernel) rfl) rfl) <|
  mc_1 (mk_p (ms_iload_n (k := 3) (by decide +kernel) rfl) rfl) <|
  mc_1 (mk_c (k := mq_30) rfl ⟨mo_30, 93, 1094, none, ml_m_LeagueOffice_Failures_93, Or.inr (Or.inr (Or.inl ⟨2, TX2, 7, by decide, rfl, rfl, (by decide +kernel), ⟨2, rfl, by decide +kernel⟩, ml_in_1096, ml_se_20⟩))⟩) <|
  mc_1 (mk_p (ms_if_ne (off := (6)) (by decide +kernel) (by decide)) rfl) <|
  mc_1 (mk_p (ms_goto (off := (78)) (by decide +kernel) (by decide)) rfl) <|
  mc_1 (mk_p (ms_aload_n (k := 0) (by decide +kernel) rfl) rfl) <|
  mc_1 (mk_p (ms_get (idx := 32) (w := 390) (host := none) mx_c2 (by decide) ml_f_LeagueOffice_Failures_32 (by decide +kernel)) rfl) <| mc_0
def mt_32_2 : List (Nat × mx_I) := [(34, 51, 0, 3, []), (37, 2, 3, 1, []), (38, 4, 0, 1, []), (39, 51, 2, 4, []), (42, 2, 1, 1, []), (43, 0, 60, 2, []), (45, 11, 0, 0, []), (46, 2, 3, 1, []), (47, 9, 0, 0, [])]
theorem mw_32_2 : ∀ e ∈ mt_32_2, mx_Ok mx_MT mq_32 e.1 e.2 := 
  mc_1 (mk_p (ms_get (idx := 56) (w := 145) (host := (some "LeagueOffice")) mx_c0 (by decide) ml_f_LeagueOffice_Failures_56 (by decide +kernel)) rfl) <|
  mc_1 (mk_p (ms_iload_n (k := 3) (by decide +kernel) rfl) rfl) <|
  mc_1 (mk_p (ms_aload_n (k := 0) (by decide +kernel) rfl) rfl) <|
  mc_1 (mk_p (ms_get (idx := 23) (w := 394) (host := none) mx_c2 (by decide) ml_f_LeagueOffice_Failures_23 (by decide +kernel)) rfl) <|
  mc_1 (mk_p (ms_iload_n (k := 1) (by decide +kernel) rfl) rfl) <|
  mc_1 (mk_p (ms_bipush (n := 60) (by decide +kernel) (by decide +kernel)) rfl) <|
  mc_1 (mk_p (ms_imul (by decide +kernel)) rfl) <|
  mc_1 (mk_p (ms_iload_n (k := 3) (by decide +kernel) rfl) rfl) <|
  mc_1 (mk_p (ms_iadd (by decide +kernel)) rfl) <| mc_0
def mt_32_3 : List (Nat × mx_I) := [(48, 70, 68, 2, [6]), (51, 70, 69, 3, [6]), (54, 4, 0, 1, []), (55, 51, 2, 0, []), (58, 51, 0, 4, []), (61, 2, 3, 1, []), (62, 4, 0, 1, []), (63, 51, 2, 5, [])]
theorem mw_32_3 : ∀ e ∈ mt_32_3, mx_Ok mx_MT mq_32 e.1 e.2 := 
  mc_1 (mk_c (k := mq_68) rfl ⟨mo_68, 36, 1063, none, ml_m_LeagueOffice_Failures_36, Or.inr (Or.inr (Or.inl ⟨6, TX6, 2, by decide, rfl, rfl, (by decide +kernel), ⟨1, rfl, by decide +kernel⟩, ml_in_591, ml_se_592⟩))⟩) <|
  mc_1 (mk_c (k := mq_69) rfl ⟨mo_69, 44, 1068, none, ml_m_LeagueOffice_Failures_44, Or.inr (Or.inr (Or.inl ⟨6, TX6, 2, by decide, rfl, rfl, (by decide +kernel), ⟨2, rfl, by decide +kernel⟩, ml_in_665, ml_se_666⟩))⟩) <|
  mc_1 (mk_p (ms_aload_n (k := 0) (by decide +kernel) rfl) rfl) <|
  mc_1 (mk_p (ms_get (idx := 32) (w := 390) (host := none) mx_c2 (by decide) ml_f_LeagueOffice_Failures_32 (by decide +kernel)) rfl) <|
  mc_1 (mk_p (ms_get (idx := 84) (w := 153) (host := (some "LeagueOffice")) mx_c0 (by decide) ml_f_LeagueOffice_Failures_84 (by decide +kernel)) rfl) <|
  mc_1 (mk_p (ms_iload_n (k := 3) (by decide +kernel) rfl) rfl) <|
  mc_1 (mk_p (ms_aload_n (k := 0) (by decide +kernel) rfl) rfl) <|
  mc_1 (mk_p (ms_get (idx := 26) (w := 395) (host := none) mx_c2 (by decide) ml_f_LeagueOffice_Failures_26 (by decide +kernel)) rfl) <| mc_0
def mt_32_4 : List (Nat × mx_I) := [(66, 2, 1, 1, []), (67, 0, 60, 2, []), (69, 11, 0, 0, []), (70, 2, 3, 1, []), (71, 9, 0, 0, []), (72, 70, 68, 2, [6]), (75, 70, 69, 3, [6]), (78, 4, 0, 1, []), (79, 51, 2, 0, [])]
theorem mw_32_4 : ∀ e ∈ mt_32_4, mx_Ok mx_MT mq_32 e.1 e.2 := 
  mc_1 (mk_p (ms_iload_n (k := 1) (by decide +kernel) rfl) rfl) <|
  mc_1 (mk_p (ms_bipush (n := 60) (by decide +kernel) (by decide +kernel)) rfl) <|
  mc_1 (mk_p (ms_imul (by decide +kernel)) rfl) <|
  mc_1 (mk_p (ms_iload_n (k := 3) (by decide +kernel) rfl) rfl) <|
  mc_1 (mk_p (ms_iadd (by decide +kernel)) rfl) <|
  mc_1 (mk_c (k := mq_68) rfl ⟨mo_68, 36, 1063, none, ml_m_LeagueOffice_Failures_36, Or.inr (Or.inr (Or.inl ⟨6, TX6, 2, by decide, rfl, rfl, (by decide +kernel), ⟨1, rfl, by decide +kernel⟩, ml_in_591, ml_se_592⟩))⟩) <|
  mc_1 (mk_c (k := mq_69) rfl ⟨mo_69, 44, 1068, none, ml_m_LeagueOffice_Failures_44, Or.inr (Or.inr (Or.inl ⟨6, TX6, 2, by decide, rfl, rfl, (by decide +kernel), ⟨2, rfl, by decide +kernel⟩, ml_in_665, ml_se_666⟩))⟩) <|
  mc_1 (mk_p (ms_aload_n (k := 0) (by decide +kernel) rfl) rfl) <|
  mc_1 (mk_p (ms_get (idx := 32) (w := 390) (host := none) mx_c2 (by decide) ml_f_LeagueOffice_Failures_32 (by decide +kernel)) rfl) <| mc_0
def mt_32_5 : List (Nat × mx_I) := [(82, 51, 0, 5, []), (85, 2, 3, 1, []), (86, 4, 0, 1, []), (87, 51, 2, 6, []), (90, 2, 1, 1, []), (91, 0, 60, 2, []), (93, 11, 0, 0, []), (94, 2, 3, 1, []), (95, 9, 0, 0, [])]
theorem mw_32_5 : ∀ e ∈ mt_32_5, mx_Ok mx_MT mq_32 e.1 e.2 := 
  mc_1 (mk_p (ms_get (idx := 87) (w := 160) (host := (some "LeagueOffice")) mx_c0 (by decide) ml_f_LeagueOffice_Failures_87 (by decide +kernel)) rfl) <|
  mc_1 (mk_p (ms_iload_n (k := 3) (by decide +kernel) rfl) rfl) <|
  mc_1 (mk_p (ms_aload_n (k := 0) (by decide +kernel) rfl) rfl) <|
  mc_1 (mk_p (ms_get (idx := 29) (w := 396) (host := none) mx_c2 (by decide) ml_f_LeagueOffice_Failures_29 (by decide +kernel)) rfl) <|
  mc_1 (mk_p (ms_iload_n (k := 1) (by decide +kernel) rfl) rfl) <|
  mc_1 (mk_p (ms_bipush (n := 60) (by decide +kernel) (by decide +kernel)) rfl) <|
  mc_1 (mk_p (ms_imul (by decide +kernel)) rfl) <|
  mc_1 (mk_p (ms_iload_n (k := 3) (by decide +kernel) rfl) rfl) <|
  mc_1 (mk_p (ms_iadd (by decide +kernel)) rfl) <| mc_0
def mt_32_6 : List (Nat × mx_I) := [(96, 70, 68, 2, [6]), (99, 70, 69, 3, [6]), (102, 8, 2, 1, []), (105, 8, 3, 1, []), (108, 48, 4, 0, []), (111, 4, 0, 1, [])]
theorem mw_32_6 : ∀ e ∈ mt_32_6, mx_Ok mx_MT mq_32 e.1 e.2 := 
  mc_1 (mk_c (k := mq_68) rfl ⟨mo_68, 36, 1063, none, ml_m_LeagueOffice_Failures_36, Or.inr (Or.inr (Or.inl ⟨6, TX6, 2, by decide, rfl, rfl, (by decide +kernel), ⟨1, rfl, by decide +kernel⟩, ml_in_591, ml_se_592⟩))⟩) <|
  mc_1 (mk_c (k := mq_69) rfl ⟨mo_69, 44, 1068, none, ml_m_LeagueOffice_Failures_44, Or.inr (Or.inr (Or.inl ⟨6, TX6, 2, by decide, rfl, rfl, (by decide +kernel), ⟨2, rfl, by decide +kernel⟩, ml_in_665, ml_se_666⟩))⟩) <|
  mc_1 (mk_p (ms_iinc (n := (1)) (by decide +kernel) (by decide +kernel) (by decide)) rfl) <|
  mc_1 (mk_p (ms_iinc (n := (1)) (by decide +kernel) (by decide +kernel) (by decide)) rfl) <|
  mc_1 (mk_p (ms_goto (off := (-104)) (by decide +kernel) (by decide)) rfl) <|
  mc_1 (mk_p (ms_aload_n (k := 0) (by decide +kernel) rfl) rfl) <| mc_0
def mt_32_7 : List (Nat × mx_I) := [(112, 51, 2, 2, []), (115, 2, 1, 1, []), (116, 0, 0, 1, []), (117, 70, 69, 3, [6]), (120, 2, 2, 1, []), (121, 80, 0, 0, [])]
theorem mw_32_7 : ∀ e ∈ mt_32_7, mx_Ok mx_MT mq_32 e.1 e.2 := 
  mc_1 (mk_p (ms_get (idx := 14) (w := 392) (host := none) mx_c2 (by decide) ml_f_LeagueOffice_Failures_14 (by decide +kernel)) rfl) <|
  mc_1 (mk_p (ms_iload_n (k := 1) (by decide +kernel) rfl) rfl) <|
  mc_1 (mk_p (ms_iconst (n := 0) (by decide +kernel) (by decide +kernel)) rfl) <|
  mc_1 (mk_c (k := mq_69) rfl ⟨mo_69, 44, 1068, none, ml_m_LeagueOffice_Failures_44, Or.inr (Or.inr (Or.inl ⟨6, TX6, 2, by decide, rfl, rfl, (by decide +kernel), ⟨2, rfl, by decide +kernel⟩, ml_in_665, ml_se_666⟩))⟩) <|
  mc_1 (mk_p (ms_iload_n (k := 2) (by decide +kernel) rfl) rfl) <|
  mc_1 (mk_r (Or.inl ⟨rfl, by decide +kernel, _, rfl, mf_0⟩) rfl) <| mc_0
def mt_32 : List (List (Nat × mx_I)) := [mt_32_0, mt_32_1, mt_32_2, mt_32_3, mt_32_4, mt_32_5, mt_32_6, mt_32_7]
theorem mw_32 : ∀ ch ∈ mt_32, ∀ e ∈ ch, mx_Ok mx_MT mq_32 e.1 e.2 := mc_2 mw_32_0 <| mc_2 mw_32_1 <| mc_2 mw_32_2 <| mc_2 mw_32_3 <| mc_2 mw_32_4 <| mc_2 mw_32_5 <| mc_2 mw_32_6 <| mc_2 mw_32_7 <| mc_3
/- 33 LeagueOffice$Plan.<init>(LLeagueOffice$Book;)V -/
def mt_33_0 : List (Nat × mx_I) := [(0, 4, 0, 1, []), (1, 63, 0, 0, []), (4, 4, 0, 1, []), (5, 61, 6, 0, []), (8, 33, 0, 0, []), (9, 0, 6, 2, []), (11, 70, 64, 2, [98]), (14, 54, 3, 1, [])]
theorem mw_33_0 : ∀ e ∈ mt_33_0, mx_Ok mx_MT mq_33 e.1 e.2 := 
  mc_1 (mk_p (ms_aload_n (k := 0) (by decide +kernel) rfl) rfl) <|
  mc_1 (mk_p (ms_obj (idx := 3) 474 103 104 (by decide +kernel) (by decide +kernel) (by decide +kernel) (by decide +kernel)) rfl) <|
  mc_1 (mk_p (ms_aload_n (k := 0) (by decide +kernel) rfl) rfl) <|
  mc_1 (mk_p (mn_6 (idx := 9) 475 (by decide +kernel) (by decide +kernel)) rfl) <|
  mc_1 (mk_p (ms_dup (by decide +kernel)) rfl) <|
  mc_1 (mk_p (ms_bipush (n := 6) (by decide +kernel) (by decide +kernel)) rfl) <|
  mc_1 (mk_c (k := mq_64) rfl ⟨mo_64, 11, 476, none, ml_m_LeagueOffice_Plan_11, Or.inr (Or.inl ⟨rfl, (by decide +kernel), ⟨1, rfl, by decide +kernel⟩, ml_in_114, rfl, rfl⟩)⟩) <|
  mc_1 (mk_p (ms_putF (idx := 14) (w := 478) mx_c3 (by decide) ml_f_LeagueOffice_Plan_14 rfl rfl rfl rfl (by decide +kernel)) rfl) <| mc_0
def mt_33_1 : List (Nat × mx_I) := [(17, 4, 0, 1, []), (18, 61, 6, 0, []), (21, 33, 0, 0, []), (22, 0, 6, 2, []), (24, 70, 64, 2, [98]), (27, 54, 3, 2, []), (30, 4, 0, 1, []), (31, 61, 6, 0, [])]
theorem mw_33_1 : ∀ e ∈ mt_33_1, mx_Ok mx_MT mq_33 e.1 e.2 := 
  mc_1 (mk_p (ms_aload_n (k := 0) (by decide +kernel) rfl) rfl) <|
  mc_1 (mk_p (mn_6 (idx := 9) 475 (by decide +kernel) (by decide +kernel)) rfl) <|
  mc_1 (mk_p (ms_dup (by decide +kernel)) rfl) <|
  mc_1 (mk_p (ms_bipush (n := 6) (by decide +kernel) (by decide +kernel)) rfl) <|
  mc_1 (mk_c (k := mq_64) rfl ⟨mo_64, 11, 476, none, ml_m_LeagueOffice_Plan_11, Or.inr (Or.inl ⟨rfl, (by decide +kernel), ⟨1, rfl, by decide +kernel⟩, ml_in_114, rfl, rfl⟩)⟩) <|
  mc_1 (mk_p (ms_putF (idx := 20) (w := 480) mx_c3 (by decide) ml_f_LeagueOffice_Plan_20 rfl rfl rfl rfl (by decide +kernel)) rfl) <|
  mc_1 (mk_p (ms_aload_n (k := 0) (by decide +kernel) rfl) rfl) <|
  mc_1 (mk_p (mn_6 (idx := 9) 475 (by decide +kernel) (by decide +kernel)) rfl) <| mc_0
def mt_33_2 : List (Nat × mx_I) := [(34, 33, 0, 0, []), (35, 0, 12, 2, []), (37, 70, 64, 2, [98]), (40, 54, 3, 3, []), (43, 4, 0, 1, []), (44, 4, 1, 1, []), (45, 54, 3, 0, [])]
theorem mw_33_2 : ∀ e ∈ mt_33_2, mx_Ok mx_MT mq_33 e.1 e.2 := 
  mc_1 (mk_p (ms_dup (by decide +kernel)) rfl) <|
  mc_1 (mk_p (ms_bipush (n := 12) (by decide +kernel) (by decide +kernel)) rfl) <|
  mc_1 (mk_c (k := mq_64) rfl ⟨mo_64, 11, 476, none, ml_m_LeagueOffice_Plan_11, Or.inr (Or.inl ⟨rfl, (by decide +kernel), ⟨1, rfl, by decide +kernel⟩, ml_in_114, rfl, rfl⟩)⟩) <|
  mc_1 (mk_p (ms_putF (idx := 23) (w := 481) mx_c3 (by decide) ml_f_LeagueOffice_Plan_23 rfl rfl rfl rfl (by decide +kernel)) rfl) <|
  mc_1 (mk_p (ms_aload_n (k := 0) (by decide +kernel) rfl) rfl) <|
  mc_1 (mk_p (ms_aload_n (k := 1) (by decide +kernel) rfl) rfl) <|
  mc_1 (mk_p (ms_putF (idx := 26) (w := 477) mx_c3 (by decide) ml_f_LeagueOffice_Plan_26 rfl rfl rfl rfl (by decide +kernel)) rfl) <| mc_0
def mt_33_3 : List (Nat × mx_I) := [(48, 83, 0, 0, [])]
theorem mw_33_3 : ∀ e ∈ mt_33_3, mx_Ok mx_MT mq_33 e.1 e.2 := 
  mc_1 (mk_r (Or.inr (Or.inr (Or.inr ⟨rfl, by decide +kernel, rfl⟩))) rfl) <| mc_0
def mt_33 : List (List (Nat × mx_I)) := [mt_33_0, mt_33_1, mt_33_2, mt_33_3]
theorem mw_33 : ∀ ch ∈ mt_33, ∀ e ∈ ch, mx_Ok mx_MT mq_33 e.1 e.2 := mc_2 mw_33_0 <| mc_2 mw_33_1 <| mc_2 mw_33_2 <| mc_2 mw_33_3 <| mc_3
/- 34 LeagueOffice$Plan.forget()I -/
def mt_34_0 : List (Nat × mx_I) := [(0, 4, 0, 1, []), (1, 51, 3, 1, []), (4, 70, 75, 1, [6]), (7, 4, 0, 1, []), (8, 51, 3, 2, []), (11, 70, 75, 1, [6]), (14, 0, 0, 1, []), (15, 80, 0, 0, [])]
theorem mw_34_0 : ∀ e ∈ mt_34_0, mx_Ok mx_MT mq_34 e.1 e.2 := 
  mc_1 (mk_p (ms_aload_n (k := 0) (by decide +kernel) rfl) rfl) <|
  mc_1 (mk_p (ms_get (idx := 14) (w := 478) (host := none) mx_c3 (by decide) ml_f_LeagueOffice_Plan_14 (by decide +kernel)) rfl) <|
  mc_1 (mk_c (k := mq_75) rfl ⟨mo_75, 30, 1220, none, ml_m_LeagueOffice_Plan_30, Or.inr (Or.inr (Or.inl ⟨6, TX6, 2, by decide, rfl, rfl, (by decide +kernel), ⟨0, rfl, by decide +kernel⟩, ml_in_579, ml_se_580⟩))⟩) <|
  mc_1 (mk_p (ms_aload_n (k := 0) (by decide +kernel) rfl) rfl) <|
  mc_1 (mk_p (ms_get (idx := 20) (w := 480) (host := none) mx_c3 (by decide) ml_f_LeagueOffice_Plan_20 (by decide +kernel)) rfl) <|
  mc_1 (mk_c (k := mq_75) rfl ⟨mo_75, 30, 1220, none, ml_m_LeagueOffice_Plan_30, Or.inr (Or.inr (Or.inl ⟨6, TX6, 2, by decide, rfl, rfl, (by decide +kernel), ⟨0, rfl, by decide +kernel⟩, ml_in_579, ml_se_580⟩))⟩) <|
  mc_1 (mk_p (ms_iconst (n := 0) (by decide +kernel) (by decide +kernel)) rfl) <|
  mc_1 (mk_r (Or.inl ⟨rfl, by decide +kernel, _, rfl, mf_0⟩) rfl) <| mc_0
def mt_34 : List (List (Nat × mx_I)) := [mt_34_0]
theorem mw_34 : ∀ ch ∈ mt_34, ∀ e ∈ ch, mx_Ok mx_MT mq_34 e.1 e.2 := mc_2 mw_34_0 <| mc_3
/- 35 LeagueOffice$Plan.hasMeeting(I)Z -/
def mt_35_0 : List (Nat × mx_I) := [(0, 0, 0, 1, []), (1, 5, 2, 1, []), (2, 2, 2, 1, []), (3, 4, 0, 1, []), (4, 51, 3, 1, []), (7, 70, 65, 1, [6]), (10, 45, 45, 0, []), (13, 4, 0, 1, []), (14, 51, 3, 1, [])]
theorem mw_35_0 : ∀ e ∈ mt_35_0, mx_Ok mx_MT mq_35 e.1 e.2 := 
  mc_1 (mk_p (ms_iconst (n := 0) (by decide +kernel) (by decide +kernel)) rfl) <|
  mc_1 (mk_p (ms_istore_n (k := 2) (by decide +kernel) rfl (by decide)) rfl) <|
  mc_1 (mk_p (ms_iload_n (k := 2) (by decide +kernel) rfl) rfl) <|
  mc_1 (mk_p (ms_aload_n (k := 0) (by decide +kernel) rfl) rfl) <|
  mc_1 (mk_p (ms_get (idx := 14) (w := 478) (host := none) mx_c3 (by decide) ml_f_LeagueOffice_Plan_14 (by decide +kernel)) rfl) <|
  mc_1 (mk_c (k := mq_65) rfl ⟨mo_65, 33, 1225, none, ml_m_LeagueOffice_Plan_33, Or.inr (Or.inr (Or.inl ⟨6, TX6, 2, by decide, rfl, rfl, (by decide +kernel), ⟨0, rfl, by decide +kernel⟩, ml_in_587, ml_se_588⟩))⟩) <|
  mc_1 (mk_p (ms_icmp_ge (off := (35)) (by decide +kernel) (by decide)) rfl) <|
  mc_1 (mk_p (ms_aload_n (k := 0) (by decide +kernel) rfl) rfl) <|
  mc_1 (mk_p (ms_get (idx := 14) (w := 478) (host := none) mx_c3 (by decide) ml_f_LeagueOffice_Plan_14 (by decide +kernel)) rfl) <| mc_0
def mt_35_1 : List (Nat × mx_I) := [(17, 2, 2, 1, []), (18, 70, 68, 2, [6]), (21, 2, 1, 1, []), (22, 42, 37, 0, []), (25, 4, 0, 1, []), (26, 51, 3, 2, []), (29, 2, 2, 1, []), (30, 70, 68, 2, [6])]
theorem mw_35_1 : ∀ e ∈ mt_35_1, mx_Ok mx_MT mq_35 e.1 e.2 := 
  mc_1 (mk_p (ms_iload_n (k := 2) (by decide +kernel) rfl) rfl) <|
  mc_1 (mk_c (k := mq_68) rfl ⟨mo_68, 37, 1226, none, ml_m_LeagueOffice_Plan_37, Or.inr (Or.inr (Or.inl ⟨6, TX6, 2, by decide, rfl, rfl, (by decide +kernel), ⟨1, rfl, by decide +kernel⟩, ml_in_591, ml_se_592⟩))⟩) <|
  mc_1 (mk_p (ms_iload_n (k := 1) (by decide +kernel) rfl) rfl) <|
  mc_1 (mk_p (ms_icmp_eq (off := (15)) (by decide +kernel) (by decide)) rfl) <|
  mc_1 (mk_p (ms_aload_n (k := 0) (by decide +kernel) rfl) rfl) <|
  mc_1 (mk_p (ms_get (idx := 20) (w := 480) (host := none) mx_c3 (by decide) ml_f_LeagueOffice_Plan_20 (by decide +kernel)) rfl) <|
  mc_1 (mk_p (ms_iload_n (k := 2) (by decide +kernel) rfl) rfl) <|
  mc_1 (mk_c (k := mq_68) rfl ⟨mo_68, 37, 1226, none, ml_m_LeagueOffice_Plan_37, Or.inr (Or.inr (Or.inl ⟨6, TX6, 2, by decide, rfl, rfl, (by decide +kernel), ⟨1, rfl, by decide +kernel⟩, ml_in_591, ml_se_592⟩))⟩) <| mc_0
def mt_35_2 : List (Nat × mx_I) := [(33, 2, 1, 1, []), (34, 43, 39, 0, []), (37, 0, 1, 1, []), (38, 80, 2, 0, []), (39, 8, 2, 1, []), (42, 48, 2, 0, []), (45, 0, 0, 1, []), (46, 80, 2, 0, [])]
theorem mw_35_2 : ∀ e ∈ mt_35_2, mx_Ok mx_MT mq_35 e.1 e.2 := 
  mc_1 (mk_p (ms_iload_n (k := 1) (by decide +kernel) rfl) rfl) <|
  mc_1 (mk_p (ms_icmp_ne (off := (5)) (by decide +kernel) (by decide)) rfl) <|
  mc_1 (mk_p (ms_iconst (n := 1) (by decide +kernel) (by decide +kernel)) rfl) <|
  mc_1 (mk_r (Or.inl ⟨rfl, by decide +kernel, _, rfl, mf_2⟩) rfl) <|
  mc_1 (mk_p (ms_iinc (n := (1)) (by decide +kernel) (by decide +kernel) (by decide)) rfl) <|
  mc_1 (mk_p (ms_goto (off := (-40)) (by decide +kernel) (by decide)) rfl) <|
  mc_1 (mk_p (ms_iconst (n := 0) (by decide +kernel) (by decide +kernel)) rfl) <|
  mc_1 (mk_r (Or.inl ⟨rfl, by decide +kernel, _, rfl, mf_2⟩) rfl) <| mc_0
def mt_35 : List (List (Nat × mx_I)) := [mt_35_0, mt_35_1, mt_35_2]
theorem mw_35 : ∀ ch ∈ mt_35, ∀ e ∈ ch, mx_Ok mx_MT mq_35 e.1 e.2 := mc_2 mw_35_0 <| mc_2 mw_35_1 <| mc_2 mw_35_2 <| mc_3
/- 36 LeagueOffice$Plan.add(II)I -/
def mt_36_0 : List (Nat × mx_I) := [(0, 4, 0, 1, []), (1, 51, 3, 2, []), (4, 2, 2, 1, []), (5, 70, 71, 2, [6]), (8, 34, 0, 0, []), (9, 4, 0, 1, []), (10, 51, 3, 1, []), (13, 2, 1, 1, []), (14, 70, 71, 2, [6])]
theorem mw_36_0 : ∀ e ∈ mt_36_0, mx_Ok mx_MT mq_36 e.1 e.2 := 
  mc_1 (mk_p (ms_aload_n (k := 0) (by decide +kernel) rfl) rfl) <|
  mc_1 (mk_p (ms_get (idx := 20) (w := 480) (host := none) mx_c3 (by decide) ml_f_LeagueOffice_Plan_20 (by decide +kernel)) rfl) <|
  mc_1 (mk_p (ms_iload_n (k := 2) (by decide +kernel) rfl) rfl) <|
  mc_1 (mk_c (k := mq_71) rfl ⟨mo_71, 41, 1231, none, ml_m_LeagueOffice_Plan_41, Or.inr (Or.inr (Or.inl ⟨6, TX6, 2, by decide, rfl, rfl, (by decide +kernel), ⟨1, rfl, by decide +kernel⟩, ml_in_567, ml_se_568⟩))⟩) <|
  mc_1 (mk_p (ms_pop (by decide +kernel)) rfl) <|
  mc_1 (mk_p (ms_aload_n (k := 0) (by decide +kernel) rfl) rfl) <|
  mc_1 (mk_p (ms_get (idx := 14) (w := 478) (host := none) mx_c3 (by decide) ml_f_LeagueOffice_Plan_14 (by decide +kernel)) rfl) <|
  mc_1 (mk_p (ms_iload_n (k := 1) (by decide +kernel) rfl) rfl) <|
  mc_1 (mk_c (k := mq_71) rfl ⟨mo_71, 41, 1231, none, ml_m_LeagueOffice_Plan_41, Or.inr (Or.inr (Or.inl ⟨6, TX6, 2, by decide, rfl, rfl, (by decide +kernel), ⟨1, rfl, by decide +kernel⟩, ml_in_567, ml_se_568⟩))⟩) <| mc_0
def mt_36_1 : List (Nat × mx_I) := [(17, 80, 0, 0, [])]
theorem mw_36_1 : ∀ e ∈ mt_36_1, mx_Ok mx_MT mq_36 e.1 e.2 := 
  mc_1 (mk_r (Or.inl ⟨rfl, by decide +kernel, _, rfl, mf_0⟩) rfl) <| mc_0
def mt_36 : List (List (Nat × mx_I)) := [mt_36_0, mt_36_1]
theorem mw_36 : ∀ ch ∈ mt_36, ∀ e ∈ ch, mx_Ok mx_MT mq_36 e.1 e.2 := mc_2 mw_36_0 <| mc_2 mw_36_1 <| mc_3
/- 37 LeagueOffice$Plan.lay(I)V -/
def mt_37_0 : List (Nat × mx_I) := [(0, 4, 0, 1, []), (1, 2, 1, 1, []), (2, 70, 38, 2, [3]), (5, 4, 0, 1, []), (6, 0, 4294967295, 1, []), (7, 53, 3, 4, []), (10, 4, 0, 1, []), (11, 0, 4294967295, 1, []), (12, 53, 3, 5, []), (15, 0, 0, 1, [])]
theorem mw_37_0 : ∀ e ∈ mt_37_0, mx_Ok mx_MT mq_37 e.1 e.2 := 
  mc_1 (mk_p (ms_aload_n (k := 0) (by decide +kernel) rfl) rfl) <|
  mc_1 (mk_p (ms_iload_n (k := 1) (by decide +kernel) rfl) rfl) <|
  mc_1 (mk_c (k := mq_38) rfl ⟨mo_38, 44, 1240, none, ml_m_LeagueOffice_Plan_44, Or.inr (Or.inr (Or.inl ⟨3, TX3, 6, by decide, rfl, rfl, (by decide +kernel), ⟨1, rfl, by decide +kernel⟩, ml_in_1242, ml_se_28⟩))⟩) <|
  mc_1 (mk_p (ms_aload_n (k := 0) (by decide +kernel) rfl) rfl) <|
  mc_1 (mk_p (ms_iconst (n := (-1)) (by decide +kernel) (by decide +kernel)) rfl) <|
  mc_1 (mk_p (ms_put (idx := 47) (w := 482) (host := none) mx_c3 (by decide) ml_f_LeagueOffice_Plan_47 rfl rfl (by decide +kernel)) rfl) <|
  mc_1 (mk_p (ms_aload_n (k := 0) (by decide +kernel) rfl) rfl) <|
  mc_1 (mk_p (ms_iconst (n := (-1)) (by decide +kernel) (by decide +kernel)) rfl) <|
  mc_1 (mk_p (ms_put (idx := 51) (w := 484) (host := none) mx_c3 (by decide) ml_f_LeagueOffice_Plan_51 rfl rfl (by decide +kernel)) rfl) <|
  mc_1 (mk_p (ms_iconst (n := 0) (by decide +kernel) (by decide +kernel)) rfl) <| mc_0
def mt_37_1 : List (Nat × mx_I) := [(16, 5, 2, 1, []), (17, 2, 2, 1, []), (18, 0, 1, 1, []), (19, 4, 0, 1, []), (20, 51, 3, 1, []), (23, 70, 65, 1, [6]), (26, 17, 0, 0, []), (27, 45, 76, 0, []), (30, 4, 0, 1, []), (31, 2, 2, 1, [])]
theorem mw_37_1 : ∀ e ∈ mt_37_1, mx_Ok mx_MT mq_37 e.1 e.2 := 
  mc_1 (mk_p (ms_istore_n (k := 2) (by decide +kernel) rfl (by decide)) rfl) <|
  mc_1 (mk_p (ms_iload_n (k := 2) (by decide +kernel) rfl) rfl) <|
  mc_1 (mk_p (ms_iconst (n := 1) (by decide +kernel) (by decide +kernel)) rfl) <|
  mc_1 (mk_p (ms_aload_n (k := 0) (by decide +kernel) rfl) rfl) <|
  mc_1 (mk_p (ms_get (idx := 14) (w := 478) (host := none) mx_c3 (by decide) ml_f_LeagueOffice_Plan_14 (by decide +kernel)) rfl) <|
  mc_1 (mk_c (k := mq_65) rfl ⟨mo_65, 33, 1225, none, ml_m_LeagueOffice_Plan_33, Or.inr (Or.inr (Or.inl ⟨6, TX6, 2, by decide, rfl, rfl, (by decide +kernel), ⟨0, rfl, by decide +kernel⟩, ml_in_587, ml_se_588⟩))⟩) <|
  mc_1 (mk_p (ms_ishl (by decide +kernel)) rfl) <|
  mc_1 (mk_p (ms_icmp_ge (off := (49)) (by decide +kernel) (by decide)) rfl) <|
  mc_1 (mk_p (ms_aload_n (k := 0) (by decide +kernel) rfl) rfl) <|
  mc_1 (mk_p (ms_iload_n (k := 2) (by decide +kernel) rfl) rfl) <| mc_0
def mt_37_2 : List (Nat × mx_I) := [(32, 70, 39, 2, [3]), (35, 5, 3, 1, []), (36, 2, 3, 1, []), (37, 0, 4294967295, 1, []), (38, 42, 70, 0, []), (41, 4, 0, 1, []), (42, 51, 3, 4, []), (45, 0, 4294967295, 1, []), (46, 42, 60, 0, [])]
theorem mw_37_2 : ∀ e ∈ mt_37_2, mx_Ok mx_MT mq_37 e.1 e.2 := 
  mc_1 (mk_c (k := mq_39) rfl ⟨mo_39, 54, 1246, none, ml_m_LeagueOffice_Plan_54, Or.inr (Or.inr (Or.inl ⟨3, TX3, 6, by decide, rfl, rfl, (by decide +kernel), ⟨1, rfl, by decide +kernel⟩, ml_in_1248, ml_se_29⟩))⟩) <|
  mc_1 (mk_p (ms_istore_n (k := 3) (by decide +kernel) rfl (by decide)) rfl) <|
  mc_1 (mk_p (ms_iload_n (k := 3) (by decide +kernel) rfl) rfl) <|
  mc_1 (mk_p (ms_iconst (n := (-1)) (by decide +kernel) (by decide +kernel)) rfl) <|
  mc_1 (mk_p (ms_icmp_eq (off := (32)) (by decide +kernel) (by decide)) rfl) <|
  mc_1 (mk_p (ms_aload_n (k := 0) (by decide +kernel) rfl) rfl) <|
  mc_1 (mk_p (ms_get (idx := 47) (w := 482) (host := none) mx_c3 (by decide) ml_f_LeagueOffice_Plan_47 (by decide +kernel)) rfl) <|
  mc_1 (mk_p (ms_iconst (n := (-1)) (by decide +kernel) (by decide +kernel)) rfl) <|
  mc_1 (mk_p (ms_icmp_eq (off := (14)) (by decide +kernel) (by decide)) rfl) <| mc_0
def mt_37_3 : List (Nat × mx_I) := [(49, 2, 3, 1, []), (50, 4, 0, 1, []), (51, 51, 3, 5, []), (54, 44, 60, 0, []), (57, 48, 70, 0, []), (60, 4, 0, 1, []), (61, 2, 2, 1, []), (62, 53, 3, 4, [])]
theorem mw_37_3 : ∀ e ∈ mt_37_3, mx_Ok mx_MT mq_37 e.1 e.2 := 
  mc_1 (mk_p (ms_iload_n (k := 3) (by decide +kernel) rfl) rfl) <|
  mc_1 (mk_p (ms_aload_n (k := 0) (by decide +kernel) rfl) rfl) <|
  mc_1 (mk_p (ms_get (idx := 51) (w := 484) (host := none) mx_c3 (by decide) ml_f_LeagueOffice_Plan_51 (by decide +kernel)) rfl) <|
  mc_1 (mk_p (ms_icmp_lt (off := (6)) (by decide +kernel) (by decide)) rfl) <|
  mc_1 (mk_p (ms_goto (off := (13)) (by decide +kernel) (by decide)) rfl) <|
  mc_1 (mk_p (ms_aload_n (k := 0) (by decide +kernel) rfl) rfl) <|
  mc_1 (mk_p (ms_iload_n (k := 2) (by decide +kernel) rfl) rfl) <|
  mc_1 (mk_p (ms_put (idx := 47) (w := 482) (host := none) mx_c3 (by decide) ml_f_LeagueOffice_Plan_47 rfl rfl (by decide +kernel)) rfl) <| mc_0
def mt_37_4 : List (Nat × mx_I) := [(65, 4, 0, 1, []), (66, 2, 3, 1, []), (67, 53, 3, 5, []), (70, 8, 2, 1, []), (73, 48, 17, 0, []), (76, 83, 0, 0, [])]
theorem mw_37_4 : ∀ e ∈ mt_37_4, mx_Ok mx_MT mq_37 e.1 e.2 := 
  mc_1 (mk_p (ms_aload_n (k := 0) (by decide +kernel) rfl) rfl) <|
  mc_1 (mk_p (ms_iload_n (k := 3) (by decide +kernel) rfl) rfl) <|
  mc_1 (mk_p (ms_put (idx := 51) (w := 484) (host := none) mx_c3 (by decide) ml_f_LeagueOffice_Plan_51 rfl rfl (by decide +kernel)) rfl) <|
  mc_1 (mk_p (ms_iinc (n := (1)) (by decide +kernel) (by decide +kernel) (by decide)) rfl) <|
  mc_1 (mk_p (ms_goto (off := (-56)) (by decide +kernel) (by decide)) rfl) <|
  mc_1 (mk_r (Or.inr (Or.inr (Or.inr ⟨rfl, by decide +kernel, rfl⟩))) rfl) <| mc_0
def mt_37 : List (List (Nat × mx_I)) := [mt_37_0, mt_37_1, mt_37_2, mt_37_3, mt_37_4]
theorem mw_37 : ∀ ch ∈ mt_37, ∀ e ∈ ch, mx_Ok mx_MT mq_37 e.1 e.2 := mc_2 mw_37_0 <| mc_2 mw_37_1 <| mc_2 mw_37_2 <| mc_2 mw_37_3 <| mc_2 mw_37_4 <| mc_3
/- 38 LeagueOffice$Plan.look(I)V -/
def mt_38_0 : List (Nat × mx_I) := [(0, 4, 0, 1, []), (1, 51, 3, 3, []), (4, 0, 4294967295, 1, []), (5, 70, 76, 2, [6]), (8, 0, 0, 1, []), (9, 5, 2, 1, []), (10, 2, 2, 1, []), (11, 4, 0, 1, []), (12, 51, 3, 0, []), (15, 51, 0, 7, [])]
theorem mw_38_0 : ∀ e ∈ mt_38_0, mx_Ok mx_MT mq_38 e.1 e.2 := 
  mc_1 (mk_p (ms_aload_n (k := 0) (by decide +kernel) rfl) rfl) <|
  mc_1 (mk_p (ms_get (idx := 23) (w := 481) (host := none) mx_c3 (by decide) ml_f_LeagueOffice_Plan_23 (by decide +kernel)) rfl) <|
  mc_1 (mk_p (ms_iconst (n := (-1)) (by decide +kernel) (by decide +kernel)) rfl) <|
  mc_1 (mk_c (k := mq_76) rfl ⟨mo_76, 57, 1244, none, ml_m_LeagueOffice_Plan_57, Or.inr (Or.inr (Or.inl ⟨6, TX6, 2, by decide, rfl, rfl, (by decide +kernel), ⟨1, rfl, by decide +kernel⟩, ml_in_857, ml_se_858⟩))⟩) <|
  mc_1 (mk_p (ms_iconst (n := 0) (by decide +kernel) (by decide +kernel)) rfl) <|
  mc_1 (mk_p (ms_istore_n (k := 2) (by decide +kernel) rfl (by decide)) rfl) <|
  mc_1 (mk_p (ms_iload_n (k := 2) (by decide +kernel) rfl) rfl) <|
  mc_1 (mk_p (ms_aload_n (k := 0) (by decide +kernel) rfl) rfl) <|
  mc_1 (mk_p (ms_get (idx := 26) (w := 477) (host := none) mx_c3 (by decide) ml_f_LeagueOffice_Plan_26 (by decide +kernel)) rfl) <|
  mc_1 (mk_p (ms_get (idx := 60) (w := 170) (host := (some "LeagueOffice")) mx_c0 (by decide) ml_f_LeagueOffice_Plan_60 (by decide +kernel)) rfl) <| mc_0
def mt_38_1 : List (Nat × mx_I) := [(18, 70, 65, 1, [6]), (21, 45, 98, 0, []), (24, 4, 0, 1, []), (25, 51, 3, 0, []), (28, 51, 0, 7, []), (31, 2, 2, 1, [])]
theorem mw_38_1 : ∀ e ∈ mt_38_1, mx_Ok mx_MT mq_38 e.1 e.2 := 
  mc_1 (mk_c (k := mq_65) rfl ⟨mo_65, 33, 1225, none, ml_m_LeagueOffice_Plan_33, Or.inr (Or.inr (Or.inl ⟨6, TX6, 2, by decide, rfl, rfl, (by decide +kernel), ⟨0, rfl, by decide +kernel⟩, ml_in_587, ml_se_588⟩))⟩) <|
  mc_1 (mk_p (ms_icmp_ge (off := (77)) (by decide +kernel) (by decide)) rfl) <|
  mc_1 (mk_p (ms_aload_n (k := 0) (by decide +kernel) rfl) rfl) <|
  mc_1 (mk_p (ms_get (idx := 26) (w := 477) (host := none) mx_c3 (by decide) ml_f_LeagueOffice_Plan_26 (by decide +kernel)) rfl) <|
  mc_1 (mk_p (ms_get (idx := 60) (w := 170) (host := (some "LeagueOffice")) mx_c0 (by decide) ml_f_LeagueOffice_Plan_60 (by decide +kernel)) rfl) <|
  mc_1 (mk_p (ms_iload_n (k := 2) (by decide +kernel) rfl) rfl) <| mc_0
def mt_38_2 : List (Nat × mx_I) := [(32, 70, 68, 2, [6]), (35, 5, 3, 1, []), (36, 4, 0, 1, []), (37, 51, 3, 0, []), (40, 51, 0, 6, []), (43, 2, 3, 1, []), (44, 70, 68, 2, [6]), (47, 2, 1, 1, [])]
theorem mw_38_2 : ∀ e ∈ mt_38_2, mx_Ok mx_MT mq_38 e.1 e.2 := 
  mc_1 (mk_c (k := mq_68) rfl ⟨mo_68, 37, 1226, none, ml_m_LeagueOffice_Plan_37, Or.inr (Or.inr (Or.inl ⟨6, TX6, 2, by decide, rfl, rfl, (by decide +kernel), ⟨1, rfl, by decide +kernel⟩, ml_in_591, ml_se_592⟩))⟩) <|
  mc_1 (mk_p (ms_istore_n (k := 3) (by decide +kernel) rfl (by decide)) rfl) <|
  mc_1 (mk_p (ms_aload_n (k := 0) (by decide +kernel) rfl) rfl) <|
  mc_1 (mk_p (ms_get (idx := 26) (w := 477) (host := none) mx_c3 (by decide) ml_f_LeagueOffice_Plan_26 (by decide +kernel)) rfl) <|
  mc_1 (mk_p (ms_get (idx := 65) (w := 167) (host := (some "LeagueOffice")) mx_c0 (by decide) ml_f_LeagueOffice_Plan_65 (by decide +kernel)) rfl) <|
  mc_1 (mk_p (ms_iload_n (k := 3) (by decide +kernel) rfl) rfl) <|
  mc_1 (mk_c (k := mq_68) rfl ⟨mo_68, 37, 1226, none, ml_m_LeagueOffice_Plan_37, Or.inr (Or.inr (Or.inl ⟨6, TX6, 2, by decide, rfl, rfl, (by decide +kernel), ⟨1, rfl, by decide +kernel⟩, ml_in_591, ml_se_592⟩))⟩) <|
  mc_1 (mk_p (ms_iload_n (k := 1) (by decide +kernel) rfl) rfl) <| mc_0
def mt_38_3 : List (Nat × mx_I) := [(48, 44, 54, 0, []), (51, 48, 98, 0, []), (54, 4, 0, 1, []), (55, 51, 3, 3, []), (58, 4, 0, 1, []), (59, 51, 3, 0, []), (62, 51, 0, 4, [])]
theorem mw_38_3 : ∀ e ∈ mt_38_3, mx_Ok mx_MT mq_38 e.1 e.2 := 
  mc_1 (mk_p (ms_icmp_lt (off := (6)) (by decide +kernel) (by decide)) rfl) <|
  mc_1 (mk_p (ms_goto (off := (47)) (by decide +kernel) (by decide)) rfl) <|
  mc_1 (mk_p (ms_aload_n (k := 0) (by decide +kernel) rfl) rfl) <|
  mc_1 (mk_p (ms_get (idx := 23) (w := 481) (host := none) mx_c3 (by decide) ml_f_LeagueOffice_Plan_23 (by decide +kernel)) rfl) <|
  mc_1 (mk_p (ms_aload_n (k := 0) (by decide +kernel) rfl) rfl) <|
  mc_1 (mk_p (ms_get (idx := 26) (w := 477) (host := none) mx_c3 (by decide) ml_f_LeagueOffice_Plan_26 (by decide +kernel)) rfl) <|
  mc_1 (mk_p (ms_get (idx := 68) (w := 154) (host := (some "LeagueOffice")) mx_c0 (by decide) ml_f_LeagueOffice_Plan_68 (by decide +kernel)) rfl) <| mc_0
def mt_38_4 : List (Nat × mx_I) := [(65, 2, 3, 1, []), (66, 70, 68, 2, [6]), (69, 0, 1, 1, []), (70, 70, 69, 3, [6]), (73, 4, 0, 1, []), (74, 51, 3, 3, []), (77, 4, 0, 1, []), (78, 51, 3, 0, [])]
theorem mw_38_4 : ∀ e ∈ mt_38_4, mx_Ok mx_MT mq_38 e.1 e.2 := 
  mc_1 (mk_p (ms_iload_n (k := 3) (by decide +kernel) rfl) rfl) <|
  mc_1 (mk_c (k := mq_68) rfl ⟨mo_68, 37, 1226, none, ml_m_LeagueOffice_Plan_37, Or.inr (Or.inr (Or.inl ⟨6, TX6, 2, by decide, rfl, rfl, (by decide +kernel), ⟨1, rfl, by decide +kernel⟩, ml_in_591, ml_se_592⟩))⟩) <|
  mc_1 (mk_p (ms_iconst (n := 1) (by decide +kernel) (by decide +kernel)) rfl) <|
  mc_1 (mk_c (k := mq_69) rfl ⟨mo_69, 71, 1245, none, ml_m_LeagueOffice_Plan_71, Or.inr (Or.inr (Or.inl ⟨6, TX6, 2, by decide, rfl, rfl, (by decide +kernel), ⟨2, rfl, by decide +kernel⟩, ml_in_665, ml_se_666⟩))⟩) <|
  mc_1 (mk_p (ms_aload_n (k := 0) (by decide +kernel) rfl) rfl) <|
  mc_1 (mk_p (ms_get (idx := 23) (w := 481) (host := none) mx_c3 (by decide) ml_f_LeagueOffice_Plan_23 (by decide +kernel)) rfl) <|
  mc_1 (mk_p (ms_aload_n (k := 0) (by decide +kernel) rfl) rfl) <|
  mc_1 (mk_p (ms_get (idx := 26) (w := 477) (host := none) mx_c3 (by decide) ml_f_LeagueOffice_Plan_26 (by decide +kernel)) rfl) <| mc_0
def mt_38_5 : List (Nat × mx_I) := [(81, 51, 0, 5, []), (84, 2, 3, 1, []), (85, 70, 68, 2, [6]), (88, 0, 0, 1, []), (89, 70, 69, 3, [6]), (92, 8, 2, 1, []), (95, 48, 10, 0, [])]
theorem mw_38_5 : ∀ e ∈ mt_38_5, mx_Ok mx_MT mq_38 e.1 e.2 := 
  mc_1 (mk_p (ms_get (idx := 75) (w := 161) (host := (some "LeagueOffice")) mx_c0 (by decide) ml_f_LeagueOffice_Plan_75 (by decide +kernel)) rfl) <|
  mc_1 (mk_p (ms_iload_n (k := 3) (by decide +kernel) rfl) rfl) <|
  mc_1 (mk_c (k := mq_68) rfl ⟨mo_68, 37, 1226, none, ml_m_LeagueOffice_Plan_37, Or.inr (Or.inr (Or.inl ⟨6, TX6, 2, by decide, rfl, rfl, (by decide +kernel), ⟨1, rfl, by decide +kernel⟩, ml_in_591, ml_se_592⟩))⟩) <|
  mc_1 (mk_p (ms_iconst (n := 0) (by decide +kernel) (by decide +kernel)) rfl) <|
  mc_1 (mk_c (k := mq_69) rfl ⟨mo_69, 71, 1245, none, ml_m_LeagueOffice_Plan_71, Or.inr (Or.inr (Or.inl ⟨6, TX6, 2, by decide, rfl, rfl, (by decide +kernel), ⟨2, rfl, by decide +kernel⟩, ml_in_665, ml_se_666⟩))⟩) <|
  mc_1 (mk_p (ms_iinc (n := (1)) (by decide +kernel) (by decide +kernel) (by decide)) rfl) <|
  mc_1 (mk_p (ms_goto (off := (-85)) (by decide +kernel) (by decide)) rfl) <| mc_0
def mt_38_6 : List (Nat × mx_I) := [(98, 83, 0, 0, [])]
theorem mw_38_6 : ∀ e ∈ mt_38_6, mx_Ok mx_MT mq_38 e.1 e.2 := 
  mc_1 (mk_r (Or.inr (Or.inr (Or.inr ⟨rfl, by decide +kernel, rfl⟩))) rfl) <| mc_0
def mt_38 : List (List (Nat × mx_I)) := [mt_38_0, mt_38_1, mt_38_2, mt_38_3, mt_38_4, mt_38_5, mt_38_6]
theorem mw_38 : ∀ ch ∈ mt_38, ∀ e ∈ ch, mx_Ok mx_MT mq_38 e.1 e.2 := mc_2 mw_38_0 <| mc_2 mw_38_1 <| mc_2 mw_38_2 <| mc_2 mw_38_3 <| mc_2 mw_38_4 <| mc_2 mw_38_5 <| mc_2 mw_38_6 <| mc_3
end
