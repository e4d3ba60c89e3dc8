section
-- ===== PART A: goes FIRST, ahead of the names: the tables' words, and 'selects' of the private methods out of them =====
/-- a private method of a class that the tables say can be made, by its rows of tables_1 -/
def lw_okq (q : MethodName × Nat) : Prop := (q.1.cls ≠ "java/lang/invoke/MethodHandle" ∧ q.1.cls ≠ "java/lang/invoke/VarHandle") ∧ Cond.instantiable q.1.cls q.2 ∈ tables_1 ∧ Cond.privateMethod q.1 ∈ tables_1 ∧ Cond.instanceMethod q.1 ∈ tables_1
theorem lw_p0 : lw_okq (⟨"LeagueOffice$Reader", "split", "()V"⟩, 6) := ⟨⟨by decide +kernel, by decide +kernel⟩, List.mem_of_getElem? (i := 169) (by decide +kernel), List.mem_of_getElem? (i := 499) (by decide +kernel), List.mem_of_getElem? (i := 500) (by decide +kernel)⟩
theorem lw_p1 : lw_okq (⟨"LeagueOffice$Reader", "behindBlanks", "(I)I"⟩, 6) := ⟨⟨by decide +kernel, by decide +kernel⟩, List.mem_of_getElem? (i := 169) (by decide +kernel), List.mem_of_getElem? (i := 507) (by decide +kernel), List.mem_of_getElem? (i := 508) (by decide +kernel)⟩
theorem lw_p2 : lw_okq (⟨"LeagueOffice$Reader", "addToken", "(III)V"⟩, 6) := ⟨⟨by decide +kernel, by decide +kernel⟩, List.mem_of_getElem? (i := 169) (by decide +kernel), List.mem_of_getElem? (i := 519) (by decide +kernel), List.mem_of_getElem? (i := 520) (by decide +kernel)⟩
theorem lw_p3 : lw_okq (⟨"LeagueOffice$Reader", "behindDigits", "(I)I"⟩, 6) := ⟨⟨by decide +kernel, by decide +kernel⟩, List.mem_of_getElem? (i := 169) (by decide +kernel), List.mem_of_getElem? (i := 527) (by decide +kernel), List.mem_of_getElem? (i := 528) (by decide +kernel)⟩
theorem lw_p4 : lw_okq (⟨"LeagueOffice$Reader", "numberAt", "(II)I"⟩, 6) := ⟨⟨by decide +kernel, by decide +kernel⟩, List.mem_of_getElem? (i := 169) (by decide +kernel), List.mem_of_getElem? (i := 531) (by decide +kernel), List.mem_of_getElem? (i := 532) (by decide +kernel)⟩
theorem lw_p5 : lw_okq (⟨"LeagueOffice$Reader", "behindLetters", "(I)I"⟩, 6) := ⟨⟨by decide +kernel, by decide +kernel⟩, List.mem_of_getElem? (i := 169) (by decide +kernel), List.mem_of_getElem? (i := 538) (by decide +kernel), List.mem_of_getElem? (i := 539) (by decide +kernel)⟩
theorem lw_p6 : lw_okq (⟨"LeagueOffice$Reader", "wordAt", "(II)I"⟩, 6) := ⟨⟨by decide +kernel, by decide +kernel⟩, List.mem_of_getElem? (i := 169) (by decide +kernel), List.mem_of_getElem? (i := 542) (by decide +kernel), List.mem_of_getElem? (i := 543) (by decide +kernel)⟩
theorem lw_p7 : lw_okq (⟨"LeagueOffice$Reader", "isWord", "(Ljava/lang/String;II)Z"⟩, 6) := ⟨⟨by decide +kernel, by decide +kernel⟩, List.mem_of_getElem? (i := 169) (by decide +kernel), List.mem_of_getElem? (i := 562) (by decide +kernel), List.mem_of_getElem? (i := 563) (by decide +kernel)⟩
theorem lw_p8 : lw_okq (⟨"LeagueOffice$Reader", "readPart", "(I)Z"⟩, 6) := ⟨⟨by decide +kernel, by decide +kernel⟩, List.mem_of_getElem? (i := 169) (by decide +kernel), List.mem_of_getElem? (i := 576) (by decide +kernel), List.mem_of_getElem? (i := 577) (by decide +kernel)⟩
theorem lw_p9 : lw_okq (⟨"LeagueOffice$Reader", "readToken", "(I)Z"⟩, 6) := ⟨⟨by decide +kernel, by decide +kernel⟩, List.mem_of_getElem? (i := 169) (by decide +kernel), List.mem_of_getElem? (i := 580) (by decide +kernel), List.mem_of_getElem? (i := 581) (by decide +kernel)⟩
theorem lw_p10 : lw_okq (⟨"LeagueOffice$Reader", "readLevel", "(II)Z"⟩, 6) := ⟨⟨by decide +kernel, by decide +kernel⟩, List.mem_of_getElem? (i := 169) (by decide +kernel), List.mem_of_getElem? (i := 593) (by decide +kernel), List.mem_of_getElem? (i := 594) (by decide +kernel)⟩
theorem lw_p11 : lw_okq (⟨"LeagueOffice$Reader", "readOne", "(I)Z"⟩, 6) := ⟨⟨by decide +kernel, by decide +kernel⟩, List.mem_of_getElem? (i := 169) (by decide +kernel), List.mem_of_getElem? (i := 597) (by decide +kernel), List.mem_of_getElem? (i := 598) (by decide +kernel)⟩
theorem lw_p12 : lw_okq (⟨"LeagueOffice$Reader", "readNot", "(I)Z"⟩, 6) := ⟨⟨by decide +kernel, by decide +kernel⟩, List.mem_of_getElem? (i := 169) (by decide +kernel), List.mem_of_getElem? (i := 610) (by decide +kernel), List.mem_of_getElem? (i := 611) (by decide +kernel)⟩
theorem lw_p13 : lw_okq (⟨"LeagueOffice", "tellResult", "(III)I"⟩, 10) := ⟨⟨by decide +kernel, by decide +kernel⟩, List.mem_of_getElem? (i := 22) (by decide +kernel), List.mem_of_getElem? (i := 723) (by decide +kernel), List.mem_of_getElem? (i := 724) (by decide +kernel)⟩
theorem lw_p14 : lw_okq (⟨"LeagueOffice$Tables", "enter", "(IIII)V"⟩, 12) := ⟨⟨by decide +kernel, by decide +kernel⟩, List.mem_of_getElem? (i := 197) (by decide +kernel), List.mem_of_getElem? (i := 797) (by decide +kernel), List.mem_of_getElem? (i := 798) (by decide +kernel)⟩
theorem lw_p15 : lw_okq (⟨"LeagueOffice$Texts", "value", "(II)I"⟩, 8) := ⟨⟨by decide +kernel, by decide +kernel⟩, List.mem_of_getElem? (i := 132) (by decide +kernel), List.mem_of_getElem? (i := 825) (by decide +kernel), List.mem_of_getElem? (i := 826) (by decide +kernel)⟩
def lw_privs_1 : List (MethodName × Nat) := [(⟨"LeagueOffice$Reader", "split", "()V"⟩, 6), (⟨"LeagueOffice$Reader", "behindBlanks", "(I)I"⟩, 6), (⟨"LeagueOffice$Reader", "addToken", "(III)V"⟩, 6), (⟨"LeagueOffice$Reader", "behindDigits", "(I)I"⟩, 6), (⟨"LeagueOffice$Reader", "numberAt", "(II)I"⟩, 6), (⟨"LeagueOffice$Reader", "behindLetters", "(I)I"⟩, 6), (⟨"LeagueOffice$Reader", "wordAt", "(II)I"⟩, 6), (⟨"LeagueOffice$Reader", "isWord", "(Ljava/lang/String;II)Z"⟩, 6), (⟨"LeagueOffice$Reader", "readPart", "(I)Z"⟩, 6), (⟨"LeagueOffice$Reader", "readToken", "(I)Z"⟩, 6), (⟨"LeagueOffice$Reader", "readLevel", "(II)Z"⟩, 6), (⟨"LeagueOffice$Reader", "readOne", "(I)Z"⟩, 6), (⟨"LeagueOffice$Reader", "readNot", "(I)Z"⟩, 6), (⟨"LeagueOffice", "tellResult", "(III)I"⟩, 10), (⟨"LeagueOffice$Tables", "enter", "(IIII)V"⟩, 12), (⟨"LeagueOffice$Texts", "value", "(II)I"⟩, 8)]
theorem lw_r1 : ∀ q ∈ lw_privs_1, lw_okq q := List.forall_mem_cons.mpr ⟨lw_p0, List.forall_mem_cons.mpr ⟨lw_p1, List.forall_mem_cons.mpr ⟨lw_p2, List.forall_mem_cons.mpr ⟨lw_p3, List.forall_mem_cons.mpr ⟨lw_p4, List.forall_mem_cons.mpr ⟨lw_p5, List.forall_mem_cons.mpr ⟨lw_p6, List.forall_mem_cons.mpr ⟨lw_p7, List.forall_mem_cons.mpr ⟨lw_p8, List.forall_mem_cons.mpr ⟨lw_p9, List.forall_mem_cons.mpr ⟨lw_p10, List.forall_mem_cons.mpr ⟨lw_p11, List.forall_mem_cons.mpr ⟨lw_p12, List.forall_mem_cons.mpr ⟨lw_p13, List.forall_mem_cons.mpr ⟨lw_p14, List.forall_mem_cons.mpr ⟨lw_p15, fun _ h => absurd h List.not_mem_nil⟩⟩⟩⟩⟩⟩⟩⟩⟩⟩⟩⟩⟩⟩⟩⟩
theorem lw_p16 : lw_okq (⟨"LeagueOffice$Squad", "hold", "(II)V"⟩, 14) := ⟨⟨by decide +kernel, by decide +kernel⟩, List.mem_of_getElem? (i := 246) (by decide +kernel), List.mem_of_getElem? (i := 937) (by decide +kernel), List.mem_of_getElem? (i := 938) (by decide +kernel)⟩
theorem lw_p17 : lw_okq (⟨"LeagueOffice$Failures", "changeGames", "(IZ)I"⟩, 7) := ⟨⟨by decide +kernel, by decide +kernel⟩, List.mem_of_getElem? (i := 307) (by decide +kernel), List.mem_of_getElem? (i := 998) (by decide +kernel), List.mem_of_getElem? (i := 999) (by decide +kernel)⟩
theorem lw_p18 : lw_okq (⟨"LeagueOffice$Failures", "keep", "(II)V"⟩, 7) := ⟨⟨by decide +kernel, by decide +kernel⟩, List.mem_of_getElem? (i := 307) (by decide +kernel), List.mem_of_getElem? (i := 1002) (by decide +kernel), List.mem_of_getElem? (i := 1003) (by decide +kernel)⟩
theorem lw_p19 : lw_okq (⟨"LeagueOffice$Failures", "give", "(II)V"⟩, 7) := ⟨⟨by decide +kernel, by decide +kernel⟩, List.mem_of_getElem? (i := 307) (by decide +kernel), List.mem_of_getElem? (i := 1006) (by decide +kernel), List.mem_of_getElem? (i := 1007) (by decide +kernel)⟩
theorem lw_p20 : lw_okq (⟨"LeagueOffice$Failures", "hasChanged", "(II)Z"⟩, 7) := ⟨⟨by decide +kernel, by decide +kernel⟩, List.mem_of_getElem? (i := 307) (by decide +kernel), List.mem_of_getElem? (i := 1019) (by decide +kernel), List.mem_of_getElem? (i := 1020) (by decide +kernel)⟩
theorem lw_p21 : lw_okq (⟨"LeagueOffice$Chances", "enterFirst", "()I"⟩, 10) := ⟨⟨by decide +kernel, by decide +kernel⟩, List.mem_of_getElem? (i := 337) (by decide +kernel), List.mem_of_getElem? (i := 1056) (by decide +kernel), List.mem_of_getElem? (i := 1057) (by decide +kernel)⟩
theorem lw_p22 : lw_okq (⟨"LeagueOffice$Chances", "enter", "(II)V"⟩, 10) := ⟨⟨by decide +kernel, by decide +kernel⟩, List.mem_of_getElem? (i := 337) (by decide +kernel), List.mem_of_getElem? (i := 1063) (by decide +kernel), List.mem_of_getElem? (i := 1064) (by decide +kernel)⟩
theorem lw_p23 : lw_okq (⟨"LeagueOffice$Chances", "enterWin", "(IIII)V"⟩, 10) := ⟨⟨by decide +kernel, by decide +kernel⟩, List.mem_of_getElem? (i := 337) (by decide +kernel), List.mem_of_getElem? (i := 1067) (by decide +kernel), List.mem_of_getElem? (i := 1068) (by decide +kernel)⟩
theorem lw_p24 : lw_okq (⟨"LeagueOffice$Chances", "enterDraw", "(IIII)V"⟩, 10) := ⟨⟨by decide +kernel, by decide +kernel⟩, List.mem_of_getElem? (i := 337) (by decide +kernel), List.mem_of_getElem? (i := 1073) (by decide +kernel), List.mem_of_getElem? (i := 1074) (by decide +kernel)⟩
theorem lw_p25 : lw_okq (⟨"LeagueOffice$Chances", "enterNext", "()V"⟩, 10) := ⟨⟨by decide +kernel, by decide +kernel⟩, List.mem_of_getElem? (i := 337) (by decide +kernel), List.mem_of_getElem? (i := 1078) (by decide +kernel), List.mem_of_getElem? (i := 1079) (by decide +kernel)⟩
theorem lw_p26 : lw_okq (⟨"LeagueOffice$Chances", "sumOf", "(I)J"⟩, 10) := ⟨⟨by decide +kernel, by decide +kernel⟩, List.mem_of_getElem? (i := 337) (by decide +kernel), List.mem_of_getElem? (i := 1104) (by decide +kernel), List.mem_of_getElem? (i := 1105) (by decide +kernel)⟩
theorem lw_p27 : lw_okq (⟨"LeagueOffice$Purse", "sumGates", "()V"⟩, 3) := ⟨⟨by decide +kernel, by decide +kernel⟩, List.mem_of_getElem? (i := 376) (by decide +kernel), List.mem_of_getElem? (i := 1119) (by decide +kernel), List.mem_of_getElem? (i := 1120) (by decide +kernel)⟩
theorem lw_p28 : lw_okq (⟨"LeagueOffice$Plan", "look", "(I)V"⟩, 6) := ⟨⟨by decide +kernel, by decide +kernel⟩, List.mem_of_getElem? (i := 394) (by decide +kernel), List.mem_of_getElem? (i := 1165) (by decide +kernel), List.mem_of_getElem? (i := 1166) (by decide +kernel)⟩
theorem lw_p29 : lw_okq (⟨"LeagueOffice$Plan", "breaksOf", "(I)I"⟩, 6) := ⟨⟨by decide +kernel, by decide +kernel⟩, List.mem_of_getElem? (i := 394) (by decide +kernel), List.mem_of_getElem? (i := 1171) (by decide +kernel), List.mem_of_getElem? (i := 1172) (by decide +kernel)⟩
theorem lw_p30 : lw_okq (⟨"LeagueOfficeModel", "isClub", "(I)Z"⟩, 78) := ⟨⟨by decide +kernel, by decide +kernel⟩, List.mem_of_getElem? (i := 1259) (by decide +kernel), List.mem_of_getElem? (i := 1257) (by decide +kernel), List.mem_of_getElem? (i := 1258) (by decide +kernel)⟩
theorem lw_p31 : lw_okq (⟨"LeagueOfficeModel", "isGame", "(I)Z"⟩, 78) := ⟨⟨by decide +kernel, by decide +kernel⟩, List.mem_of_getElem? (i := 1259) (by decide +kernel), List.mem_of_getElem? (i := 1273) (by decide +kernel), List.mem_of_getElem? (i := 1274) (by decide +kernel)⟩
def lw_privs_2 : List (MethodName × Nat) := [(⟨"LeagueOffice$Squad", "hold", "(II)V"⟩, 14), (⟨"LeagueOffice$Failures", "changeGames", "(IZ)I"⟩, 7), (⟨"LeagueOffice$Failures", "keep", "(II)V"⟩, 7), (⟨"LeagueOffice$Failures", "give", "(II)V"⟩, 7), (⟨"LeagueOffice$Failures", "hasChanged", "(II)Z"⟩, 7), (⟨"LeagueOffice$Chances", "enterFirst", "()I"⟩, 10), (⟨"LeagueOffice$Chances", "enter", "(II)V"⟩, 10), (⟨"LeagueOffice$Chances", "enterWin", "(IIII)V"⟩, 10), (⟨"LeagueOffice$Chances", "enterDraw", "(IIII)V"⟩, 10), (⟨"LeagueOffice$Chances", "enterNext", "()V"⟩, 10), (⟨"LeagueOffice$Chances", "sumOf", "(I)J"⟩, 10), (⟨"LeagueOffice$Purse", "sumGates", "()V"⟩, 3), (⟨"LeagueOffice$Plan", "look", "(I)V"⟩, 6), (⟨"LeagueOffice$Plan", "breaksOf", "(I)I"⟩, 6), (⟨"LeagueOfficeModel", "isClub", "(I)Z"⟩, 78), (⟨"LeagueOfficeModel", "isGame", "(I)Z"⟩, 78)]
theorem lw_r2 : ∀ q ∈ lw_privs_2, lw_okq q := List.forall_mem_cons.mpr ⟨lw_p16, List.forall_mem_cons.mpr ⟨lw_p17, List.forall_mem_cons.mpr ⟨lw_p18, List.forall_mem_cons.mpr ⟨lw_p19, List.forall_mem_cons.mpr ⟨lw_p20, List.forall_mem_cons.mpr ⟨lw_p21, List.forall_mem_cons.mpr ⟨lw_p22, List.forall_mem_cons.mpr ⟨lw_p23, List.forall_mem_cons.mpr ⟨lw_p24, List.forall_mem_cons.mpr ⟨lw_p25, List.forall_mem_cons.mpr ⟨lw_p26, List.forall_mem_cons.mpr ⟨lw_p27, List.forall_mem_cons.mpr ⟨lw_p28, List.forall_mem_cons.mpr ⟨lw_p29, List.forall_mem_cons.mpr ⟨lw_p30, List.forall_mem_cons.mpr ⟨lw_p31, fun _ h => absurd h List.not_mem_nil⟩⟩⟩⟩⟩⟩⟩⟩⟩⟩⟩⟩⟩⟩⟩⟩
theorem lw_p32 : lw_okq (⟨"LeagueOfficeModel", "knownIn", "(II)I"⟩, 78) := ⟨⟨by decide +kernel, by decide +kernel⟩, List.mem_of_getElem? (i := 1259) (by decide +kernel), List.mem_of_getElem? (i := 1297) (by decide +kernel), List.mem_of_getElem? (i := 1298) (by decide +kernel)⟩
theorem lw_p33 : lw_okq (⟨"LeagueOfficeModel", "readText", "()I"⟩, 78) := ⟨⟨by decide +kernel, by decide +kernel⟩, List.mem_of_getElem? (i := 1259) (by decide +kernel), List.mem_of_getElem? (i := 1308) (by decide +kernel), List.mem_of_getElem? (i := 1309) (by decide +kernel)⟩
theorem lw_p34 : lw_okq (⟨"LeagueOfficeModel", "nextToken", "()V"⟩, 78) := ⟨⟨by decide +kernel, by decide +kernel⟩, List.mem_of_getElem? (i := 1259) (by decide +kernel), List.mem_of_getElem? (i := 1312) (by decide +kernel), List.mem_of_getElem? (i := 1313) (by decide +kernel)⟩
theorem lw_p35 : lw_okq (⟨"LeagueOfficeModel", "isWord", "(J)Z"⟩, 78) := ⟨⟨by decide +kernel, by decide +kernel⟩, List.mem_of_getElem? (i := 1259) (by decide +kernel), List.mem_of_getElem? (i := 1327) (by decide +kernel), List.mem_of_getElem? (i := 1328) (by decide +kernel)⟩
theorem lw_p36 : lw_okq (⟨"LeagueOfficeModel", "faultHere", "()V"⟩, 78) := ⟨⟨by decide +kernel, by decide +kernel⟩, List.mem_of_getElem? (i := 1259) (by decide +kernel), List.mem_of_getElem? (i := 1333) (by decide +kernel), List.mem_of_getElem? (i := 1334) (by decide +kernel)⟩
theorem lw_p37 : lw_okq (⟨"LeagueOfficeModel", "either", "()V"⟩, 78) := ⟨⟨by decide +kernel, by decide +kernel⟩, List.mem_of_getElem? (i := 1259) (by decide +kernel), List.mem_of_getElem? (i := 1337) (by decide +kernel), List.mem_of_getElem? (i := 1338) (by decide +kernel)⟩
theorem lw_p38 : lw_okq (⟨"LeagueOfficeModel", "and", "()V"⟩, 78) := ⟨⟨by decide +kernel, by decide +kernel⟩, List.mem_of_getElem? (i := 1259) (by decide +kernel), List.mem_of_getElem? (i := 1341) (by decide +kernel), List.mem_of_getElem? (i := 1342) (by decide +kernel)⟩
theorem lw_p39 : lw_okq (⟨"LeagueOfficeModel", "not", "()V"⟩, 78) := ⟨⟨by decide +kernel, by decide +kernel⟩, List.mem_of_getElem? (i := 1259) (by decide +kernel), List.mem_of_getElem? (i := 1345) (by decide +kernel), List.mem_of_getElem? (i := 1346) (by decide +kernel)⟩
theorem lw_p40 : lw_okq (⟨"LeagueOfficeModel", "opens", "()Z"⟩, 78) := ⟨⟨by decide +kernel, by decide +kernel⟩, List.mem_of_getElem? (i := 1259) (by decide +kernel), List.mem_of_getElem? (i := 1350) (by decide +kernel), List.mem_of_getElem? (i := 1351) (by decide +kernel)⟩
theorem lw_p41 : lw_okq (⟨"LeagueOfficeModel", "lay", "(II)V"⟩, 78) := ⟨⟨by decide +kernel, by decide +kernel⟩, List.mem_of_getElem? (i := 1259) (by decide +kernel), List.mem_of_getElem? (i := 1354) (by decide +kernel), List.mem_of_getElem? (i := 1355) (by decide +kernel)⟩
theorem lw_p42 : lw_okq (⟨"LeagueOfficeModel", "sum", "()V"⟩, 78) := ⟨⟨by decide +kernel, by decide +kernel⟩, List.mem_of_getElem? (i := 1259) (by decide +kernel), List.mem_of_getElem? (i := 1358) (by decide +kernel), List.mem_of_getElem? (i := 1359) (by decide +kernel)⟩
theorem lw_p43 : lw_okq (⟨"LeagueOfficeModel", "term", "()V"⟩, 78) := ⟨⟨by decide +kernel, by decide +kernel⟩, List.mem_of_getElem? (i := 1259) (by decide +kernel), List.mem_of_getElem? (i := 1362) (by decide +kernel), List.mem_of_getElem? (i := 1363) (by decide +kernel)⟩
theorem lw_p44 : lw_okq (⟨"LeagueOfficeModel", "one", "()V"⟩, 78) := ⟨⟨by decide +kernel, by decide +kernel⟩, List.mem_of_getElem? (i := 1259) (by decide +kernel), List.mem_of_getElem? (i := 1366) (by decide +kernel), List.mem_of_getElem? (i := 1367) (by decide +kernel)⟩
theorem lw_p45 : lw_okq (⟨"LeagueOfficeModel", "nameOf", "()I"⟩, 78) := ⟨⟨by decide +kernel, by decide +kernel⟩, List.mem_of_getElem? (i := 1259) (by decide +kernel), List.mem_of_getElem? (i := 1370) (by decide +kernel), List.mem_of_getElem? (i := 1371) (by decide +kernel)⟩
theorem lw_p46 : lw_okq (⟨"LeagueOfficeModel", "textOn", "(I)I"⟩, 78) := ⟨⟨by decide +kernel, by decide +kernel⟩, List.mem_of_getElem? (i := 1259) (by decide +kernel), List.mem_of_getElem? (i := 1629) (by decide +kernel), List.mem_of_getElem? (i := 1630) (by decide +kernel)⟩
theorem lw_p47 : lw_okq (⟨"LeagueOfficeModel", "pointsOf", "(II)J"⟩, 78) := ⟨⟨by decide +kernel, by decide +kernel⟩, List.mem_of_getElem? (i := 1259) (by decide +kernel), List.mem_of_getElem? (i := 1641) (by decide +kernel), List.mem_of_getElem? (i := 1642) (by decide +kernel)⟩
def lw_privs_3 : List (MethodName × Nat) := [(⟨"LeagueOfficeModel", "knownIn", "(II)I"⟩, 78), (⟨"LeagueOfficeModel", "readText", "()I"⟩, 78), (⟨"LeagueOfficeModel", "nextToken", "()V"⟩, 78), (⟨"LeagueOfficeModel", "isWord", "(J)Z"⟩, 78), (⟨"LeagueOfficeModel", "faultHere", "()V"⟩, 78), (⟨"LeagueOfficeModel", "either", "()V"⟩, 78), (⟨"LeagueOfficeModel", "and", "()V"⟩, 78), (⟨"LeagueOfficeModel", "not", "()V"⟩, 78), (⟨"LeagueOfficeModel", "opens", "()Z"⟩, 78), (⟨"LeagueOfficeModel", "lay", "(II)V"⟩, 78), (⟨"LeagueOfficeModel", "sum", "()V"⟩, 78), (⟨"LeagueOfficeModel", "term", "()V"⟩, 78), (⟨"LeagueOfficeModel", "one", "()V"⟩, 78), (⟨"LeagueOfficeModel", "nameOf", "()I"⟩, 78), (⟨"LeagueOfficeModel", "textOn", "(I)I"⟩, 78), (⟨"LeagueOfficeModel", "pointsOf", "(II)J"⟩, 78)]
theorem lw_r3 : ∀ q ∈ lw_privs_3, lw_okq q := List.forall_mem_cons.mpr ⟨lw_p32, List.forall_mem_cons.mpr ⟨lw_p33, List.forall_mem_cons.mpr ⟨lw_p34, List.forall_mem_cons.mpr ⟨lw_p35, List.forall_mem_cons.mpr ⟨lw_p36, List.forall_mem_cons.mpr ⟨lw_p37, List.forall_mem_cons.mpr ⟨lw_p38, List.forall_mem_cons.mpr ⟨lw_p39, List.forall_mem_cons.mpr ⟨lw_p40, List.forall_mem_cons.mpr ⟨lw_p41, List.forall_mem_cons.mpr ⟨lw_p42, List.forall_mem_cons.mpr ⟨lw_p43, List.forall_mem_cons.mpr ⟨lw_p44, List.forall_mem_cons.mpr ⟨lw_p45, List.forall_mem_cons.mpr ⟨lw_p46, List.forall_mem_cons.mpr ⟨lw_p47, fun _ h => absurd h List.not_mem_nil⟩⟩⟩⟩⟩⟩⟩⟩⟩⟩⟩⟩⟩⟩⟩⟩
theorem lw_p48 : lw_okq (⟨"LeagueOfficeModel", "isIn", "(II)Z"⟩, 78) := ⟨⟨by decide +kernel, by decide +kernel⟩, List.mem_of_getElem? (i := 1259) (by decide +kernel), List.mem_of_getElem? (i := 1645) (by decide +kernel), List.mem_of_getElem? (i := 1646) (by decide +kernel)⟩
theorem lw_p49 : lw_okq (⟨"LeagueOfficeModel", "endOf", "(II)I"⟩, 78) := ⟨⟨by decide +kernel, by decide +kernel⟩, List.mem_of_getElem? (i := 1259) (by decide +kernel), List.mem_of_getElem? (i := 1649) (by decide +kernel), List.mem_of_getElem? (i := 1650) (by decide +kernel)⟩
theorem lw_p50 : lw_okq (⟨"LeagueOfficeModel", "pointsIn", "(III)I"⟩, 78) := ⟨⟨by decide +kernel, by decide +kernel⟩, List.mem_of_getElem? (i := 1259) (by decide +kernel), List.mem_of_getElem? (i := 1653) (by decide +kernel), List.mem_of_getElem? (i := 1654) (by decide +kernel)⟩
theorem lw_p51 : lw_okq (⟨"LeagueOfficeModel", "setFacts", "(IIIIII)V"⟩, 78) := ⟨⟨by decide +kernel, by decide +kernel⟩, List.mem_of_getElem? (i := 1259) (by decide +kernel), List.mem_of_getElem? (i := 1660) (by decide +kernel), List.mem_of_getElem? (i := 1661) (by decide +kernel)⟩
theorem lw_p52 : lw_okq (⟨"LeagueOfficeModel", "says", "(II)I"⟩, 78) := ⟨⟨by decide +kernel, by decide +kernel⟩, List.mem_of_getElem? (i := 1259) (by decide +kernel), List.mem_of_getElem? (i := 1664) (by decide +kernel), List.mem_of_getElem? (i := 1665) (by decide +kernel)⟩
theorem lw_p53 : lw_okq (⟨"LeagueOfficeModel", "likeOf", "(II)J"⟩, 78) := ⟨⟨by decide +kernel, by decide +kernel⟩, List.mem_of_getElem? (i := 1259) (by decide +kernel), List.mem_of_getElem? (i := 1676) (by decide +kernel), List.mem_of_getElem? (i := 1677) (by decide +kernel)⟩
theorem lw_p54 : lw_okq (⟨"LeagueOfficeModel", "tally", "(III)V"⟩, 78) := ⟨⟨by decide +kernel, by decide +kernel⟩, List.mem_of_getElem? (i := 1259) (by decide +kernel), List.mem_of_getElem? (i := 1680) (by decide +kernel), List.mem_of_getElem? (i := 1681) (by decide +kernel)⟩
theorem lw_p55 : lw_okq (⟨"LeagueOfficeModel", "likeBy", "(II)J"⟩, 78) := ⟨⟨by decide +kernel, by decide +kernel⟩, List.mem_of_getElem? (i := 1259) (by decide +kernel), List.mem_of_getElem? (i := 1684) (by decide +kernel), List.mem_of_getElem? (i := 1685) (by decide +kernel)⟩
theorem lw_p56 : lw_okq (⟨"LeagueOfficeModel", "findAll", "(II)V"⟩, 78) := ⟨⟨by decide +kernel, by decide +kernel⟩, List.mem_of_getElem? (i := 1259) (by decide +kernel), List.mem_of_getElem? (i := 1692) (by decide +kernel), List.mem_of_getElem? (i := 1693) (by decide +kernel)⟩
theorem lw_p57 : lw_okq (⟨"LeagueOfficeModel", "placeNow", "(I)I"⟩, 78) := ⟨⟨by decide +kernel, by decide +kernel⟩, List.mem_of_getElem? (i := 1259) (by decide +kernel), List.mem_of_getElem? (i := 1696) (by decide +kernel), List.mem_of_getElem? (i := 1697) (by decide +kernel)⟩
theorem lw_p58 : lw_okq (⟨"LeagueOfficeModel", "isAhead", "(II)Z"⟩, 78) := ⟨⟨by decide +kernel, by decide +kernel⟩, List.mem_of_getElem? (i := 1259) (by decide +kernel), List.mem_of_getElem? (i := 1700) (by decide +kernel), List.mem_of_getElem? (i := 1701) (by decide +kernel)⟩
theorem lw_p59 : lw_okq (⟨"LeagueOfficeModel", "isPlayer", "(I)Z"⟩, 78) := ⟨⟨by decide +kernel, by decide +kernel⟩, List.mem_of_getElem? (i := 1259) (by decide +kernel), List.mem_of_getElem? (i := 1716) (by decide +kernel), List.mem_of_getElem? (i := 1717) (by decide +kernel)⟩
theorem lw_p60 : lw_okq (⟨"LeagueOfficeModel", "clubFor", "(II)I"⟩, 78) := ⟨⟨by decide +kernel, by decide +kernel⟩, List.mem_of_getElem? (i := 1259) (by decide +kernel), List.mem_of_getElem? (i := 1724) (by decide +kernel), List.mem_of_getElem? (i := 1725) (by decide +kernel)⟩
theorem lw_p61 : lw_okq (⟨"LeagueOfficeModel", "bansOf", "(I)I"⟩, 78) := ⟨⟨by decide +kernel, by decide +kernel⟩, List.mem_of_getElem? (i := 1259) (by decide +kernel), List.mem_of_getElem? (i := 1736) (by decide +kernel), List.mem_of_getElem? (i := 1737) (by decide +kernel)⟩
theorem lw_p62 : lw_okq (⟨"LeagueOfficeModel", "findBanned", "(I)V"⟩, 78) := ⟨⟨by decide +kernel, by decide +kernel⟩, List.mem_of_getElem? (i := 1259) (by decide +kernel), List.mem_of_getElem? (i := 1744) (by decide +kernel), List.mem_of_getElem? (i := 1745) (by decide +kernel)⟩
theorem lw_p63 : lw_okq (⟨"LeagueOfficeModel", "isBehind", "(II)Z"⟩, 78) := ⟨⟨by decide +kernel, by decide +kernel⟩, List.mem_of_getElem? (i := 1259) (by decide +kernel), List.mem_of_getElem? (i := 1748) (by decide +kernel), List.mem_of_getElem? (i := 1749) (by decide +kernel)⟩
def lw_privs_4 : List (MethodName × Nat) := [(⟨"LeagueOfficeModel", "isIn", "(II)Z"⟩, 78), (⟨"LeagueOfficeModel", "endOf", "(II)I"⟩, 78), (⟨"LeagueOfficeModel", "pointsIn", "(III)I"⟩, 78), (⟨"LeagueOfficeModel", "setFacts", "(IIIIII)V"⟩, 78), (⟨"LeagueOfficeModel", "says", "(II)I"⟩, 78), (⟨"LeagueOfficeModel", "likeOf", "(II)J"⟩, 78), (⟨"LeagueOfficeModel", "tally", "(III)V"⟩, 78), (⟨"LeagueOfficeModel", "likeBy", "(II)J"⟩, 78), (⟨"LeagueOfficeModel", "findAll", "(II)V"⟩, 78), (⟨"LeagueOfficeModel", "placeNow", "(I)I"⟩, 78), (⟨"LeagueOfficeModel", "isAhead", "(II)Z"⟩, 78), (⟨"LeagueOfficeModel", "isPlayer", "(I)Z"⟩, 78), (⟨"LeagueOfficeModel", "clubFor", "(II)I"⟩, 78), (⟨"LeagueOfficeModel", "bansOf", "(I)I"⟩, 78), (⟨"LeagueOfficeModel", "findBanned", "(I)V"⟩, 78), (⟨"LeagueOfficeModel", "isBehind", "(II)Z"⟩, 78)]
theorem lw_r4 : ∀ q ∈ lw_privs_4, lw_okq q := List.forall_mem_cons.mpr ⟨lw_p48, List.forall_mem_cons.mpr ⟨lw_p49, List.forall_mem_cons.mpr ⟨lw_p50, List.forall_mem_cons.mpr ⟨lw_p51, List.forall_mem_cons.mpr ⟨lw_p52, List.forall_mem_cons.mpr ⟨lw_p53, List.forall_mem_cons.mpr ⟨lw_p54, List.forall_mem_cons.mpr ⟨lw_p55, List.forall_mem_cons.mpr ⟨lw_p56, List.forall_mem_cons.mpr ⟨lw_p57, List.forall_mem_cons.mpr ⟨lw_p58, List.forall_mem_cons.mpr ⟨lw_p59, List.forall_mem_cons.mpr ⟨lw_p60, List.forall_mem_cons.mpr ⟨lw_p61, List.forall_mem_cons.mpr ⟨lw_p62, List.forall_mem_cons.mpr ⟨lw_p63, fun _ h => absurd h List.not_mem_nil⟩⟩⟩⟩⟩⟩⟩⟩⟩⟩⟩⟩⟩⟩⟩⟩
theorem lw_p64 : lw_okq (⟨"LeagueOfficeModel", "mayPlay", "(II)Z"⟩, 78) := ⟨⟨by decide +kernel, by decide +kernel⟩, List.mem_of_getElem? (i := 1259) (by decide +kernel), List.mem_of_getElem? (i := 1756) (by decide +kernel), List.mem_of_getElem? (i := 1757) (by decide +kernel)⟩
theorem lw_p65 : lw_okq (⟨"LeagueOfficeModel", "isWrong", "(I)Z"⟩, 78) := ⟨⟨by decide +kernel, by decide +kernel⟩, List.mem_of_getElem? (i := 1259) (by decide +kernel), List.mem_of_getElem? (i := 1768) (by decide +kernel), List.mem_of_getElem? (i := 1769) (by decide +kernel)⟩
theorem lw_p66 : lw_okq (⟨"LeagueOfficeModel", "change", "(IIIII)V"⟩, 78) := ⟨⟨by decide +kernel, by decide +kernel⟩, List.mem_of_getElem? (i := 1259) (by decide +kernel), List.mem_of_getElem? (i := 1776) (by decide +kernel), List.mem_of_getElem? (i := 1777) (by decide +kernel)⟩
theorem lw_p67 : lw_okq (⟨"LeagueOfficeModel", "findStill", "(I)V"⟩, 78) := ⟨⟨by decide +kernel, by decide +kernel⟩, List.mem_of_getElem? (i := 1259) (by decide +kernel), List.mem_of_getElem? (i := 1788) (by decide +kernel), List.mem_of_getElem? (i := 1789) (by decide +kernel)⟩
theorem lw_p68 : lw_okq (⟨"LeagueOfficeModel", "canHave", "(IZ)I"⟩, 78) := ⟨⟨by decide +kernel, by decide +kernel⟩, List.mem_of_getElem? (i := 1259) (by decide +kernel), List.mem_of_getElem? (i := 1796) (by decide +kernel), List.mem_of_getElem? (i := 1797) (by decide +kernel)⟩
theorem lw_p69 : lw_okq (⟨"LeagueOfficeModel", "goThrough", "(I)I"⟩, 78) := ⟨⟨by decide +kernel, by decide +kernel⟩, List.mem_of_getElem? (i := 1259) (by decide +kernel), List.mem_of_getElem? (i := 1800) (by decide +kernel), List.mem_of_getElem? (i := 1801) (by decide +kernel)⟩
theorem lw_p70 : lw_okq (⟨"LeagueOfficeModel", "findBase", "(I)V"⟩, 78) := ⟨⟨by decide +kernel, by decide +kernel⟩, List.mem_of_getElem? (i := 1259) (by decide +kernel), List.mem_of_getElem? (i := 1804) (by decide +kernel), List.mem_of_getElem? (i := 1805) (by decide +kernel)⟩
theorem lw_p71 : lw_okq (⟨"LeagueOfficeModel", "addEnds", "(III)V"⟩, 78) := ⟨⟨by decide +kernel, by decide +kernel⟩, List.mem_of_getElem? (i := 1259) (by decide +kernel), List.mem_of_getElem? (i := 1811) (by decide +kernel), List.mem_of_getElem? (i := 1812) (by decide +kernel)⟩
theorem lw_p72 : lw_okq (⟨"LeagueOfficeModel", "gatePart", "(I)I"⟩, 78) := ⟨⟨by decide +kernel, by decide +kernel⟩, List.mem_of_getElem? (i := 1259) (by decide +kernel), List.mem_of_getElem? (i := 1831) (by decide +kernel), List.mem_of_getElem? (i := 1832) (by decide +kernel)⟩
theorem lw_p73 : lw_okq (⟨"LeagueOfficeModel", "hasMeeting", "(I)Z"⟩, 78) := ⟨⟨by decide +kernel, by decide +kernel⟩, List.mem_of_getElem? (i := 1259) (by decide +kernel), List.mem_of_getElem? (i := 1840) (by decide +kernel), List.mem_of_getElem? (i := 1841) (by decide +kernel)⟩
theorem lw_p74 : lw_okq (⟨"LeagueOfficeModel", "breaksBy", "(II)I"⟩, 78) := ⟨⟨by decide +kernel, by decide +kernel⟩, List.mem_of_getElem? (i := 1259) (by decide +kernel), List.mem_of_getElem? (i := 1848) (by decide +kernel), List.mem_of_getElem? (i := 1849) (by decide +kernel)⟩
theorem lw_p75 : lw_okq (⟨"LeagueOfficeModel", "was", "(II)I"⟩, 78) := ⟨⟨by decide +kernel, by decide +kernel⟩, List.mem_of_getElem? (i := 1259) (by decide +kernel), List.mem_of_getElem? (i := 1852) (by decide +kernel), List.mem_of_getElem? (i := 1853) (by decide +kernel)⟩
def lw_privs_5 : List (MethodName × Nat) := [(⟨"LeagueOfficeModel", "mayPlay", "(II)Z"⟩, 78), (⟨"LeagueOfficeModel", "isWrong", "(I)Z"⟩, 78), (⟨"LeagueOfficeModel", "change", "(IIIII)V"⟩, 78), (⟨"LeagueOfficeModel", "findStill", "(I)V"⟩, 78), (⟨"LeagueOfficeModel", "canHave", "(IZ)I"⟩, 78), (⟨"LeagueOfficeModel", "goThrough", "(I)I"⟩, 78), (⟨"LeagueOfficeModel", "findBase", "(I)V"⟩, 78), (⟨"LeagueOfficeModel", "addEnds", "(III)V"⟩, 78), (⟨"LeagueOfficeModel", "gatePart", "(I)I"⟩, 78), (⟨"LeagueOfficeModel", "hasMeeting", "(I)Z"⟩, 78), (⟨"LeagueOfficeModel", "breaksBy", "(II)I"⟩, 78), (⟨"LeagueOfficeModel", "was", "(II)I"⟩, 78)]
theorem lw_r5 : ∀ q ∈ lw_privs_5, lw_okq q := List.forall_mem_cons.mpr ⟨lw_p64, List.forall_mem_cons.mpr ⟨lw_p65, List.forall_mem_cons.mpr ⟨lw_p66, List.forall_mem_cons.mpr ⟨lw_p67, List.forall_mem_cons.mpr ⟨lw_p68, List.forall_mem_cons.mpr ⟨lw_p69, List.forall_mem_cons.mpr ⟨lw_p70, List.forall_mem_cons.mpr ⟨lw_p71, List.forall_mem_cons.mpr ⟨lw_p72, List.forall_mem_cons.mpr ⟨lw_p73, List.forall_mem_cons.mpr ⟨lw_p74, List.forall_mem_cons.mpr ⟨lw_p75, fun _ h => absurd h List.not_mem_nil⟩⟩⟩⟩⟩⟩⟩⟩⟩⟩⟩⟩
def lw_privs : List (MethodName × Nat) := lw_privs_1 ++ (lw_privs_2 ++ (lw_privs_3 ++ (lw_privs_4 ++ (lw_privs_5))))
def lw_tbl : List Cond := k2_sels lw_privs ++ tables_1
theorem lw_privs_ok : ∀ q ∈ lw_privs, lw_okq q := by
  show ∀ q ∈ lw_privs_1 ++ (lw_privs_2 ++ (lw_privs_3 ++ (lw_privs_4 ++ (lw_privs_5)))), lw_okq q
  exact List.forall_mem_append.mpr ⟨lw_r1, List.forall_mem_append.mpr ⟨lw_r2, List.forall_mem_append.mpr ⟨lw_r3, List.forall_mem_append.mpr ⟨lw_r4, lw_r5⟩⟩⟩⟩

-- the classes: printed with the claim
def RX0 : String := "LeagueOffice$Book"
def TX0 : u_T := fun k => match k with
  | 0 => ("LeagueOffice$Book", "today", "I", false)
  | 1 => ("LeagueOffice$Book", "steps", "LLeagueOffice$Row;", true)
  | 2 => ("LeagueOffice$Book", "towns", "LLeagueOffice$Row;", true)
  | 3 => ("LeagueOffice$Book", "kinds", "LLeagueOffice$Row;", true)
  | 4 => ("LeagueOffice$Book", "homes", "LLeagueOffice$Row;", true)
  | 5 => ("LeagueOffice$Book", "guests", "LLeagueOffice$Row;", true)
  | 6 => ("LeagueOffice$Book", "days", "LLeagueOffice$Row;", true)
  | 7 => ("LeagueOffice$Book", "byDay", "LLeagueOffice$Row;", true)
  | 8 => ("LeagueOffice$Book", "toldGames", "LLeagueOffice$Row;", true)
  | 9 => ("LeagueOffice$Book", "toldScores", "LLeagueOffice$Row;", true)
  | 10 => ("LeagueOffice$Book", "toldDays", "LLeagueOffice$Row;", true)
  | _ => ("LeagueOffice$Book", "scores", "LLeagueOffice$Row;", true)
def tyX0 : Nat → FieldType := fun k => match k with
  | 0 => .int
  | 1 => .object "LeagueOffice$Row"
  | 2 => .object "LeagueOffice$Row"
  | 3 => .object "LeagueOffice$Row"
  | 4 => .object "LeagueOffice$Row"
  | 5 => .object "LeagueOffice$Row"
  | 6 => .object "LeagueOffice$Row"
  | 7 => .object "LeagueOffice$Row"
  | 8 => .object "LeagueOffice$Row"
  | 9 => .object "LeagueOffice$Row"
  | 10 => .object "LeagueOffice$Row"
  | _ => .object "LeagueOffice$Row"
theorem nmX0 : ∀ a, a < 12 → ∀ b, b < 12 → a ≠ b → (TX0 a).2.1 ≠ (TX0 b).2.1 := by decide +kernel
theorem tyX0_ok : ∀ k, k < 12 → parseFieldDescriptor (TX0 k).2.2.1 = some (tyX0 k) := by decide +kernel
def RX1 : String := "LeagueOffice$Chances"
def TX1 : u_T := fun k => match k with
  | 0 => ("LeagueOffice$Chances", "book", "LLeagueOffice$Book;", true)
  | 1 => ("LeagueOffice$Chances", "texts", "LLeagueOffice$Texts;", true)
  | 2 => ("LeagueOffice$Chances", "tables", "LLeagueOffice$Tables;", true)
  | 3 => ("LeagueOffice$Chances", "games", "LLeagueOffice$Row;", true)
  | 4 => ("LeagueOffice$Chances", "wins", "LLeagueOffice$Row;", true)
  | 5 => ("LeagueOffice$Chances", "draws", "LLeagueOffice$Row;", true)
  | 6 => ("LeagueOffice$Chances", "hows", "LLeagueOffice$Row;", true)
  | 7 => ("LeagueOffice$Chances", "places", "LLeagueOffice$Row;", true)
  | 8 => ("LeagueOffice$Chances", "sums", "[J", true)
  | _ => ("LeagueOffice$Chances", "ends", "I", false)
def tyX1 : Nat → FieldType := fun k => match k with
  | 0 => .object "LeagueOffice$Book"
  | 1 => .object "LeagueOffice$Texts"
  | 2 => .object "LeagueOffice$Tables"
  | 3 => .object "LeagueOffice$Row"
  | 4 => .object "LeagueOffice$Row"
  | 5 => .object "LeagueOffice$Row"
  | 6 => .object "LeagueOffice$Row"
  | 7 => .object "LeagueOffice$Row"
  | 8 => .array .long
  | _ => .int
theorem nmX1 : ∀ a, a < 10 → ∀ b, b < 10 → a ≠ b → (TX1 a).2.1 ≠ (TX1 b).2.1 := by decide +kernel
theorem tyX1_ok : ∀ k, k < 10 → parseFieldDescriptor (TX1 k).2.2.1 = some (tyX1 k) := by decide +kernel
def RX2 : String := "LeagueOffice$Failures"
def TX2 : u_T := fun k => match k with
  | 0 => ("LeagueOffice$Failures", "book", "LLeagueOffice$Book;", true)
  | 1 => ("LeagueOffice$Failures", "failings", "I", false)
  | 2 => ("LeagueOffice$Failures", "numbers", "LLeagueOffice$Row;", true)
  | 3 => ("LeagueOffice$Failures", "lastChanges", "LLeagueOffice$Row;", true)
  | 4 => ("LeagueOffice$Failures", "wasKinds", "LLeagueOffice$Row;", true)
  | 5 => ("LeagueOffice$Failures", "wasHomes", "LLeagueOffice$Row;", true)
  | _ => ("LeagueOffice$Failures", "wasGuests", "LLeagueOffice$Row;", true)
def tyX2 : Nat → FieldType := fun k => match k with
  | 0 => .object "LeagueOffice$Book"
  | 1 => .int
  | 2 => .object "LeagueOffice$Row"
  | 3 => .object "LeagueOffice$Row"
  | 4 => .object "LeagueOffice$Row"
  | 5 => .object "LeagueOffice$Row"
  | _ => .object "LeagueOffice$Row"
theorem nmX2 : ∀ a, a < 7 → ∀ b, b < 7 → a ≠ b → (TX2 a).2.1 ≠ (TX2 b).2.1 := by decide +kernel
theorem tyX2_ok : ∀ k, k < 7 → parseFieldDescriptor (TX2 k).2.2.1 = some (tyX2 k) := by decide +kernel
def RX3 : String := "LeagueOffice$Plan"
def TX3 : u_T := fun k => match k with
  | 0 => ("LeagueOffice$Plan", "book", "LLeagueOffice$Book;", true)
  | 1 => ("LeagueOffice$Plan", "ones", "LLeagueOffice$Row;", true)
  | 2 => ("LeagueOffice$Plan", "others", "LLeagueOffice$Row;", true)
  | 3 => ("LeagueOffice$Plan", "latest", "LLeagueOffice$Row;", true)
  | 4 => ("LeagueOffice$Plan", "bestBits", "I", false)
  | _ => ("LeagueOffice$Plan", "bestBreaks", "I", false)
def tyX3 : Nat → FieldType := fun k => match k with
  | 0 => .object "LeagueOffice$Book"
  | 1 => .object "LeagueOffice$Row"
  | 2 => .object "LeagueOffice$Row"
  | 3 => .object "LeagueOffice$Row"
  | 4 => .int
  | _ => .int
theorem nmX3 : ∀ a, a < 6 → ∀ b, b < 6 → a ≠ b → (TX3 a).2.1 ≠ (TX3 b).2.1 := by decide +kernel
theorem tyX3_ok : ∀ k, k < 6 → parseFieldDescriptor (TX3 k).2.2.1 = some (tyX3 k) := by decide +kernel
def RX4 : String := "LeagueOffice$Purse"
def TX4 : u_T := fun k => match k with
  | 0 => ("LeagueOffice$Purse", "book", "LLeagueOffice$Book;", true)
  | 1 => ("LeagueOffice$Purse", "tables", "LLeagueOffice$Tables;", true)
  | _ => ("LeagueOffice$Purse", "gateParts", "LLeagueOffice$Row;", true)
def tyX4 : Nat → FieldType := fun k => match k with
  | 0 => .object "LeagueOffice$Book"
  | 1 => .object "LeagueOffice$Tables"
  | _ => .object "LeagueOffice$Row"
theorem nmX4 : ∀ a, a < 3 → ∀ b, b < 3 → a ≠ b → (TX4 a).2.1 ≠ (TX4 b).2.1 := by decide +kernel
theorem tyX4_ok : ∀ k, k < 3 → parseFieldDescriptor (TX4 k).2.2.1 = some (tyX4 k) := by decide +kernel
def RX5 : String := "LeagueOffice$Reader"
def TX5 : u_T := fun k => match k with
  | 0 => ("LeagueOffice$Reader", "texts", "LLeagueOffice$Texts;", true)
  | 1 => ("LeagueOffice$Reader", "tape", "LLeagueOffice$Row;", true)
  | 2 => ("LeagueOffice$Reader", "tokens", "LLeagueOffice$Row;", true)
  | 3 => ("LeagueOffice$Reader", "places", "LLeagueOffice$Row;", true)
  | 4 => ("LeagueOffice$Reader", "values", "LLeagueOffice$Row;", true)
  | _ => ("LeagueOffice$Reader", "at", "I", false)
def tyX5 : Nat → FieldType := fun k => match k with
  | 0 => .object "LeagueOffice$Texts"
  | 1 => .object "LeagueOffice$Row"
  | 2 => .object "LeagueOffice$Row"
  | 3 => .object "LeagueOffice$Row"
  | 4 => .object "LeagueOffice$Row"
  | _ => .int
theorem nmX5 : ∀ a, a < 6 → ∀ b, b < 6 → a ≠ b → (TX5 a).2.1 ≠ (TX5 b).2.1 := by decide +kernel
theorem tyX5_ok : ∀ k, k < 6 → parseFieldDescriptor (TX5 k).2.2.1 = some (tyX5 k) := by decide +kernel
def RX6 : String := "LeagueOffice$Row"
def TX6 : u_T := fun k => match k with
  | 0 => ("LeagueOffice$Row", "items", "[I", true)
  | _ => ("LeagueOffice$Row", "used", "I", false)
def tyX6 : Nat → FieldType := fun k => match k with
  | 0 => .array .int
  | _ => .int
theorem nmX6 : ∀ a, a < 2 → ∀ b, b < 2 → a ≠ b → (TX6 a).2.1 ≠ (TX6 b).2.1 := by decide +kernel
theorem tyX6_ok : ∀ k, k < 2 → parseFieldDescriptor (TX6 k).2.2.1 = some (tyX6 k) := by decide +kernel
def RX7 : String := "LeagueOffice$Sheets"
def TX7 : u_T := fun k => match k with
  | 0 => ("LeagueOffice$Sheets", "sorts", "LLeagueOffice$Row;", true)
  | 1 => ("LeagueOffice$Sheets", "sizes", "LLeagueOffice$Row;", true)
  | _ => ("LeagueOffice$Sheets", "cells", "LLeagueOffice$Row;", true)
def tyX7 : Nat → FieldType := fun k => match k with
  | 0 => .object "LeagueOffice$Row"
  | 1 => .object "LeagueOffice$Row"
  | _ => .object "LeagueOffice$Row"
theorem nmX7 : ∀ a, a < 3 → ∀ b, b < 3 → a ≠ b → (TX7 a).2.1 ≠ (TX7 b).2.1 := by decide +kernel
theorem tyX7_ok : ∀ k, k < 3 → parseFieldDescriptor (TX7 k).2.2.1 = some (tyX7 k) := by decide +kernel
def RX8 : String := "LeagueOffice$Squad"
def TX8 : u_T := fun k => match k with
  | 0 => ("LeagueOffice$Squad", "book", "LLeagueOffice$Book;", true)
  | 1 => ("LeagueOffice$Squad", "texts", "LLeagueOffice$Texts;", true)
  | 2 => ("LeagueOffice$Squad", "players", "I", false)
  | 3 => ("LeagueOffice$Squad", "signedPlayers", "LLeagueOffice$Row;", true)
  | 4 => ("LeagueOffice$Squad", "signedClubs", "LLeagueOffice$Row;", true)
  | 5 => ("LeagueOffice$Squad", "signedFroms", "LLeagueOffice$Row;", true)
  | 6 => ("LeagueOffice$Squad", "cardPlayers", "LLeagueOffice$Row;", true)
  | 7 => ("LeagueOffice$Squad", "cardGames", "LLeagueOffice$Row;", true)
  | 8 => ("LeagueOffice$Squad", "cardKinds", "LLeagueOffice$Row;", true)
  | 9 => ("LeagueOffice$Squad", "playingPlayers", "LLeagueOffice$Row;", true)
  | 10 => ("LeagueOffice$Squad", "playingGames", "LLeagueOffice$Row;", true)
  | 11 => ("LeagueOffice$Squad", "holders", "LLeagueOffice$Row;", true)
  | 12 => ("LeagueOffice$Squad", "marks", "LLeagueOffice$Row;", true)
  | _ => ("LeagueOffice$Squad", "wrongs", "LLeagueOffice$Row;", true)
def tyX8 : Nat → FieldType := fun k => match k with
  | 0 => .object "LeagueOffice$Book"
  | 1 => .object "LeagueOffice$Texts"
  | 2 => .int
  | 3 => .object "LeagueOffice$Row"
  | 4 => .object "LeagueOffice$Row"
  | 5 => .object "LeagueOffice$Row"
  | 6 => .object "LeagueOffice$Row"
  | 7 => .object "LeagueOffice$Row"
  | 8 => .object "LeagueOffice$Row"
  | 9 => .object "LeagueOffice$Row"
  | 10 => .object "LeagueOffice$Row"
  | 11 => .object "LeagueOffice$Row"
  | 12 => .object "LeagueOffice$Row"
  | _ => .object "LeagueOffice$Row"
theorem nmX8 : ∀ a, a < 14 → ∀ b, b < 14 → a ≠ b → (TX8 a).2.1 ≠ (TX8 b).2.1 := by decide +kernel
theorem tyX8_ok : ∀ k, k < 14 → parseFieldDescriptor (TX8 k).2.2.1 = some (tyX8 k) := by decide +kernel
def RX9 : String := "LeagueOffice$Tables"
def TX9 : u_T := fun k => match k with
  | 0 => ("LeagueOffice$Tables", "book", "LLeagueOffice$Book;", true)
  | 1 => ("LeagueOffice$Tables", "texts", "LLeagueOffice$Texts;", true)
  | 2 => ("LeagueOffice$Tables", "takenClubs", "LLeagueOffice$Row;", true)
  | 3 => ("LeagueOffice$Tables", "takenPoints", "LLeagueOffice$Row;", true)
  | 4 => ("LeagueOffice$Tables", "takenFroms", "LLeagueOffice$Row;", true)
  | 5 => ("LeagueOffice$Tables", "points", "[J", true)
  | 6 => ("LeagueOffice$Tables", "goals", "LLeagueOffice$Row;", true)
  | 7 => ("LeagueOffice$Tables", "made", "LLeagueOffice$Row;", true)
  | 8 => ("LeagueOffice$Tables", "won", "LLeagueOffice$Row;", true)
  | 9 => ("LeagueOffice$Tables", "likes", "LLeagueOffice$Row;", true)
  | 10 => ("LeagueOffice$Tables", "asked", "LLeagueOffice$Row;", true)
  | _ => ("LeagueOffice$Tables", "likeDay", "I", false)
def tyX9 : Nat → FieldType := fun k => match k with
  | 0 => .object "LeagueOffice$Book"
  | 1 => .object "LeagueOffice$Texts"
  | 2 => .object "LeagueOffice$Row"
  | 3 => .object "LeagueOffice$Row"
  | 4 => .object "LeagueOffice$Row"
  | 5 => .array .long
  | 6 => .object "LeagueOffice$Row"
  | 7 => .object "LeagueOffice$Row"
  | 8 => .object "LeagueOffice$Row"
  | 9 => .object "LeagueOffice$Row"
  | 10 => .object "LeagueOffice$Row"
  | _ => .int
theorem nmX9 : ∀ a, a < 12 → ∀ b, b < 12 → a ≠ b → (TX9 a).2.1 ≠ (TX9 b).2.1 := by decide +kernel
theorem tyX9_ok : ∀ k, k < 12 → parseFieldDescriptor (TX9 k).2.2.1 = some (tyX9 k) := by decide +kernel
def RX10 : String := "LeagueOffice$Texts"
def TX10 : u_T := fun k => match k with
  | 0 => ("LeagueOffice$Texts", "size", "I", false)
  | 1 => ("LeagueOffice$Texts", "code", "LLeagueOffice$Row;", true)
  | 2 => ("LeagueOffice$Texts", "starts", "LLeagueOffice$Row;", true)
  | 3 => ("LeagueOffice$Texts", "ends", "LLeagueOffice$Row;", true)
  | 4 => ("LeagueOffice$Texts", "names", "LLeagueOffice$Row;", true)
  | 5 => ("LeagueOffice$Texts", "stack", "LLeagueOffice$Row;", true)
  | 6 => ("LeagueOffice$Texts", "ruleTexts", "LLeagueOffice$Row;", true)
  | _ => ("LeagueOffice$Texts", "ruleFroms", "LLeagueOffice$Row;", true)
def tyX10 : Nat → FieldType := fun k => match k with
  | 0 => .int
  | 1 => .object "LeagueOffice$Row"
  | 2 => .object "LeagueOffice$Row"
  | 3 => .object "LeagueOffice$Row"
  | 4 => .object "LeagueOffice$Row"
  | 5 => .object "LeagueOffice$Row"
  | 6 => .object "LeagueOffice$Row"
  | _ => .object "LeagueOffice$Row"
theorem nmX10 : ∀ a, a < 8 → ∀ b, b < 8 → a ≠ b → (TX10 a).2.1 ≠ (TX10 b).2.1 := by decide +kernel
theorem tyX10_ok : ∀ k, k < 8 → parseFieldDescriptor (TX10 k).2.2.1 = some (tyX10 k) := by decide +kernel
def RX11 : String := "LeagueOffice"
def TX11 : u_T := fun k => match k with
  | 0 => ("LeagueOffice", "book", "LLeagueOffice$Book;", true)
  | 1 => ("LeagueOffice", "texts", "LLeagueOffice$Texts;", true)
  | 2 => ("LeagueOffice", "reader", "LLeagueOffice$Reader;", true)
  | 3 => ("LeagueOffice", "tables", "LLeagueOffice$Tables;", true)
  | 4 => ("LeagueOffice", "squad", "LLeagueOffice$Squad;", true)
  | 5 => ("LeagueOffice", "failures", "LLeagueOffice$Failures;", true)
  | 6 => ("LeagueOffice", "chances", "LLeagueOffice$Chances;", true)
  | 7 => ("LeagueOffice", "purse", "LLeagueOffice$Purse;", true)
  | 8 => ("LeagueOffice", "plan", "LLeagueOffice$Plan;", true)
  | _ => ("LeagueOffice", "sheets", "LLeagueOffice$Sheets;", true)
def tyX11 : Nat → FieldType := fun k => match k with
  | 0 => .object "LeagueOffice$Book"
  | 1 => .object "LeagueOffice$Texts"
  | 2 => .object "LeagueOffice$Reader"
  | 3 => .object "LeagueOffice$Tables"
  | 4 => .object "LeagueOffice$Squad"
  | 5 => .object "LeagueOffice$Failures"
  | 6 => .object "LeagueOffice$Chances"
  | 7 => .object "LeagueOffice$Purse"
  | 8 => .object "LeagueOffice$Plan"
  | _ => .object "LeagueOffice$Sheets"
theorem nmX11 : ∀ a, a < 10 → ∀ b, b < 10 → a ≠ b → (TX11 a).2.1 ≠ (TX11 b).2.1 := by decide +kernel
theorem tyX11_ok : ∀ k, k < 10 → parseFieldDescriptor (TX11 k).2.2.1 = some (tyX11 k) := by decide +kernel
def RX12 : String := "LeagueOfficeModel"
def TX12 : u_T := fun k => match k with
  | 0 => ("LeagueOfficeModel", "code", "I", false)
  | 1 => ("LeagueOfficeModel", "today", "I", false)
  | 2 => ("LeagueOfficeModel", "clubs", "I", false)
  | 3 => ("LeagueOfficeModel", "stepOf", "[I", true)
  | 4 => ("LeagueOfficeModel", "townOf", "[I", true)
  | 5 => ("LeagueOfficeModel", "games", "I", false)
  | 6 => ("LeagueOfficeModel", "kind", "[I", true)
  | 7 => ("LeagueOfficeModel", "home", "[I", true)
  | 8 => ("LeagueOfficeModel", "guest", "[I", true)
  | 9 => ("LeagueOfficeModel", "day", "[I", true)
  | 10 => ("LeagueOfficeModel", "results", "I", false)
  | 11 => ("LeagueOfficeModel", "resultGame", "[I", true)
  | 12 => ("LeagueOfficeModel", "resultIs", "[I", true)
  | 13 => ("LeagueOfficeModel", "resultDay", "[I", true)
  | 14 => ("LeagueOfficeModel", "tape", "[B", true)
  | 15 => ("LeagueOfficeModel", "taped", "I", false)
  | 16 => ("LeagueOfficeModel", "texts", "I", false)
  | 17 => ("LeagueOfficeModel", "partEnd", "[I", true)
  | 18 => ("LeagueOfficeModel", "act", "[I", true)
  | 19 => ("LeagueOfficeModel", "with", "[I", true)
  | 20 => ("LeagueOfficeModel", "from", "I", false)
  | 21 => ("LeagueOfficeModel", "upTo", "I", false)
  | 22 => ("LeagueOfficeModel", "token", "I", false)
  | 23 => ("LeagueOfficeModel", "value", "I", false)
  | 24 => ("LeagueOfficeModel", "fault", "I", false)
  | 25 => ("LeagueOfficeModel", "open", "I", false)
  | 26 => ("LeagueOfficeModel", "laid", "I", false)
  | 27 => ("LeagueOfficeModel", "rules", "I", false)
  | 28 => ("LeagueOfficeModel", "ruleText", "[I", true)
  | 29 => ("LeagueOfficeModel", "ruleFrom", "[I", true)
  | 30 => ("LeagueOfficeModel", "facts", "[I", true)
  | 31 => ("LeagueOfficeModel", "pile", "[I", true)
  | 32 => ("LeagueOfficeModel", "takings", "I", false)
  | 33 => ("LeagueOfficeModel", "takenClub", "[I", true)
  | 34 => ("LeagueOfficeModel", "takenPoints", "[I", true)
  | 35 => ("LeagueOfficeModel", "takenFrom", "[I", true)
  | 36 => ("LeagueOfficeModel", "goalsOf", "[I", true)
  | 37 => ("LeagueOfficeModel", "madeOf", "[I", true)
  | 38 => ("LeagueOfficeModel", "wonOf", "[I", true)
  | 39 => ("LeagueOfficeModel", "pointsNow", "[J", true)
  | 40 => ("LeagueOfficeModel", "likeNow", "[J", true)
  | 41 => ("LeagueOfficeModel", "players", "I", false)
  | 42 => ("LeagueOfficeModel", "tellings", "I", false)
  | 43 => ("LeagueOfficeModel", "toldPlayer", "[I", true)
  | 44 => ("LeagueOfficeModel", "toldClub", "[I", true)
  | 45 => ("LeagueOfficeModel", "toldFrom", "[I", true)
  | 46 => ("LeagueOfficeModel", "cards", "I", false)
  | 47 => ("LeagueOfficeModel", "cardPlayer", "[I", true)
  | 48 => ("LeagueOfficeModel", "cardGame", "[I", true)
  | 49 => ("LeagueOfficeModel", "cardKind", "[I", true)
  | 50 => ("LeagueOfficeModel", "playedMany", "I", false)
  | 51 => ("LeagueOfficeModel", "playedPlayer", "[I", true)
  | 52 => ("LeagueOfficeModel", "playedGame", "[I", true)
  | 53 => ("LeagueOfficeModel", "bannedGame", "[I", true)
  | 54 => ("LeagueOfficeModel", "bannedMany", "[I", true)
  | 55 => ("LeagueOfficeModel", "isTaken", "[Z", true)
  | 56 => ("LeagueOfficeModel", "hasFailed", "[Z", true)
  | 57 => ("LeagueOfficeModel", "isChanged", "[Z", true)
  | 58 => ("LeagueOfficeModel", "wasKind", "[I", true)
  | 59 => ("LeagueOfficeModel", "wasHome", "[I", true)
  | 60 => ("LeagueOfficeModel", "wasGuest", "[I", true)
  | 61 => ("LeagueOfficeModel", "wasFail", "[I", true)
  | 62 => ("LeagueOfficeModel", "lastFail", "[I", true)
  | 63 => ("LeagueOfficeModel", "stills", "I", false)
  | 64 => ("LeagueOfficeModel", "still", "[I", true)
  | 65 => ("LeagueOfficeModel", "placeBy", "[I", true)
  | 66 => ("LeagueOfficeModel", "sumBy", "[J", true)
  | 67 => ("LeagueOfficeModel", "pointsBase", "[J", true)
  | 68 => ("LeagueOfficeModel", "goalsBase", "[I", true)
  | 69 => ("LeagueOfficeModel", "madeBase", "[I", true)
  | 70 => ("LeagueOfficeModel", "wonBase", "[I", true)
  | 71 => ("LeagueOfficeModel", "meetings", "I", false)
  | 72 => ("LeagueOfficeModel", "meetOne", "[I", true)
  | 73 => ("LeagueOfficeModel", "meetOther", "[I", true)
  | 74 => ("LeagueOfficeModel", "sheetSort", "[I", true)
  | 75 => ("LeagueOfficeModel", "sheetSize", "[I", true)
  | 76 => ("LeagueOfficeModel", "cells", "[I", true)
  | _ => ("LeagueOfficeModel", "copied", "[I", true)
def tyX12 : Nat → FieldType := fun k => match k with
  | 0 => .int
  | 1 => .int
  | 2 => .int
  | 3 => .array .int
  | 4 => .array .int
  | 5 => .int
  | 6 => .array .int
  | 7 => .array .int
  | 8 => .array .int
  | 9 => .array .int
  | 10 => .int
  | 11 => .array .int
  | 12 => .array .int
  | 13 => .array .int
  | 14 => .array .byte
  | 15 => .int
  | 16 => .int
  | 17 => .array .int
  | 18 => .array .int
  | 19 => .array .int
  | 20 => .int
  | 21 => .int
  | 22 => .int
  | 23 => .int
  | 24 => .int
  | 25 => .int
  | 26 => .int
  | 27 => .int
  | 28 => .array .int
  | 29 => .array .int
  | 30 => .array .int
  | 31 => .array .int
  | 32 => .int
  | 33 => .array .int
  | 34 => .array .int
  | 35 => .array .int
  | 36 => .array .int
  | 37 => .array .int
  | 38 => .array .int
  | 39 => .array .long
  | 40 => .array .long
  | 41 => .int
  | 42 => .int
  | 43 => .array .int
  | 44 => .array .int
  | 45 => .array .int
  | 46 => .int
  | 47 => .array .int
  | 48 => .array .int
  | 49 => .array .int
  | 50 => .int
  | 51 => .array .int
  | 52 => .array .int
  | 53 => .array .int
  | 54 => .array .int
  | 55 => .array .boolean
  | 56 => .array .boolean
  | 57 => .array .boolean
  | 58 => .array .int
  | 59 => .array .int
  | 60 => .array .int
  | 61 => .array .int
  | 62 => .array .int
  | 63 => .int
  | 64 => .array .int
  | 65 => .array .int
  | 66 => .array .long
  | 67 => .array .long
  | 68 => .array .int
  | 69 => .array .int
  | 70 => .array .int
  | 71 => .int
  | 72 => .array .int
  | 73 => .array .int
  | 74 => .array .int
  | 75 => .array .int
  | 76 => .array .int
  | _ => .array .int
theorem nmX12 : ∀ a, a < 78 → ∀ b, b < 78 → a ≠ b → (TX12 a).2.1 ≠ (TX12 b).2.1 := by decide +kernel
theorem tyX12_ok : ∀ k, k < 78 → parseFieldDescriptor (TX12 k).2.2.1 = some (tyX12 k) := by decide +kernel
abbrev vwCl : List vw_C := [(RX0, TX0, 12), (RX1, TX1, 10), (RX2, TX2, 7), (RX3, TX3, 6), (RX4, TX4, 3), (RX5, TX5, 6), (RX6, TX6, 2), (RX7, TX7, 3), (RX8, TX8, 14), (RX9, TX9, 12), (RX10, TX10, 8), (RX11, TX11, 10), (RX12, TX12, 78)]
/-- the words that hold in every frame -/
def mx_GT : List Cond := lw_tbl.filter goodWord
theorem mx_gt {w : Cond} (i : Nat) (h : lw_tbl[i]? = some w) (hg : goodWord w = true) : w ∈ mx_GT := List.mem_filter.mpr ⟨List.mem_of_getElem? h, hg⟩
def mx_NT : List Cond := lw_tbl.filter (fun w => match w with | .fieldLinkNest .. => true | .methodLinkNest .. => true | _ => false)
set_option maxRecDepth 100000 in
theorem mx_w0 : ∀ w ∈ u_ws RX0 TX0 12, w ∈ mx_GT := by
  have h1 : u_ws RX0 TX0 12 = [182, 184, 186, 188, 190, 192, 194, 196, 198, 200, 202, 204].filterMap (fun i => lw_tbl[i]?) := by decide +kernel
  have h2 : (u_ws RX0 TX0 12).all goodWord = true := by decide +kernel
  intro w hw
  have h3 := List.all_eq_true.mp h2 w hw
  rw [h1] at hw
  obtain ⟨i, -, hi⟩ := List.mem_filterMap.mp hw
  exact mx_gt i hi h3
set_option maxRecDepth 100000 in
theorem mx_w1 : ∀ w ∈ u_ws RX1 TX1 10, w ∈ mx_GT := by
  have h1 : u_ws RX1 TX1 10 = [430, 432, 434, 436, 438, 440, 442, 444, 446, 448].filterMap (fun i => lw_tbl[i]?) := by decide +kernel
  have h2 : (u_ws RX1 TX1 10).all goodWord = true := by decide +kernel
  intro w hw
  have h3 := List.all_eq_true.mp h2 w hw
  rw [h1] at hw
  obtain ⟨i, -, hi⟩ := List.mem_filterMap.mp hw
  exact mx_gt i hi h3
set_option maxRecDepth 100000 in
theorem mx_w2 : ∀ w ∈ u_ws RX2 TX2 7, w ∈ mx_GT := by
  have h1 : u_ws RX2 TX2 7 = [397, 399, 401, 403, 405, 407, 409].filterMap (fun i => lw_tbl[i]?) := by decide +kernel
  have h2 : (u_ws RX2 TX2 7).all goodWord = true := by decide +kernel
  intro w hw
  have h3 := List.all_eq_true.mp h2 w hw
  rw [h1] at hw
  obtain ⟨i, -, hi⟩ := List.mem_filterMap.mp hw
  exact mx_gt i hi h3
set_option maxRecDepth 100000 in
theorem mx_w3 : ∀ w ∈ u_ws RX3 TX3 6, w ∈ mx_GT := by
  have h1 : u_ws RX3 TX3 6 = [486, 488, 490, 492, 494, 496].filterMap (fun i => lw_tbl[i]?) := by decide +kernel
  have h2 : (u_ws RX3 TX3 6).all goodWord = true := by decide +kernel
  intro w hw
  have h3 := List.all_eq_true.mp h2 w hw
  rw [h1] at hw
  obtain ⟨i, -, hi⟩ := List.mem_filterMap.mp hw
  exact mx_gt i hi h3
set_option maxRecDepth 100000 in
theorem mx_w4 : ∀ w ∈ u_ws RX4 TX4 3, w ∈ mx_GT := by
  have h1 : u_ws RX4 TX4 3 = [462, 464, 466].filterMap (fun i => lw_tbl[i]?) := by decide +kernel
  have h2 : (u_ws RX4 TX4 3).all goodWord = true := by decide +kernel
  intro w hw
  have h3 := List.all_eq_true.mp h2 w hw
  rw [h1] at hw
  obtain ⟨i, -, hi⟩ := List.mem_filterMap.mp hw
  exact mx_gt i hi h3
set_option maxRecDepth 100000 in
theorem mx_w5 : ∀ w ∈ u_ws RX5 TX5 6, w ∈ mx_GT := by
  have h1 : u_ws RX5 TX5 6 = [259, 261, 263, 265, 267, 269].filterMap (fun i => lw_tbl[i]?) := by decide +kernel
  have h2 : (u_ws RX5 TX5 6).all goodWord = true := by decide +kernel
  intro w hw
  have h3 := List.all_eq_true.mp h2 w hw
  rw [h1] at hw
  obtain ⟨i, -, hi⟩ := List.mem_filterMap.mp hw
  exact mx_gt i hi h3
set_option maxRecDepth 100000 in
theorem mx_w6 : ∀ w ∈ u_ws RX6 TX6 2, w ∈ mx_GT := by
  have h1 : u_ws RX6 TX6 2 = [123, 125].filterMap (fun i => lw_tbl[i]?) := by decide +kernel
  have h2 : (u_ws RX6 TX6 2).all goodWord = true := by decide +kernel
  intro w hw
  have h3 := List.all_eq_true.mp h2 w hw
  rw [h1] at hw
  obtain ⟨i, -, hi⟩ := List.mem_filterMap.mp hw
  exact mx_gt i hi h3
set_option maxRecDepth 100000 in
theorem mx_w7 : ∀ w ∈ u_ws RX7 TX7 3, w ∈ mx_GT := by
  have h1 : u_ws RX7 TX7 3 = [510, 512, 514].filterMap (fun i => lw_tbl[i]?) := by decide +kernel
  have h2 : (u_ws RX7 TX7 3).all goodWord = true := by decide +kernel
  intro w hw
  have h3 := List.all_eq_true.mp h2 w hw
  rw [h1] at hw
  obtain ⟨i, -, hi⟩ := List.mem_filterMap.mp hw
  exact mx_gt i hi h3
set_option maxRecDepth 100000 in
theorem mx_w8 : ∀ w ∈ u_ws RX8 TX8 14, w ∈ mx_GT := by
  have h1 : u_ws RX8 TX8 14 = [353, 355, 357, 359, 361, 363, 365, 367, 369, 371, 373, 375, 377, 379].filterMap (fun i => lw_tbl[i]?) := by decide +kernel
  have h2 : (u_ws RX8 TX8 14).all goodWord = true := by decide +kernel
  intro w hw
  have h3 := List.all_eq_true.mp h2 w hw
  rw [h1] at hw
  obtain ⟨i, -, hi⟩ := List.mem_filterMap.mp hw
  exact mx_gt i hi h3
set_option maxRecDepth 100000 in
theorem mx_w9 : ∀ w ∈ u_ws RX9 TX9 12, w ∈ mx_GT := by
  have h1 : u_ws RX9 TX9 12 = [295, 297, 299, 301, 303, 305, 307, 309, 311, 313, 315, 317].filterMap (fun i => lw_tbl[i]?) := by decide +kernel
  have h2 : (u_ws RX9 TX9 12).all goodWord = true := by decide +kernel
  intro w hw
  have h3 := List.all_eq_true.mp h2 w hw
  rw [h1] at hw
  obtain ⟨i, -, hi⟩ := List.mem_filterMap.mp hw
  exact mx_gt i hi h3
set_option maxRecDepth 100000 in
theorem mx_w10 : ∀ w ∈ u_ws RX10 TX10 8, w ∈ mx_GT := by
  have h1 : u_ws RX10 TX10 8 = [227, 229, 231, 233, 235, 237, 239, 241].filterMap (fun i => lw_tbl[i]?) := by decide +kernel
  have h2 : (u_ws RX10 TX10 8).all goodWord = true := by decide +kernel
  intro w hw
  have h3 := List.all_eq_true.mp h2 w hw
  rw [h1] at hw
  obtain ⟨i, -, hi⟩ := List.mem_filterMap.mp hw
  exact mx_gt i hi h3
set_option maxRecDepth 100000 in
theorem mx_w11 : ∀ w ∈ u_ws RX11 TX11 10, w ∈ mx_GT := by
  have h1 : u_ws RX11 TX11 10 = [706, 708, 710, 712, 714, 716, 718, 720, 722, 724].filterMap (fun i => lw_tbl[i]?) := by decide +kernel
  have h2 : (u_ws RX11 TX11 10).all goodWord = true := by decide +kernel
  intro w hw
  have h3 := List.all_eq_true.mp h2 w hw
  rw [h1] at hw
  obtain ⟨i, -, hi⟩ := List.mem_filterMap.mp hw
  exact mx_gt i hi h3
set_option maxRecDepth 100000 in
theorem mx_w12 : ∀ w ∈ u_ws RX12 TX12 78, w ∈ mx_GT := by
  have h1 : u_ws RX12 TX12 78 = [1530, 1532, 1534, 1536, 1538, 1540, 1542, 1544, 1546, 1548, 1550, 1552, 1554, 1556, 1558, 1560, 1562, 1564, 1566, 1568, 1570, 1572, 1574, 1576, 1578, 1580, 1582, 1584, 1586, 1588, 1590, 1592, 1594, 1596, 1598, 1600, 1602, 1604, 1606, 1608, 1610, 1612, 1614, 1616, 1618, 1620, 1622, 1624, 1626, 1628, 1630, 1632, 1634, 1636, 1638, 1640, 1642, 1644, 1646, 1648, 1650, 1652, 1654, 1656, 1658, 1660, 1662, 1664, 1666, 1668, 1670, 1672, 1674, 1676, 1678, 1680, 1682, 1684].filterMap (fun i => lw_tbl[i]?) := by decide +kernel
  have h2 : (u_ws RX12 TX12 78).all goodWord = true := by decide +kernel
  intro w hw
  have h3 := List.all_eq_true.mp h2 w hw
  rw [h1] at hw
  obtain ⟨i, -, hi⟩ := List.mem_filterMap.mp hw
  exact mx_gt i hi h3
/-- static fields that nobody writes -/
def mx_SF : List (String × String × String × Value) := [("java/lang/String", "COMPACT_STRINGS", "Z", .int 1), ("jdk/internal/util/Preconditions", "SIOOBE_FORMATTER", "Ljava/util/function/BiFunction;", .retAddr 0), ("java/lang/StringUTF16", "$assertionsDisabled", "Z", .int 1), ("java/lang/StringUTF16", "HI_BYTE_SHIFT", "I", .int 0), ("java/lang/StringUTF16", "LO_BYTE_SHIFT", "I", .int 8), ("LeagueOffice", "COUNTS", "[I", .ref 1000), ("LeagueOffice", "SERVES", "[I", .ref 1001), ("LeagueOffice", "GATES", "[I", .ref 1002), ("LeagueOffice", "HOME_PARTS", "[I", .ref 1003), ("LeagueOffice", "UNDER", "[I", .ref 1004), ("LeagueOfficeModel", "FIRST", "[B", .ref 1005), ("LeagueOfficeModel", "PARTS", "[J", .ref 1006), ("LeagueOfficeModel", "NAMES", "[J", .ref 1007)]
/-- string constants -/
def mx_SR : List (String × Nat × String) := [("LeagueOffice", 89, "win 3 ; draw 1 ; like goals * 100 + made ; ban kind = 2 or cards = 5 ;"), ("LeagueOffice$Reader", 111, "goals"), ("LeagueOffice$Reader", 113, "made"), ("LeagueOffice$Reader", 115, "won"), ("LeagueOffice$Reader", 117, "cards"), ("LeagueOffice$Reader", 119, "kind"), ("LeagueOffice$Reader", 121, "late"), ("LeagueOffice$Reader", 123, "win"), ("LeagueOffice$Reader", 125, "draw"), ("LeagueOffice$Reader", 127, "like"), ("LeagueOffice$Reader", 129, "ban"), ("LeagueOffice$Reader", 131, "or"), ("LeagueOffice$Reader", 133, "and"), ("LeagueOffice$Reader", 135, "not")]
/-- what a new object holds -/
def mx_DF : List (List Value) := [[.int 0, .null, .null, .null, .null, .null, .null, .null, .null, .null, .null, .null],
  [.null, .null, .null, .null, .null, .null, .null, .null, .null, .int 0],
  [.null, .int 0, .null, .null, .null, .null, .null],
  [.null, .null, .null, .null, .int 0, .int 0],
  [.null, .null, .null],
  [.null, .null, .null, .null, .null, .int 0],
  [.null, .int 0],
  [.null, .null, .null],
  [.null, .null, .int 0, .null, .null, .null, .null, .null, .null, .null, .null, .null, .null, .null],
  [.null, .null, .null, .null, .null, .null, .null, .null, .null, .null, .null, .int 0],
  [.int 0, .null, .null, .null, .null, .null, .null, .null],
  [.null, .null, .null, .null, .null, .null, .null, .null, .null, .null],
  [.int 0, .int 0, .int 0, .null, .null, .int 0, .null, .null, .null, .null, .int 0, .null, .null, .null, .null, .int 0, .int 0, .null, .null, .null, .int 0, .int 0, .int 0, .int 0, .int 0, .int 0, .int 0, .int 0, .null, .null, .null, .null, .int 0, .null, .null, .null, .null, .null, .null, .null, .null, .int 0, .int 0, .null, .null, .null, .int 0, .null, .null, .null, .int 0, .null, .null, .null, .null, .null, .null, .null, .null, .null, .null, .null, .null, .int 0, .null, .null, .null, .null, .null, .null, .null, .int 0, .null, .null, .null, .null, .null, .null]]
/-- static arrays, by their numbers: kind, contents -/
def mx_SAL : List (Nat × Nat × List Int) := [(0, 0, [1, 0, 1, 1, 1, 0]),
  (1, 0, [1, 0, 1, 0, 1, 0]),
  (2, 0, [300, 150, 240, 0, 480, 0]),
  (3, 0, [100, 50, 100, 100, 80, 100]),
  (4, 0, [-1, 0, 0, 0, 2, 3]),
  (5, 1, [119, 105, 110, 32, 51, 32, 59, 32, 100, 114, 97, 119, 32, 49, 32, 59, 32, 108, 105, 107, 101, 32, 103, 111, 97, 108, 115, 32, 42, 32, 49, 48, 48, 32, 43, 32, 109, 97, 100, 101, 32, 59, 32, 98, 97, 110, 32, 107, 105, 110, 100, 32, 61, 32, 50, 32, 111, 114, 32, 99, 97, 114, 100, 115, 32, 61, 32, 53, 32, 59]),
  (6, 3, [17024, 91904, 243059, 1499]),
  (7, 3, [4016404, 256721, 17186, 1627255, 223456, 237470]),
  (200, 1, [119, 105, 110, 32, 51, 32, 59, 32, 100, 114, 97, 119, 32, 49, 32, 59, 32, 108, 105, 107, 101, 32, 103, 111, 97, 108, 115, 32, 42, 32, 49, 48, 48, 32, 43, 32, 109, 97, 100, 101, 32, 59, 32, 98, 97, 110, 32, 107, 105, 110, 100, 32, 61, 32, 50, 32, 111, 114, 32, 99, 97, 114, 100, 115, 32, 61, 32, 53, 32, 59]),
  (201, 1, [103, 111, 97, 108, 115]),
  (202, 1, [109, 97, 100, 101]),
  (203, 1, [119, 111, 110]),
  (204, 1, [99, 97, 114, 100, 115]),
  (205, 1, [107, 105, 110, 100]),
  (206, 1, [108, 97, 116, 101]),
  (207, 1, [119, 105, 110]),
  (208, 1, [100, 114, 97, 119]),
  (209, 1, [108, 105, 107, 101]),
  (210, 1, [98, 97, 110]),
  (211, 1, [111, 114]),
  (212, 1, [97, 110, 100]),
  (213, 1, [110, 111, 116])]
end
section
/-! THE SMALL MACHINE: a method's frame is (pc, locals, stack, memory); the memory is a list of cells, a reference is a cell's place in it (from 1000 on: a thing that nobody writes). An instruction is (what, a, b, list). -/
abbrev mx_E : Type := (Nat × List Value) ⊕ (Nat × vp_A)
abbrev mx_M : Type := List mx_E
abbrev mx_L : Type := List (Nat × Value)
abbrev mx_C : Type := Nat × mx_L × List Value × mx_M
abbrev mx_I : Type := Nat × Nat × Nat × List Nat
abbrev mx_G : Type := Nat × (Nat → Nat) × (Nat → ClassId) × va_G
abbrev mx_S : Type := Nat → Option (Nat × vp_A)
def mx_nth {α : Type} : List α → Nat → Option α
  | [], _ => none
  | a :: _, 0 => some a
  | _ :: l, n + 1 => mx_nth l n
theorem mx_nth_eq {α : Type} : ∀ (l : List α) (n : Nat), mx_nth l n = l[n]?
  | [], n => by simp [mx_nth]
  | a :: l, 0 => by simp [mx_nth]
  | a :: l, n + 1 => by simp [mx_nth, mx_nth_eq l n]
def mx_lk (i : Nat) : mx_L → Option Value
  | [] => none
  | (j, v) :: l => bif Nat.beq j i then some v else mx_lk i l
theorem mx_lk_mem {i : Nat} {v : Value} : ∀ {l : mx_L}, mx_lk i l = some v → (i, v) ∈ l
  | [], h => by simp [mx_lk] at h
  | (j, w) :: l, h => by
    unfold mx_lk at h
    cases hb : Nat.beq j i with
    | true =>
      rw [hb] at h
      simp only [cond_true, Option.some.injEq] at h
      have := Nat.eq_of_beq_eq_true hb
      subst this; subst h
      exact List.mem_cons_self
    | false =>
      rw [hb] at h
      simp only [cond_false] at h
      exact List.mem_cons_of_mem _ (mx_lk_mem h)
def mx_sto (i : Nat) (v : Value) (lv : mx_L) : mx_L := (i, v) :: lv.filter (fun q => !(q.1 == i) && !(q.1 + 1 == i && q.2.category == 2))
def mx_sto2 (i : Nat) (v : Value) (lv : mx_L) : mx_L := (i, v) :: lv.filter (fun q => !(q.1 == i) && (!(q.1 == i + 1) && !(q.1 + 1 == i && q.2.category == 2)))
/-- a reference's address -/
def mx_ad (G : mx_G) (q : Nat) : Nat := if q < 1000 then G.1 + q else G.2.1 (q - 1000)
/-- what the one static that is only carried holds: a reference, or null -/
def mx_fv (G : mx_G) : Value := match G.2.1 50 with
  | 0 => .null
  | n + 1 => .ref n
def mx_tr (G : mx_G) : Value → Value
  | .ref q => .ref (mx_ad G q)
  | .retAddr _ => mx_fv G
  | v => v
def mx_tq (G : mx_G) (q : Nat × Value) : Nat × Value := (q.1, mx_tr G q.2)
def mx_tE (G : mx_G) : mx_E → va_E
  | .inl (ci, fs) => .inr (ci, fs.map (mx_tr G))
  | .inr (t, x) => .inl (G.2.2.1 t, x)
def mx_W (G : mx_G) (M : mx_M) : va_W := M.mapIdx fun k e => (G.1 + k, mx_tE G e)
def mx_A (G : mx_G) : Nat → Prop := fun q => G.1 ≤ q
theorem mx_fv_cat (G : mx_G) : (mx_fv G).category = 1 := by
  unfold mx_fv
  split <;> rfl
theorem mx_tr_cat (G : mx_G) (v : Value) : (mx_tr G v).category = v.category := by
  cases v <;> first
    | rfl
    | exact mx_fv_cat G
theorem mx_ad_lt {G : mx_G} {q : Nat} (h : q < 1000) : mx_ad G q = G.1 + q := if_pos h
theorem mx_ad_ge {G : mx_G} {q : Nat} : mx_ad G (1000 + q) = G.2.1 q := by
  unfold mx_ad
  rw [if_neg (by omega), Nat.add_sub_cancel_left]
theorem mx_W_get {G : mx_G} {M : mx_M} {k : Nat} {e : mx_E} (h : M[k]? = some e) : (mx_W G M)[k]? = some (G.1 + k, mx_tE G e) := by
  simp [mx_W, List.getElem?_mapIdx, h]
theorem mx_W_of {G : mx_G} {M : mx_M} {k : Nat} {q : Nat × va_E} (h : (mx_W G M)[k]? = some q) : ∃ e, M[k]? = some e ∧ q = (G.1 + k, mx_tE G e) := by
  simp only [mx_W, List.getElem?_mapIdx] at h
  cases hm : M[k]? with
  | none => rw [hm] at h; cases h
  | some e => rw [hm] at h; exact ⟨e, rfl, (Option.some.inj h).symm⟩
theorem mx_W_set {G : mx_G} {M : mx_M} {k : Nat} {e : mx_E} : (mx_W G M).set k (G.1 + k, mx_tE G e) = mx_W G (M.set k e) := by
  apply List.ext_getElem?
  intro i
  simp only [mx_W, List.getElem?_set, List.getElem?_mapIdx, List.length_mapIdx]
  by_cases h : k = i
  · subst h
    by_cases h2 : k < M.length <;> simp [h2]
  · simp [h]
theorem mx_W_app {G : mx_G} {M : mx_M} {e : mx_E} : mx_W G (M ++ [e]) = mx_W G M ++ [(G.1 + M.length, mx_tE G e)] := by
  simp [mx_W, List.mapIdx_append]
theorem mx_W_D (G : mx_G) (M : mx_M) : va_D (mx_A G) (mx_W G M) := by
  refine ⟨fun i j p q hi hj h => ?_, fun k q hk => ?_⟩
  · obtain ⟨e1, -, rfl⟩ := mx_W_of hi
    obtain ⟨e2, -, rfl⟩ := mx_W_of hj
    have h : G.1 + i = G.1 + j := h
    omega
  · obtain ⟨e1, -, rfl⟩ := mx_W_of hk
    show G.1 ≤ G.1 + k
    omega
def mx_ty : Nat → FieldType
  | 0 => .int
  | 1 => .byte
  | 2 => .boolean
  | _ => .long
def mx_tys (G : mx_G) : List (ClassId × FieldType) := [(G.2.2.1 0, .int), (G.2.2.1 1, .byte), (G.2.2.1 2, .boolean), (G.2.2.1 3, .long)]
theorem mx_tys_at (G : mx_G) {t : Nat} (h : t < 4) : (mx_tys G)[t]? = some (G.2.2.1 t, mx_ty t) := by
  match t, h with
  | 0, _ => rfl
  | 1, _ => rfl
  | 2, _ => rfl
  | 3, _ => rfl
def mx_con (x : vp_A) (j : Nat) : Value := match x.2 with
  | .inl f => .int (f j)
  | .inr (.inl f) => .long (f j)
  | _ => .null
theorem mx_con_tr (G : mx_G) (x : vp_A) (j : Nat) : mx_tr G (mx_con x j) = mx_con x j := by
  obtain ⟨n, f | f | f | f | f⟩ := x <;> rfl
def mx_szE : mx_E → Nat
  | .inl (_, fs) => fs.length
  | .inr (_, x) => x.1
def mx_sz : mx_M → Nat
  | [] => 0
  | e :: M => mx_szE e + mx_sz M
theorem mx_sz_app (M : mx_M) (e : mx_E) : mx_sz (M ++ [e]) = mx_sz M + mx_szE e := by
  induction M with
  | nil => simp [mx_sz]
  | cons a M ih => simp only [List.cons_append, mx_sz, ih]; omega
theorem mx_sz_set : ∀ {M : mx_M} {k : Nat} {e e' : mx_E}, M[k]? = some e → mx_szE e' = mx_szE e → mx_sz (M.set k e') = mx_sz M
  | [], k, e, e', h, _ => by simp at h
  | a :: M, 0, e, e', h, hs => by
    simp at h
    subst h
    simp [mx_sz, hs]
  | a :: M, k + 1, e, e', h, hs => by
    simp at h
    simp only [List.set_cons_succ, mx_sz]
    rw [mx_sz_set h hs]
/-- static fields: class, name, descriptor, what it holds -/
abbrev mx_F : Type := String × String × String × Value
/-- what holds of all that nobody writes: the tables, static fields, static arrays, strings -/
def mx_Env (G : mx_G) (SA : mx_S) (SF : List mx_F) (SR : List (String × Nat × String)) (U : State) (H : Heap) : Prop :=
  va_K G.2.2.2 vwCl (mx_tys G) U ∧ (∀ w ∈ mx_NT, va_Nw w U) ∧
  (∀ (j t : Nat) (x : vp_A), SA j = some (t, x) → t < 4 ∧ va_T (mx_ty t) (G.2.1 j) x.1 (mx_con x) (mx_A G) U H) ∧
  (∀ q ∈ SF, va_Z q.1 q.2.1 q.2.2.1 (mx_tr G q.2.2.2) (mx_A G) U H) ∧
  ∀ (i : Nat) (q : String × Nat × String), SR[i]? = some q → vk_R q.1 q.2.1 q.2.2 (G.2.1 (100 + i)) U ∧ va_O "java/lang/String" (G.2.1 (100 + i)) (mx_A G) U H ∧ va_OF "java/lang/String" "coder" "B" (.int 0) (G.2.1 (100 + i)) (mx_A G) U H ∧ va_OF "java/lang/String" "value" "[B" (.ref (G.2.1 (200 + i))) (G.2.1 (100 + i)) (mx_A G) U H
theorem mx_nt_kept {w : Cond} (hw : w ∈ mx_NT) {s U : State} (hW : s.WarmedH U.vm) (h : va_Nw w s) : va_Nw w U := by
  have h2 := (List.mem_filter.mp hw).2
  cases w <;> first
    | exact va_Nw.warmF hW h
    | exact va_Nw.warmM hW h
    | cases h2
theorem mx_nt_same {w : Cond} (hw : w ∈ mx_NT) {s U : State} (hv : s.vm = U.vm) (h : va_Nw w s) : va_Nw w U := by
  have h2 := (List.mem_filter.mp hw).2
  cases w <;> first
    | exact va_Nw.same rfl hv h
    | cases h2
theorem mx_Env_kept {G : mx_G} {SA : mx_S} {SF : List mx_F} {SR : List (String × Nat × String)} {s U : State} {H1 : Heap} (h : mx_Env G SA SF SR s s.heap) (hW : s.WarmedH U.vm) (hq : ∀ a : Nat, a < s.heap.size → ¬ mx_A G a → H1[a]? = s.heap[a]?) : mx_Env G SA SF SR U H1 :=
  ⟨va_K.moved hW.alike h.1, fun w hw => mx_nt_kept hw hW (h.2.1 w hw), fun j t x hx => ⟨(h.2.2.1 j t x hx).1, ((h.2.2.1 j t x hx).2.kept hq).moved hW.alike⟩, fun q hx => ((h.2.2.2.1 q hx).kept hq).moved hW.alike,
    fun i q hx => ⟨vk_R.warm hW (h.2.2.2.2 i q hx).1, ((h.2.2.2.2 i q hx).2.1.kept hq).moved hW.alike, ((h.2.2.2.2 i q hx).2.2.1.kept hq).moved hW.alike, ((h.2.2.2.2 i q hx).2.2.2.kept hq).moved hW.alike⟩⟩
theorem mx_Env_same {G : mx_G} {SA : mx_S} {SF : List mx_F} {SR : List (String × Nat × String)} {s U : State} {H : Heap} (h : mx_Env G SA SF SR s H) (hv : s.vm = U.vm) : mx_Env G SA SF SR U H := by
  have ha : s.vm.Alike U.vm := by rw [hv]; exact Vm.Alike.refl _
  exact ⟨va_K.moved ha h.1, fun w hw => mx_nt_same hw hv (h.2.1 w hw), fun j t x hx => ⟨(h.2.2.1 j t x hx).1, (h.2.2.1 j t x hx).2.moved ha⟩, fun q hx => (h.2.2.2.1 q hx).moved ha,
    fun i q hx => ⟨vk_R.same hv.symm (h.2.2.2.2 i q hx).1, (h.2.2.2.2 i q hx).2.1.moved ha, (h.2.2.2.2 i q hx).2.2.1.moved ha, (h.2.2.2.2 i q hx).2.2.2.moved ha⟩⟩
end
section
/-! THE SMALL MACHINE: its instructions -/
def mx_push (v : Value) (n : Nat) (c : mx_C) : Option mx_C := some (c.1 + n, c.2.1, v :: c.2.2.1, c.2.2.2)
def mx_ldi (a n : Nat) (c : mx_C) : Option mx_C := match mx_lk a c.2.1 with
  | some (.int x) => some (c.1 + n, c.2.1, .int x :: c.2.2.1, c.2.2.2)
  | _ => none
def mx_ldl (a n : Nat) (c : mx_C) : Option mx_C := match mx_lk a c.2.1 with
  | some (.long x) => some (c.1 + n, c.2.1, .long x :: c.2.2.1, c.2.2.2)
  | _ => none
def mx_lda (a n : Nat) (c : mx_C) : Option mx_C := match mx_lk a c.2.1 with
  | some (.ref x) => some (c.1 + n, c.2.1, .ref x :: c.2.2.1, c.2.2.2)
  | _ => none
def mx_sti (a n : Nat) (c : mx_C) : Option mx_C := match c.2.2.1 with
  | .int x :: st => some (c.1 + n, mx_sto a (.int x) c.2.1, st, c.2.2.2)
  | _ => none
def mx_stl (a n : Nat) (c : mx_C) : Option mx_C := match c.2.2.1 with
  | .long x :: st => some (c.1 + n, mx_sto2 a (.long x) c.2.1, st, c.2.2.2)
  | _ => none
def mx_sta (a n : Nat) (c : mx_C) : Option mx_C := match c.2.2.1 with
  | .ref x :: st => some (c.1 + n, mx_sto a (.ref x) c.2.1, st, c.2.2.2)
  | _ => none
def mx_inc (a d : Nat) (c : mx_C) : Option mx_C := match mx_lk a c.2.1 with
  | some (.int x) => some (c.1 + 3, mx_sto a (.int (x + Int32.ofNat d)) c.2.1, c.2.2.1, c.2.2.2)
  | _ => none
def mx_ii (f : Int32 → Int32 → Option Value) (c : mx_C) : Option mx_C := match c.2.2.1 with
  | .int y :: .int x :: st => (match f x y with
    | some v => some (c.1 + 1, c.2.1, v :: st, c.2.2.2)
    | none => none)
  | _ => none
def mx_ll (f : Int64 → Int64 → Option Value) (c : mx_C) : Option mx_C := match c.2.2.1 with
  | .long y :: .long x :: st => (match f x y with
    | some v => some (c.1 + 1, c.2.1, v :: st, c.2.2.2)
    | none => none)
  | _ => none
def mx_li (f : Int64 → Int32 → Value) (c : mx_C) : Option mx_C := match c.2.2.1 with
  | .int y :: .long x :: st => some (c.1 + 1, c.2.1, f x y :: st, c.2.2.2)
  | _ => none
def mx_i1 (f : Int32 → Value) (c : mx_C) : Option mx_C := match c.2.2.1 with
  | .int x :: st => some (c.1 + 1, c.2.1, f x :: st, c.2.2.2)
  | _ => none
def mx_l1 (f : Int64 → Value) (c : mx_C) : Option mx_C := match c.2.2.1 with
  | .long x :: st => some (c.1 + 1, c.2.1, f x :: st, c.2.2.2)
  | _ => none
def mx_is2 : Value → Bool
  | .long _ => true
  | .double _ => true
  | _ => false
theorem mx_is2_cat {v : Value} (h : mx_is2 v = false) : v.category = 1 := by cases v <;> first | rfl | cases h
def mx_dup (c : mx_C) : Option mx_C := match c.2.2.1 with
  | v :: st => bif mx_is2 v then none else some (c.1 + 1, c.2.1, v :: v :: st, c.2.2.2)
  | _ => none
def mx_pop (c : mx_C) : Option mx_C := match c.2.2.1 with
  | v :: st => bif mx_is2 v then none else some (c.1 + 1, c.2.1, st, c.2.2.2)
  | _ => none
def mx_dup2 (c : mx_C) : Option mx_C := match c.2.2.1 with
  | v :: w :: st => bif mx_is2 v || mx_is2 w then none else some (c.1 + 1, c.2.1, v :: w :: v :: w :: st, c.2.2.2)
  | _ => none
def mx_if (p : Int32 → Bool) (t : Nat) (c : mx_C) : Option mx_C := match c.2.2.1 with
  | .int x :: st => some (bif p x then t else c.1 + 3, c.2.1, st, c.2.2.2)
  | _ => none
def mx_if2 (p : Int32 → Int32 → Bool) (t : Nat) (c : mx_C) : Option mx_C := match c.2.2.1 with
  | .int y :: .int x :: st => some (bif p x y then t else c.1 + 3, c.2.1, st, c.2.2.2)
  | _ => none
/-- a table switch's target -/
def mx_tsw (d : Nat) (lo : Int) (ts : List Nat) (x : Int) : Nat := match x - lo with
  | .ofNat k => (match mx_nth ts k with
    | some t => t
    | none => d)
  | .negSucc _ => d
/-- a lookup switch's target: keys and targets -/
def mx_lsw (d : Nat) (x : Int32) : List Nat → Nat
  | k :: t :: r => bif x == Int32.ofNat k then t else mx_lsw d x r
  | _ => d
def mx_sw (f : Int32 → Nat) (c : mx_C) : Option mx_C := match c.2.2.1 with
  | .int x :: st => some (f x, c.2.1, st, c.2.2.2)
  | _ => none
def mx_get (ci k : Nat) (c : mx_C) : Option mx_C := match c.2.2.1 with
  | .ref q :: st => (match mx_nth c.2.2.2 q with
    | some (.inl (cj, fs)) => bif Nat.beq cj ci then (match mx_nth fs k with
      | some v => some (c.1 + 3, c.2.1, v :: st, c.2.2.2)
      | none => none) else none
    | _ => none)
  | _ => none
/-- the fields of a string: its bytes, its coder -/
def mx_gstr (k N : Nat) (c : mx_C) : Option mx_C := match c.2.2.1 with
  | .ref q :: st => bif Nat.ble 1100 q && Nat.blt q (1100 + N) then some (c.1 + 3, c.2.1, (bif Nat.beq k 0 then .ref (q + 100) else .int 0) :: st, c.2.2.2) else none
  | _ => none
def mx_put (ci k : Nat) (c : mx_C) : Option mx_C := match c.2.2.1 with
  | .int v :: .ref q :: st => (match mx_nth c.2.2.2 q with
    | some (.inl (cj, fs)) => bif Nat.beq cj ci && Nat.blt k fs.length then some (c.1 + 3, c.2.1, st, c.2.2.2.set q (.inl (cj, fs.set k (.int v)))) else none
    | _ => none)
  | _ => none
def mx_putF (ci k : Nat) (c : mx_C) : Option mx_C := match c.2.2.1 with
  | .ref v :: .ref q :: st => (match mx_nth c.2.2.2 q with
    | some (.inl (cj, fs)) => bif Nat.beq cj ci && Nat.blt k fs.length then some (c.1 + 3, c.2.1, st, c.2.2.2.set q (.inl (cj, fs.set k (.ref v)))) else none
    | _ => none)
  | _ => none
/-- contents of an array's kind -/
def mx_kd (t : Nat) (x : vp_A) : Bool := match x.2 with
  | .inl _ => Nat.blt t 3
  | .inr (.inl _) => Nat.beq t 3
  | _ => false
/-- an array that can be read -/
def mx_ar (SA : mx_S) (M : mx_M) (q : Nat) : Option (Nat × vp_A) := bif Nat.ble 1000 q then SA (q - 1000) else match mx_nth M q with
  | some (.inr (t, x)) => bif mx_kd t x then some (t, x) else none
  | _ => none
def mx_alen (SA : mx_S) (c : mx_C) : Option mx_C := match c.2.2.1 with
  | .ref q :: st => (match mx_ar SA c.2.2.2 q with
    | some (_, x) => some (c.1 + 1, c.2.1, .int (Int32.ofNat x.1) :: st, c.2.2.2)
    | _ => none)
  | _ => none
def mx_inb (i : Int32) (n : Nat) : Bool := match i.toInt with
  | .ofNat k => Nat.blt k n
  | .negSucc _ => false
def mx_ald (SA : mx_S) (t : Nat) (c : mx_C) : Option mx_C := match c.2.2.1 with
  | .int i :: .ref q :: st => (match mx_ar SA c.2.2.2 q with
    | some (u, x) => bif Nat.beq u t && mx_inb i x.1 then some (c.1 + 1, c.2.1, mx_con x i.toNatClampNeg :: st, c.2.2.2) else none
    | _ => none)
  | _ => none
/-- what an array of ints, bytes, booleans holds of a number -/
def mx_nar (t : Nat) (v : Int32) : Int32 := match t with
  | 0 => v
  | 1 => vp_nar .byte v
  | _ => vp_nar .boolean v
def mx_ast (t : Nat) (c : mx_C) : Option mx_C := match c.2.2.1 with
  | .int v :: .int i :: .ref q :: st => (match mx_nth c.2.2.2 q with
    | some (.inr (u, n, .inl f)) => bif Nat.beq u t && mx_inb i n then some (c.1 + 1, c.2.1, st, c.2.2.2.set q (.inr (u, n, .inl (upd f i.toNatClampNeg (mx_nar t v))))) else none
    | _ => none)
  | _ => none
def mx_last (c : mx_C) : Option mx_C := match c.2.2.1 with
  | .long v :: .int i :: .ref q :: st => (match mx_nth c.2.2.2 q with
    | some (.inr (u, n, .inr (.inl f))) => bif Nat.beq u 3 && mx_inb i n then some (c.1 + 1, c.2.1, st, c.2.2.2.set q (.inr (u, n, .inr (.inl (vp_updL f i.toNatClampNeg v))))) else none
    | _ => none)
  | _ => none
def mx_new (ci : Nat) (fs : List Value) (c : mx_C) : Option mx_C := bif Nat.blt c.2.2.2.length 999 then some (c.1 + 3, c.2.1, .ref c.2.2.2.length :: c.2.2.1, c.2.2.2 ++ [.inl (ci, fs)]) else none
/-- a new array's cells -/
def mx_zero (t n : Nat) : vp_A := match t with
  | 3 => (n, .inr (.inl (fun _ => 0)))
  | _ => (n, .inl (fun _ => 0))
def mx_newa (t : Nat) (c : mx_C) : Option mx_C := match c.2.2.1 with
  | .int n :: st => bif mx_inb n 2000 && Nat.blt c.2.2.2.length 999 then some (c.1 + 2, c.2.1, .ref c.2.2.2.length :: st, c.2.2.2 ++ [.inr (t, mx_zero t n.toNatClampNeg)]) else none
  | _ => none
def mx_cat : List Value → Nat
  | [] => 0
  | v :: l => (bif mx_is2 v then 2 else 1) + mx_cat l
def mx_obj (c : mx_C) : Option mx_C := match c.2.2.1 with
  | .ref _ :: st => bif Nat.ble (mx_cat st) 8 then some (c.1 + 3, c.2.1, st, c.2.2.2) else none
  | _ => none
/-- an array of ints -/
def mx_ia (M : mx_M) (q : Nat) : Option (Nat × (Nat → Int32)) := match mx_nth M q with
  | some (.inr (t, n, .inl f)) => bif Nat.beq t 0 then some (n, f) else none
  | _ => none
def mx_copy (c : mx_C) : Option mx_C := match c.2.2.1 with
  | .int n :: .int dp :: .ref q1 :: .int sp :: .ref q0 :: st => (match mx_ia c.2.2.2 q0 with
    | some f => (match mx_ia c.2.2.2 q1 with
      | some g => bif mx_inb sp 2000 && (mx_inb dp 2000 && (mx_inb n 2000 && (Nat.ble (sp.toNatClampNeg + n.toNatClampNeg) f.1 && (Nat.ble (dp.toNatClampNeg + n.toNatClampNeg) g.1 && Nat.ble (mx_cat st) 8)))) then some (c.1 + 3, c.2.1, st, c.2.2.2.set q1 (.inr (0, g.1, .inl (va_cpy f.2 g.2 sp.toNatClampNeg dp.toNatClampNeg n.toNatClampNeg)))) else none
      | none => none)
    | none => none)
  | _ => none
def mx_mm (f : Int32 → Int32 → Int32) (c : mx_C) : Option mx_C := match c.2.2.1 with
  | .int y :: .int x :: st => bif Nat.ble (mx_cat st) 8 then some (c.1 + 3, c.2.1, .int (f x y) :: st, c.2.2.2) else none
  | _ => none
def mx_div (x y : Int32) : Option Value := if y = 0 then none else some (.int (x / y))
def mx_rem (x y : Int32) : Option Value := if y = 0 then none else some (.int (x - x / y * y))
def mx_ldiv (x y : Int64) : Option Value := if y = 0 then none else some (.long (x / y))
/-- one instruction that is no call and no end -/
def mx_op (SA : mx_S) (SF : List mx_F) (DF : List (List Value)) (N : Nat) (i : mx_I) (c : mx_C) : Option mx_C := match i.1 with
  | 0 => mx_push (.int (Int32.ofNat i.2.1)) i.2.2.1 c
  | 1 => mx_push (.long (Int64.ofNat i.2.1)) i.2.2.1 c
  | 2 => mx_ldi i.2.1 i.2.2.1 c
  | 3 => mx_ldl i.2.1 i.2.2.1 c
  | 4 => mx_lda i.2.1 i.2.2.1 c
  | 5 => mx_sti i.2.1 i.2.2.1 c
  | 6 => mx_stl i.2.1 i.2.2.1 c
  | 7 => mx_sta i.2.1 i.2.2.1 c
  | 8 => mx_inc i.2.1 i.2.2.1 c
  | 9 => mx_ii (fun x y => some (.int (x + y))) c
  | 10 => mx_ii (fun x y => some (.int (x - y))) c
  | 11 => mx_ii (fun x y => some (.int (x * y))) c
  | 12 => mx_ii (fun x y => some (.int (x &&& y))) c
  | 13 => mx_ii (fun x y => some (.int (x ||| y))) c
  | 14 => mx_ii mx_div c
  | 15 => mx_ii mx_rem c
  | 16 => mx_i1 (fun x => .int (-x)) c
  | 17 => mx_ii (fun x y => some (.int (x <<< (y &&& 31)))) c
  | 18 => mx_ii (fun x y => some (.int (x >>> (y &&& 31)))) c
  | 19 => mx_ll (fun x y => some (.long (x + y))) c
  | 20 => mx_ll (fun x y => some (.long (x - y))) c
  | 21 => mx_ll (fun x y => some (.long (x * y))) c
  | 22 => mx_ll mx_ldiv c
  | 23 => mx_ll (fun x y => some (.long (x &&& y))) c
  | 24 => mx_ll (fun x y => some (.long (x ||| y))) c
  | 25 => mx_li (fun x y => .long (x <<< (y.toInt64 &&& 63))) c
  | 26 => mx_li (fun x y => .long (x >>> (y.toInt64 &&& 63))) c
  | 27 => mx_ll (fun x y => some (.int (lg_cmp x y))) c
  | 28 => mx_i1 (fun x => .long x.toInt64) c
  | 29 => mx_l1 (fun x => .int x.toInt32) c
  | 30 => mx_i1 (fun x => .int x.toInt8.toInt32) c
  | 31 => mx_i1 (fun x => .int x.toInt16.toInt32) c
  | 32 => mx_i1 (fun x => .int (x.toUInt32 % 65536).toInt32) c
  | 33 => mx_dup c
  | 34 => mx_pop c
  | 35 => mx_dup2 c
  | 36 => mx_if (fun x => decide (x = 0)) i.2.1 c
  | 37 => mx_if (fun x => !decide (x = 0)) i.2.1 c
  | 38 => mx_if (fun x => decide (x < 0)) i.2.1 c
  | 39 => mx_if (fun x => decide (0 ≤ x)) i.2.1 c
  | 40 => mx_if (fun x => decide (0 < x)) i.2.1 c
  | 41 => mx_if (fun x => decide (x ≤ 0)) i.2.1 c
  | 42 => mx_if2 (fun x y => decide (x = y)) i.2.1 c
  | 43 => mx_if2 (fun x y => !decide (x = y)) i.2.1 c
  | 44 => mx_if2 (fun x y => decide (x < y)) i.2.1 c
  | 45 => mx_if2 (fun x y => decide (y ≤ x)) i.2.1 c
  | 46 => mx_if2 (fun x y => decide (y < x)) i.2.1 c
  | 47 => mx_if2 (fun x y => decide (x ≤ y)) i.2.1 c
  | 48 => some (i.2.1, c.2.1, c.2.2.1, c.2.2.2)
  | 49 => mx_sw (fun x => mx_tsw i.2.1 (Int32.ofNat i.2.2.1).toInt i.2.2.2 x.toInt) c
  | 50 => mx_sw (fun x => mx_lsw i.2.1 x i.2.2.2) c
  | 51 => mx_get i.2.1 i.2.2.1 c
  | 52 => mx_gstr i.2.1 N c
  | 53 => mx_put i.2.1 i.2.2.1 c
  | 54 => mx_putF i.2.1 i.2.2.1 c
  | 55 => (match mx_nth SF i.2.1 with
    | some q => mx_push q.2.2.2 3 c
    | none => none)
  | 56 => bif Nat.blt i.2.1 N then mx_push (.ref (1100 + i.2.1)) 2 c else none
  | 57 => mx_alen SA c
  | 58 => mx_ald SA i.2.1 c
  | 59 => mx_ast i.2.1 c
  | 60 => mx_last c
  | 61 => (match mx_nth DF i.2.1 with
    | some fs => mx_new i.2.1 fs c
    | none => none)
  | 62 => mx_newa i.2.1 c
  | 63 => mx_obj c
  | 64 => mx_copy c
  | 65 => mx_mm (fun x y => if x < y then y else x) c
  | 66 => mx_mm (fun x y => if y < x then y else x) c
  | _ => none
end
section
/-! THE SMALL MACHINE'S INSTRUCTIONS ARE THE MACHINE'S -/
def mx_Ctx (bytes : ByteArray) (nL : Nat) (y : MethodName) (G : mx_G) (SA : mx_S) (p : Program) (R : Room) (s : State) (m : MethodId) (args : Array Value) (meth : Method) (c0 : Code) : Prop :=
  p.tables.exec = Jvm.exec ∧ c0.code = bytes ∧ c0.maxLocals = nL ∧ s.vm.findClass y.cls = some m.cls ∧ (∀ w ∈ mx_GT, w.before args s = true) ∧ (y.name = "<init>" → meth.name = "<init>") ∧ mx_Env G SA mx_SF mx_SR s s.heap ∧ G.1 ≤ s.heap.size ∧ 1 ≤ R.frames ∧ 40 ≤ R.locals
/-- from here the frame comes to its end -/
def mx_Go (nL : Nat) (G : mx_G) (p : Program) (l : Launch) (e : Env) (R : Room) (s : State) (m : MethodId) (args : Array Value) (below : List Frame) (meth : Method) (c0 : Code) (Q : State → Prop) (L0 S0 : Nat) (c : mx_C) : Prop :=
  ∀ (H : Heap) (locs : List Loc) (ls : Array Slot), c.2.2.2.length ≤ 1000 → H.size = G.1 + c.2.2.2.length → va_P G.2.2.2 vwCl (mx_W G c.2.2.2) H → va_S (mx_A G) s.heap H locs → lv_has ls nL (c.2.1.map (mx_tq G)) → W p l e R s m args below meth c0 H locs (c.2.2.2.length - L0) (mx_sz c.2.2.2 - S0) Q (F0 m c.1 ls (c.2.2.1.map (mx_tr G)))
def mx_Snd (bytes : ByteArray) (nL : Nat) (y : MethodName) (pc : Nat) (i : mx_I) : Prop :=
  ∀ (G : mx_G) (SA : mx_S) (p : Program) (l : Launch) (e : Env) (R : Room) (s : State) (m : MethodId) (args : Array Value) (below : List Frame) (meth : Method) (c0 : Code) (Q : State → Prop) (L0 S0 : Nat), mx_Ctx bytes nL y G SA p R s m args meth c0 →
    ∀ c c' : mx_C, c.1 = pc → L0 ≤ c.2.2.2.length → S0 ≤ mx_sz c.2.2.2 → c'.2.2.2.length ≤ R.cells + L0 → mx_sz c'.2.2.2 ≤ R.slots + S0 → mx_op SA mx_SF mx_DF 14 i c = some c' → mx_Go nL G p l e R s m args below meth c0 Q L0 S0 c' → mx_Go nL G p l e R s m args below meth c0 Q L0 S0 c
/-- a row that changes the top of the stack alone -/
def mx_Row (bytes : ByteArray) (pc pc' : Nat) (top top' : List Value) : Prop :=
  ∀ (p : Program) (l : Launch) (e : Env) (R : Room) (s : State) (m : MethodId) (args : Array Value) (below : List Frame) (meth : Method) (c0 : Code) (Q : State → Prop) (H : Heap) (locs : List Loc) (cells slots : Nat) (ls : Array Slot) (rest : List Value), p.tables.exec = Jvm.exec → c0.code = bytes →
    W p l e R s m args below meth c0 H locs cells slots Q (F0 m pc' ls (top' ++ rest)) → W p l e R s m args below meth c0 H locs cells slots Q (F0 m pc ls (top ++ rest))
theorem ms_plain {bytes : ByteArray} {nL : Nat} {y : MethodName} {pc : Nat} {i : mx_I}
    (h : ∀ (SA : mx_S) (c c' : mx_C), mx_op SA mx_SF mx_DF 14 i c = some c' → c.1 = pc → ∃ top top' rest : List Value, c.2.2.1 = top ++ rest ∧ c'.2.2.1 = top' ++ rest ∧ c'.2.1 = c.2.1 ∧ c'.2.2.2 = c.2.2.2 ∧ ∀ G : mx_G, mx_Row bytes pc c'.1 (top.map (mx_tr G)) (top'.map (mx_tr G))) : mx_Snd bytes nL y pc i := by
  intro G SA p l e R s m args below meth c0 Q L0 S0 K c c' hpc _ _ _ _ hop hgo H locs ls h1 h2 hP hS hv
  obtain ⟨top, top', rest, e1, e2, e3, e4, row⟩ := h SA c c' hop hpc
  rw [hpc, e1, List.map_append]
  refine row G p l e R s m args below meth c0 Q H locs _ _ ls _ K.1 K.2.1 ?_
  have g := hgo H locs ls
  rw [e2, e3, e4, List.map_append] at g
  exact g h1 h2 hP hS hv
section MSV
variable {bytes : ByteArray} {nL : Nat} {y : MethodName} {pc : Nat}
/-- a push -/
theorem ms_push {i : mx_I} {v : Value} {n : Nat} (hi : ∀ (SA : mx_S) (c : mx_C), mx_op SA mx_SF mx_DF 14 i c = mx_push v n c) (row : ∀ G : mx_G, mx_Row bytes pc (pc + n) [] [mx_tr G v]) : mx_Snd bytes nL y pc i := by
  refine ms_plain fun SA c c' hop hpc => ⟨[], [v], c.2.2.1, rfl, ?_, ?_, ?_, fun G => ?_⟩ <;> (rw [hi] at hop; have h := Option.some.inj hop; subst h)
  · rfl
  · rfl
  · rfl
  · subst hpc
    exact row G
theorem ms_iconst {a : Nat} {L : List Nat} {n : Int} (hd : decode bytes pc = .ok (.iconst n, 1)) (hv : Int32.ofInt n = Int32.ofNat a) : mx_Snd bytes nL y pc (0, a, 1, L) :=
  ms_push (v := .int (Int32.ofNat a)) (n := 1) (fun _ _ => rfl) fun _ _ _ _ _ _ _ _ _ _ _ _ _ _ _ _ _ _ hx hb k => lv_iconst hx hb hd hv k
theorem ms_bipush {a : Nat} {L : List Nat} {n : Int} (hd : decode bytes pc = .ok (.bipush n, 2)) (hv : (Int8.ofInt n).toInt32 = Int32.ofNat a) : mx_Snd bytes nL y pc (0, a, 2, L) :=
  ms_push (v := .int (Int32.ofNat a)) (n := 2) (fun _ _ => rfl) fun _ _ _ _ _ _ _ _ _ _ _ _ _ _ _ _ _ _ hx hb k => lv_bipush hx hb hd hv k
theorem ms_sipush {a : Nat} {L : List Nat} {n : Int} (hd : decode bytes pc = .ok (.sipush n, 3)) (hv : (Int16.ofInt n).toInt32 = Int32.ofNat a) : mx_Snd bytes nL y pc (0, a, 3, L) :=
  ms_push (v := .int (Int32.ofNat a)) (n := 3) (fun _ _ => rfl) fun _ _ _ _ _ _ _ _ _ _ _ _ _ _ _ _ _ _ hx hb k => lv_sipush hx hb hd hv k
theorem ms_lconst {a : Nat} {L : List Nat} {n : Fin 2} (hd : decode bytes pc = .ok (.lconst n, 1)) (hv : Int64.ofNat (n : Nat) = Int64.ofNat a) : mx_Snd bytes nL y pc (1, a, 1, L) :=
  ms_push (v := .long (Int64.ofNat a)) (n := 1) (fun _ _ => rfl) fun _ _ _ _ _ _ _ _ _ _ _ _ _ _ _ _ _ _ hx hb k => lv_lconst hx hb hd hv k
/-- a constant of the pool -/
theorem ms_pool {i : mx_I} {v : Value} {n : Nat} (hi : ∀ (SA : mx_S) (c : mx_C), mx_op SA mx_SF mx_DF 14 i c = mx_push v n c) (hv : ∀ G : mx_G, mx_tr G v = v)
    (row : ∀ (p : Program) (l : Launch) (e : Env) (R : Room) (s : State) (m : MethodId) (args : Array Value) (below : List Frame) (meth : Method) (c0 : Code) (Q : State → Prop) (H : Heap) (locs : List Loc) (cells slots : Nat) (ls : Array Slot) (rest : List Value), p.tables.exec = Jvm.exec → c0.code = bytes → s.vm.findClass y.cls = some m.cls → (∀ w ∈ mx_GT, w.before args s = true) →
      W p l e R s m args below meth c0 H locs cells slots Q (F0 m (pc + n) ls (v :: rest)) → W p l e R s m args below meth c0 H locs cells slots Q (F0 m pc ls rest)) : mx_Snd bytes nL y pc i := by
  intro G SA p l e R s m args below meth c0 Q L0 S0 K c c' hpc _ _ _ _ hop hgo H locs ls h1 h2 hP hS hl
  rw [hi] at hop
  have h := Option.some.inj hop
  subst h
  rw [hpc]
  refine row p l e R s m args below meth c0 Q H locs _ _ ls _ K.1 K.2.1 K.2.2.2.1 K.2.2.2.2.1 ?_
  have g := hgo H locs ls h1 h2 hP hS hl
  rw [← hpc, ← hv G]
  exact g
theorem ms_ldc {a : Nat} {L : List Nat} {idx : Nat} (w : Nat) (hd : decode bytes pc = .ok (.ldc idx, 2)) (hw : lw_tbl[w]? = some (.constant y.cls idx (Int32.ofNat a))) : mx_Snd bytes nL y pc (0, a, 2, L) :=
  ms_pool (v := .int (Int32.ofNat a)) (n := 2) (fun _ _ => rfl) (fun _ => rfl) fun _ _ _ _ _ _ _ _ _ _ _ _ _ _ _ _ _ hx hb ho ht k => lv_ldc hx hb ho (ht _ (mx_gt w hw rfl)) hd k
theorem ms_ldcw {a : Nat} {L : List Nat} {idx : Nat} (w : Nat) (hd : decode bytes pc = .ok (.ldc_w idx, 3)) (hw : lw_tbl[w]? = some (.constant y.cls idx (Int32.ofNat a))) : mx_Snd bytes nL y pc (0, a, 3, L) :=
  ms_pool (v := .int (Int32.ofNat a)) (n := 3) (fun _ _ => rfl) (fun _ => rfl) fun _ _ _ _ _ _ _ _ _ _ _ _ _ _ _ _ _ hx hb ho ht k => lv_ldcw hx hb ho (ht _ (mx_gt w hw rfl)) hd k
theorem ms_ldc2 {a : Nat} {L : List Nat} {idx : Nat} (w : Nat) (hd : decode bytes pc = .ok (.ldc2_w idx, 3)) (hw : lw_tbl[w]? = some (.constantLong y.cls idx (Int64.ofNat a))) : mx_Snd bytes nL y pc (1, a, 3, L) :=
  ms_pool (v := .long (Int64.ofNat a)) (n := 3) (fun _ _ => rfl) (fun _ => rfl) fun _ _ _ _ _ _ _ _ _ _ _ _ _ _ _ _ _ hx hb ho ht k => lv_ldc2 hx hb ho (ht _ (mx_gt w hw rfl)) hd k
/-- loads -/
theorem ms_load {i : mx_I} {a n : Nat} (ty : Value → Prop) (hi : ∀ (SA : mx_S) (c c' : mx_C), mx_op SA mx_SF mx_DF 14 i c = some c' → ∃ v, ty v ∧ mx_lk a c.2.1 = some v ∧ c' = (c.1 + n, c.2.1, v :: c.2.2.1, c.2.2.2))
    (row : ∀ (G : mx_G) (v : Value), ty v → ∀ (p : Program) (l : Launch) (e : Env) (R : Room) (s : State) (m : MethodId) (args : Array Value) (below : List Frame) (meth : Method) (c0 : Code) (Q : State → Prop) (H : Heap) (locs : List Loc) (cells slots : Nat) (ls : Array Slot) (rest : List Value), p.tables.exec = Jvm.exec → c0.code = bytes → ls[a]? = some (.val (mx_tr G v)) →
      W p l e R s m args below meth c0 H locs cells slots Q (F0 m (pc + n) ls (mx_tr G v :: rest)) → W p l e R s m args below meth c0 H locs cells slots Q (F0 m pc ls rest)) : mx_Snd bytes nL y pc i := by
  intro G SA p l e R s m args below meth c0 Q L0 S0 K c c' hpc _ _ _ _ hop hgo H locs ls h1 h2 hP hS hl
  obtain ⟨v, hty, hlk, rfl⟩ := hi SA c c' hop
  rw [hpc]
  refine row G v hty p l e R s m args below meth c0 Q H locs _ _ ls _ K.1 K.2.1 (hl.2.2 (a, mx_tr G v) (List.mem_map.mpr ⟨(a, v), mx_lk_mem hlk, rfl⟩)) ?_
  rw [← hpc]
  exact hgo H locs ls h1 h2 hP hS hl
def mx_isI (v : Value) : Prop := ∃ x, v = .int x
def mx_isL (v : Value) : Prop := ∃ x, v = .long x
def mx_isA (v : Value) : Prop := ∃ x, v = .ref x
theorem mx_ldi_inv {a n : Nat} {c c' : mx_C} (h : mx_ldi a n c = some c') : ∃ v, mx_isI v ∧ mx_lk a c.2.1 = some v ∧ c' = (c.1 + n, c.2.1, v :: c.2.2.1, c.2.2.2) := by
  unfold mx_ldi at h
  split at h
  · next x hx => exact ⟨_, ⟨x, rfl⟩, hx, (Option.some.inj h).symm⟩
  · cases h
theorem mx_ldl_inv {a n : Nat} {c c' : mx_C} (h : mx_ldl a n c = some c') : ∃ v, mx_isL v ∧ mx_lk a c.2.1 = some v ∧ c' = (c.1 + n, c.2.1, v :: c.2.2.1, c.2.2.2) := by
  unfold mx_ldl at h
  split at h
  · next x hx => exact ⟨_, ⟨x, rfl⟩, hx, (Option.some.inj h).symm⟩
  · cases h
theorem mx_lda_inv {a n : Nat} {c c' : mx_C} (h : mx_lda a n c = some c') : ∃ v, mx_isA v ∧ mx_lk a c.2.1 = some v ∧ c' = (c.1 + n, c.2.1, v :: c.2.2.1, c.2.2.2) := by
  unfold mx_lda at h
  split at h
  · next x hx => exact ⟨_, ⟨x, rfl⟩, hx, (Option.some.inj h).symm⟩
  · cases h
theorem ms_iload_n {a : Nat} {L : List Nat} {k : Fin 4} (hd : decode bytes pc = .ok (.iload_n k, 1)) (hk : (k : Nat) = a) : mx_Snd bytes nL y pc (2, a, 1, L) :=
  ms_load mx_isI (fun _ _ _ h => mx_ldi_inv h) fun G v hv p l e R s m args below meth c0 Q H locs cells slots ls rest hx hb hl kk => by
    obtain ⟨x, rfl⟩ := hv
    exact lv_iload_n hx hb hd hk hl kk
theorem ms_iload {a : Nat} {L : List Nat} (hd : decode bytes pc = .ok (.iload a, 2)) : mx_Snd bytes nL y pc (2, a, 2, L) :=
  ms_load mx_isI (fun _ _ _ h => mx_ldi_inv h) fun G v hv p l e R s m args below meth c0 Q H locs cells slots ls rest hx hb hl kk => by
    obtain ⟨x, rfl⟩ := hv
    exact lv_iload hx hb hd hl kk
theorem ms_lload_n {a : Nat} {L : List Nat} {k : Fin 4} (hd : decode bytes pc = .ok (.lload_n k, 1)) (hk : (k : Nat) = a) : mx_Snd bytes nL y pc (3, a, 1, L) :=
  ms_load mx_isL (fun _ _ _ h => mx_ldl_inv h) fun G v hv p l e R s m args below meth c0 Q H locs cells slots ls rest hx hb hl kk => by
    obtain ⟨x, rfl⟩ := hv
    exact lv_lload_n hx hb hd hk hl kk
theorem ms_lload {a : Nat} {L : List Nat} (hd : decode bytes pc = .ok (.lload a, 2)) : mx_Snd bytes nL y pc (3, a, 2, L) :=
  ms_load mx_isL (fun _ _ _ h => mx_ldl_inv h) fun G v hv p l e R s m args below meth c0 Q H locs cells slots ls rest hx hb hl kk => by
    obtain ⟨x, rfl⟩ := hv
    exact lv_lload hx hb hd hl kk
theorem ms_aload_n {a : Nat} {L : List Nat} {k : Fin 4} (hd : decode bytes pc = .ok (.aload_n k, 1)) (hk : (k : Nat) = a) : mx_Snd bytes nL y pc (4, a, 1, L) :=
  ms_load mx_isA (fun _ _ _ h => mx_lda_inv h) fun G v hv p l e R s m args below meth c0 Q H locs cells slots ls rest hx hb hl kk => by
    obtain ⟨x, rfl⟩ := hv
    exact lv_aload_n hx hb hd hk hl kk
theorem ms_aload {a : Nat} {L : List Nat} (hd : decode bytes pc = .ok (.aload a, 2)) : mx_Snd bytes nL y pc (4, a, 2, L) :=
  ms_load mx_isA (fun _ _ _ h => mx_lda_inv h) fun G v hv p l e R s m args below meth c0 Q H locs cells slots ls rest hx hb hl kk => by
    obtain ⟨x, rfl⟩ := hv
    exact lv_aload hx hb hd hl kk
/-- stores -/
theorem mx_sto_tr (G : mx_G) (i : Nat) (v : Value) (lv : mx_L) : (mx_sto i v lv).map (mx_tq G) = (i, mx_tr G v) :: (lv.map (mx_tq G)).filter (fun q => !(q.1 == i) && !(q.1 + 1 == i && q.2.category == 2)) := by
  unfold mx_sto
  rw [List.map_cons, List.filter_map]
  have : ((fun q : Nat × Value => !(q.1 == i) && !(q.1 + 1 == i && q.2.category == 2)) ∘ mx_tq G) = (fun q : Nat × Value => !(q.1 == i) && !(q.1 + 1 == i && q.2.category == 2)) := by
    funext q
    simp only [Function.comp, mx_tq, mx_tr_cat]
  rw [this]
  rfl
theorem mx_sto2_tr (G : mx_G) (i : Nat) (v : Value) (lv : mx_L) : (mx_sto2 i v lv).map (mx_tq G) = (i, mx_tr G v) :: (lv.map (mx_tq G)).filter (fun q => !(q.1 == i) && (!(q.1 == i + 1) && !(q.1 + 1 == i && q.2.category == 2))) := by
  unfold mx_sto2
  rw [List.map_cons, List.filter_map]
  have : ((fun q : Nat × Value => !(q.1 == i) && (!(q.1 == i + 1) && !(q.1 + 1 == i && q.2.category == 2))) ∘ mx_tq G) = (fun q : Nat × Value => !(q.1 == i) && (!(q.1 == i + 1) && !(q.1 + 1 == i && q.2.category == 2))) := by
    funext q
    simp only [Function.comp, mx_tq, mx_tr_cat]
  rw [this]
  rfl
theorem ms_store {i : mx_I} {n : Nat} (ty : Value → Prop) (f : Value → mx_L → mx_L) (hi : ∀ (SA : mx_S) (c c' : mx_C), mx_op SA mx_SF mx_DF 14 i c = some c' → ∃ v st, ty v ∧ c.2.2.1 = v :: st ∧ c' = (c.1 + n, f v c.2.1, st, c.2.2.2))
    (row : ∀ (G : mx_G) (v : Value) (lv : mx_L), ty v → ∀ (p : Program) (l : Launch) (e : Env) (R : Room) (s : State) (m : MethodId) (args : Array Value) (below : List Frame) (meth : Method) (c0 : Code) (Q : State → Prop) (H : Heap) (locs : List Loc) (cells slots : Nat) (ls : Array Slot) (rest : List Value), p.tables.exec = Jvm.exec → c0.code = bytes → lv_has ls nL (lv.map (mx_tq G)) →
      (∀ ls' : Array Slot, lv_has ls' nL ((f v lv).map (mx_tq G)) → W p l e R s m args below meth c0 H locs cells slots Q (F0 m (pc + n) ls' rest)) → W p l e R s m args below meth c0 H locs cells slots Q (F0 m pc ls (mx_tr G v :: rest))) : mx_Snd bytes nL y pc i := by
  intro G SA p l e R s m args below meth c0 Q L0 S0 K c c' hpc _ _ _ _ hop hgo H locs ls h1 h2 hP hS hl
  obtain ⟨v, st, hty, hst, rfl⟩ := hi SA c c' hop
  rw [hpc, hst]
  refine row G v c.2.1 hty p l e R s m args below meth c0 Q H locs _ _ ls _ K.1 K.2.1 hl fun ls' hl' => ?_
  rw [← hpc]
  exact hgo H locs ls' h1 h2 hP hS hl'
theorem mx_sti_inv {a n : Nat} {c c' : mx_C} (h : mx_sti a n c = some c') : ∃ v st, mx_isI v ∧ c.2.2.1 = v :: st ∧ c' = (c.1 + n, mx_sto a v c.2.1, st, c.2.2.2) := by
  unfold mx_sti at h
  split at h
  · next x st hx => exact ⟨_, st, ⟨x, rfl⟩, hx, (Option.some.inj h).symm⟩
  · cases h
theorem mx_stl_inv {a n : Nat} {c c' : mx_C} (h : mx_stl a n c = some c') : ∃ v st, mx_isL v ∧ c.2.2.1 = v :: st ∧ c' = (c.1 + n, mx_sto2 a v c.2.1, st, c.2.2.2) := by
  unfold mx_stl at h
  split at h
  · next x st hx => exact ⟨_, st, ⟨x, rfl⟩, hx, (Option.some.inj h).symm⟩
  · cases h
theorem mx_sta_inv {a n : Nat} {c c' : mx_C} (h : mx_sta a n c = some c') : ∃ v st, mx_isA v ∧ c.2.2.1 = v :: st ∧ c' = (c.1 + n, mx_sto a v c.2.1, st, c.2.2.2) := by
  unfold mx_sta at h
  split at h
  · next x st hx => exact ⟨_, st, ⟨x, rfl⟩, hx, (Option.some.inj h).symm⟩
  · cases h
theorem ms_istore_n {a : Nat} {L : List Nat} {k : Fin 4} (hd : decode bytes pc = .ok (.istore_n k, 1)) (hk : (k : Nat) = a) (hn : a < nL) : mx_Snd bytes nL y pc (5, a, 1, L) :=
  ms_store mx_isI (fun v lv => mx_sto a v lv) (fun _ _ _ h => mx_sti_inv h) fun G v lv hv p l e R s m args below meth c0 Q H locs cells slots ls rest hx hb hl kk => by
    obtain ⟨x, rfl⟩ := hv
    exact lv_istore_n hx hb hd hk hl hn (mx_sto_tr G a (.int x) lv).symm kk
theorem ms_istore {a : Nat} {L : List Nat} (hd : decode bytes pc = .ok (.istore a, 2)) (hn : a < nL) : mx_Snd bytes nL y pc (5, a, 2, L) :=
  ms_store mx_isI (fun v lv => mx_sto a v lv) (fun _ _ _ h => mx_sti_inv h) fun G v lv hv p l e R s m args below meth c0 Q H locs cells slots ls rest hx hb hl kk => by
    obtain ⟨x, rfl⟩ := hv
    exact lv_istore hx hb hd hl hn (mx_sto_tr G a (.int x) lv).symm kk
theorem ms_lstore_n {a : Nat} {L : List Nat} {k : Fin 4} (hd : decode bytes pc = .ok (.lstore_n k, 1)) (hk : (k : Nat) = a) (hn : a + 1 < nL) : mx_Snd bytes nL y pc (6, a, 1, L) :=
  ms_store mx_isL (fun v lv => mx_sto2 a v lv) (fun _ _ _ h => mx_stl_inv h) fun G v lv hv p l e R s m args below meth c0 Q H locs cells slots ls rest hx hb hl kk => by
    obtain ⟨x, rfl⟩ := hv
    exact lv_lstore_n hx hb hd hk hl hn (mx_sto2_tr G a (.long x) lv).symm kk
theorem ms_lstore {a : Nat} {L : List Nat} (hd : decode bytes pc = .ok (.lstore a, 2)) (hn : a + 1 < nL) : mx_Snd bytes nL y pc (6, a, 2, L) :=
  ms_store mx_isL (fun v lv => mx_sto2 a v lv) (fun _ _ _ h => mx_stl_inv h) fun G v lv hv p l e R s m args below meth c0 Q H locs cells slots ls rest hx hb hl kk => by
    obtain ⟨x, rfl⟩ := hv
    exact lv_lstore hx hb hd hl hn (mx_sto2_tr G a (.long x) lv).symm kk
theorem ms_astore_n {a : Nat} {L : List Nat} {k : Fin 4} (hd : decode bytes pc = .ok (.astore_n k, 1)) (hk : (k : Nat) = a) (hn : a < nL) : mx_Snd bytes nL y pc (7, a, 1, L) :=
  ms_store mx_isA (fun v lv => mx_sto a v lv) (fun _ _ _ h => mx_sta_inv h) fun G v lv hv p l e R s m args below meth c0 Q H locs cells slots ls rest hx hb hl kk => by
    obtain ⟨x, rfl⟩ := hv
    exact lv_astore_n hx hb hd hk hl hn (mx_sto_tr G a (.ref x) lv).symm kk
theorem ms_iinc {a d : Nat} {L : List Nat} {n : Int} (hd : decode bytes pc = .ok (.iinc a n, 3)) (hv : Int32.ofInt n = Int32.ofNat d) (hn : a < nL) : mx_Snd bytes nL y pc (8, a, d, L) := by
  intro G SA p l e R s m args below meth c0 Q L0 S0 K c c' hpc _ _ _ _ hop hgo H locs ls h1 h2 hP hS hl
  have hop : mx_inc a d c = some c' := hop
  unfold mx_inc at hop
  split at hop
  · next x hx =>
    have h := Option.some.inj hop
    subst h
    rw [hpc]
    obtain ⟨k, hk⟩ := List.getElem?_of_mem (List.mem_map.mpr ⟨(a, Value.int x), mx_lk_mem hx, rfl⟩ : mx_tq G (a, Value.int x) ∈ c.2.1.map (mx_tq G))
    refine lv_iinc (v := x + Int32.ofNat d) K.1 K.2.1 hd hl hk (by rw [hv]) hn (mx_sto_tr G a (.int (x + Int32.ofNat d)) c.2.1).symm fun ls' hl' => ?_
    rw [← hpc]
    exact hgo H locs ls' h1 h2 hP hS hl'
  · cases hop
/-- arithmetic -/
theorem mx_ii_inv {f : Int32 → Int32 → Option Value} {c c' : mx_C} (h : mx_ii f c = some c') : ∃ x y v st, c.2.2.1 = .int y :: .int x :: st ∧ f x y = some v ∧ c' = (c.1 + 1, c.2.1, v :: st, c.2.2.2) := by
  unfold mx_ii at h
  split at h
  · next y x st hst =>
    split at h
    · next v hv => exact ⟨x, y, v, st, hst, hv, (Option.some.inj h).symm⟩
    · cases h
  · cases h
theorem mx_ll_inv {f : Int64 → Int64 → Option Value} {c c' : mx_C} (h : mx_ll f c = some c') : ∃ x y v st, c.2.2.1 = .long y :: .long x :: st ∧ f x y = some v ∧ c' = (c.1 + 1, c.2.1, v :: st, c.2.2.2) := by
  unfold mx_ll at h
  split at h
  · next y x st hst =>
    split at h
    · next v hv => exact ⟨x, y, v, st, hst, hv, (Option.some.inj h).symm⟩
    · cases h
  · cases h
theorem mx_li_inv {f : Int64 → Int32 → Value} {c c' : mx_C} (h : mx_li f c = some c') : ∃ x y st, c.2.2.1 = .int y :: .long x :: st ∧ c' = (c.1 + 1, c.2.1, f x y :: st, c.2.2.2) := by
  unfold mx_li at h
  split at h
  · next y x st hst => exact ⟨x, y, st, hst, (Option.some.inj h).symm⟩
  · cases h
theorem mx_i1_inv {f : Int32 → Value} {c c' : mx_C} (h : mx_i1 f c = some c') : ∃ x st, c.2.2.1 = .int x :: st ∧ c' = (c.1 + 1, c.2.1, f x :: st, c.2.2.2) := by
  unfold mx_i1 at h
  split at h
  · next x st hst => exact ⟨x, st, hst, (Option.some.inj h).symm⟩
  · cases h
theorem mx_l1_inv {f : Int64 → Value} {c c' : mx_C} (h : mx_l1 f c = some c') : ∃ x st, c.2.2.1 = .long x :: st ∧ c' = (c.1 + 1, c.2.1, f x :: st, c.2.2.2) := by
  unfold mx_l1 at h
  split at h
  · next x st hst => exact ⟨x, st, hst, (Option.some.inj h).symm⟩
  · cases h
theorem ms_ii {i : mx_I} {f : Int32 → Int32 → Option Value} (hi : ∀ (SA : mx_S) (c : mx_C), mx_op SA mx_SF mx_DF 14 i c = mx_ii f c) (hf : ∀ x y v, f x y = some v → ∀ G : mx_G, mx_tr G v = v) (row : ∀ x y v, f x y = some v → mx_Row bytes pc (pc + 1) [.int y, .int x] [v]) : mx_Snd bytes nL y pc i :=
  ms_plain fun SA c c' hop hpc => by
    rw [hi] at hop
    obtain ⟨x, y, v, st, e1, e2, rfl⟩ := mx_ii_inv hop
    refine ⟨[.int y, .int x], [v], st, e1, rfl, rfl, rfl, fun G => ?_⟩
    show mx_Row bytes pc (c.1 + 1) [.int y, .int x] [mx_tr G v]
    rw [hpc, hf x y v e2 G]
    exact row x y v e2
theorem ms_ll {i : mx_I} {f : Int64 → Int64 → Option Value} (hi : ∀ (SA : mx_S) (c : mx_C), mx_op SA mx_SF mx_DF 14 i c = mx_ll f c) (hf : ∀ x y v, f x y = some v → ∀ G : mx_G, mx_tr G v = v) (row : ∀ x y v, f x y = some v → mx_Row bytes pc (pc + 1) [.long y, .long x] [v]) : mx_Snd bytes nL y pc i :=
  ms_plain fun SA c c' hop hpc => by
    rw [hi] at hop
    obtain ⟨x, y, v, st, e1, e2, rfl⟩ := mx_ll_inv hop
    refine ⟨[.long y, .long x], [v], st, e1, rfl, rfl, rfl, fun G => ?_⟩
    show mx_Row bytes pc (c.1 + 1) [.long y, .long x] [mx_tr G v]
    rw [hpc, hf x y v e2 G]
    exact row x y v e2
theorem ms_li {i : mx_I} {f : Int64 → Int32 → Value} (hi : ∀ (SA : mx_S) (c : mx_C), mx_op SA mx_SF mx_DF 14 i c = mx_li f c) (hf : ∀ x y, ∀ G : mx_G, mx_tr G (f x y) = f x y) (row : ∀ x y, mx_Row bytes pc (pc + 1) [.int y, .long x] [f x y]) : mx_Snd bytes nL y pc i :=
  ms_plain fun SA c c' hop hpc => by
    rw [hi] at hop
    obtain ⟨x, y, st, e1, rfl⟩ := mx_li_inv hop
    refine ⟨[.int y, .long x], [f x y], st, e1, rfl, rfl, rfl, fun G => ?_⟩
    show mx_Row bytes pc (c.1 + 1) [.int y, .long x] [mx_tr G (f x y)]
    rw [hpc, hf x y G]
    exact row x y
theorem ms_i1 {i : mx_I} {f : Int32 → Value} (hi : ∀ (SA : mx_S) (c : mx_C), mx_op SA mx_SF mx_DF 14 i c = mx_i1 f c) (hf : ∀ x, ∀ G : mx_G, mx_tr G (f x) = f x) (row : ∀ x, mx_Row bytes pc (pc + 1) [.int x] [f x]) : mx_Snd bytes nL y pc i :=
  ms_plain fun SA c c' hop hpc => by
    rw [hi] at hop
    obtain ⟨x, st, e1, rfl⟩ := mx_i1_inv hop
    refine ⟨[.int x], [f x], st, e1, rfl, rfl, rfl, fun G => ?_⟩
    show mx_Row bytes pc (c.1 + 1) [.int x] [mx_tr G (f x)]
    rw [hpc, hf x G]
    exact row x
theorem ms_l1 {i : mx_I} {f : Int64 → Value} (hi : ∀ (SA : mx_S) (c : mx_C), mx_op SA mx_SF mx_DF 14 i c = mx_l1 f c) (hf : ∀ x, ∀ G : mx_G, mx_tr G (f x) = f x) (row : ∀ x, mx_Row bytes pc (pc + 1) [.long x] [f x]) : mx_Snd bytes nL y pc i :=
  ms_plain fun SA c c' hop hpc => by
    rw [hi] at hop
    obtain ⟨x, st, e1, rfl⟩ := mx_l1_inv hop
    refine ⟨[.long x], [f x], st, e1, rfl, rfl, rfl, fun G => ?_⟩
    show mx_Row bytes pc (c.1 + 1) [.long x] [mx_tr G (f x)]
    rw [hpc, hf x G]
    exact row x
end MSV
end
section
section MSW
variable {bytes : ByteArray} {nL : Nat} {y : MethodName} {pc a b : Nat} {L : List Nat}
theorem ms_iadd (hd : decode bytes pc = .ok (.iadd, 1)) : mx_Snd bytes nL y pc (9, a, b, L) :=
  ms_ii (f := fun x y => some (.int (x + y))) (fun _ _ => rfl) (fun _ _ _ h _ => by cases h; rfl) fun _ _ _ h _ _ _ _ _ _ _ _ _ _ _ _ _ _ _ _ _ hx hb k => by cases h; exact lv_iadd hx hb hd k
theorem ms_isub (hd : decode bytes pc = .ok (.isub, 1)) : mx_Snd bytes nL y pc (10, a, b, L) :=
  ms_ii (f := fun x y => some (.int (x - y))) (fun _ _ => rfl) (fun _ _ _ h _ => by cases h; rfl) fun _ _ _ h _ _ _ _ _ _ _ _ _ _ _ _ _ _ _ _ _ hx hb k => by cases h; exact lv_isub hx hb hd k
theorem ms_imul (hd : decode bytes pc = .ok (.imul, 1)) : mx_Snd bytes nL y pc (11, a, b, L) :=
  ms_ii (f := fun x y => some (.int (x * y))) (fun _ _ => rfl) (fun _ _ _ h _ => by cases h; rfl) fun _ _ _ h _ _ _ _ _ _ _ _ _ _ _ _ _ _ _ _ _ hx hb k => by cases h; exact lv_imul hx hb hd k
theorem ms_iand (hd : decode bytes pc = .ok (.iand, 1)) : mx_Snd bytes nL y pc (12, a, b, L) :=
  ms_ii (f := fun x y => some (.int (x &&& y))) (fun _ _ => rfl) (fun _ _ _ h _ => by cases h; rfl) fun _ _ _ h _ _ _ _ _ _ _ _ _ _ _ _ _ _ _ _ _ hx hb k => by cases h; exact lv_iand hx hb hd k
theorem ms_ior (hd : decode bytes pc = .ok (.ior, 1)) : mx_Snd bytes nL y pc (13, a, b, L) :=
  ms_ii (f := fun x y => some (.int (x ||| y))) (fun _ _ => rfl) (fun _ _ _ h _ => by cases h; rfl) fun _ _ _ h _ _ _ _ _ _ _ _ _ _ _ _ _ _ _ _ _ hx hb k => by cases h; exact lv_ior hx hb hd k
theorem mx_div_inv {x y : Int32} {v : Value} (h : mx_div x y = some v) : ¬ y = 0 ∧ v = .int (x / y) := by
  unfold mx_div at h
  split at h
  · cases h
  · next hy => exact ⟨hy, (Option.some.inj h).symm⟩
theorem mx_rem_inv {x y : Int32} {v : Value} (h : mx_rem x y = some v) : ¬ y = 0 ∧ v = .int (x - x / y * y) := by
  unfold mx_rem at h
  split at h
  · cases h
  · next hy => exact ⟨hy, (Option.some.inj h).symm⟩
theorem mx_ldiv_inv {x y : Int64} {v : Value} (h : mx_ldiv x y = some v) : ¬ y = 0 ∧ v = .long (x / y) := by
  unfold mx_ldiv at h
  split at h
  · cases h
  · next hy => exact ⟨hy, (Option.some.inj h).symm⟩
theorem ms_idiv (hd : decode bytes pc = .ok (.idiv, 1)) : mx_Snd bytes nL y pc (14, a, b, L) :=
  ms_ii (f := mx_div) (fun _ _ => rfl) (fun _ _ _ h _ => by obtain ⟨-, rfl⟩ := mx_div_inv h; rfl) fun _ _ _ h _ _ _ _ _ _ _ _ _ _ _ _ _ _ _ _ _ hx hb k => by obtain ⟨h1, rfl⟩ := mx_div_inv h; exact lv_idiv hx hb hd h1 k
theorem ms_irem (hd : decode bytes pc = .ok (.irem, 1)) : mx_Snd bytes nL y pc (15, a, b, L) :=
  ms_ii (f := mx_rem) (fun _ _ => rfl) (fun _ _ _ h _ => by obtain ⟨-, rfl⟩ := mx_rem_inv h; rfl) fun _ _ _ h _ _ _ _ _ _ _ _ _ _ _ _ _ _ _ _ _ hx hb k => by obtain ⟨h1, rfl⟩ := mx_rem_inv h; exact lv_irem hx hb hd h1 k
theorem ms_ineg (hd : decode bytes pc = .ok (.ineg, 1)) : mx_Snd bytes nL y pc (16, a, b, L) :=
  ms_i1 (f := fun x => .int (-x)) (fun _ _ => rfl) (fun _ _ => rfl) fun _ _ _ _ _ _ _ _ _ _ _ _ _ _ _ _ _ _ hx hb k => lv_ineg hx hb hd k
theorem ms_ishl (hd : decode bytes pc = .ok (.ishl, 1)) : mx_Snd bytes nL y pc (17, a, b, L) :=
  ms_ii (f := fun x y => some (.int (x <<< (y &&& 31)))) (fun _ _ => rfl) (fun _ _ _ h _ => by cases h; rfl) fun _ _ _ h _ _ _ _ _ _ _ _ _ _ _ _ _ _ _ _ _ hx hb k => by cases h; exact lv_ishl hx hb hd k
theorem ms_ishr (hd : decode bytes pc = .ok (.ishr, 1)) : mx_Snd bytes nL y pc (18, a, b, L) :=
  ms_ii (f := fun x y => some (.int (x >>> (y &&& 31)))) (fun _ _ => rfl) (fun _ _ _ h _ => by cases h; rfl) fun _ _ _ h _ _ _ _ _ _ _ _ _ _ _ _ _ _ _ _ _ hx hb k => by cases h; exact lv_ishr hx hb hd k
theorem ms_ladd (hd : decode bytes pc = .ok (.ladd, 1)) : mx_Snd bytes nL y pc (19, a, b, L) :=
  ms_ll (f := fun x y => some (.long (x + y))) (fun _ _ => rfl) (fun _ _ _ h _ => by cases h; rfl) fun _ _ _ h _ _ _ _ _ _ _ _ _ _ _ _ _ _ _ _ _ hx hb k => by cases h; exact lv_ladd hx hb hd k
theorem ms_lsub (hd : decode bytes pc = .ok (.lsub, 1)) : mx_Snd bytes nL y pc (20, a, b, L) :=
  ms_ll (f := fun x y => some (.long (x - y))) (fun _ _ => rfl) (fun _ _ _ h _ => by cases h; rfl) fun _ _ _ h _ _ _ _ _ _ _ _ _ _ _ _ _ _ _ _ _ hx hb k => by cases h; exact lv_lsub hx hb hd k
theorem ms_lmul (hd : decode bytes pc = .ok (.lmul, 1)) : mx_Snd bytes nL y pc (21, a, b, L) :=
  ms_ll (f := fun x y => some (.long (x * y))) (fun _ _ => rfl) (fun _ _ _ h _ => by cases h; rfl) fun _ _ _ h _ _ _ _ _ _ _ _ _ _ _ _ _ _ _ _ _ hx hb k => by cases h; exact lv_lmul hx hb hd k
theorem ms_ldiv (hd : decode bytes pc = .ok (.ldiv, 1)) : mx_Snd bytes nL y pc (22, a, b, L) :=
  ms_ll (f := mx_ldiv) (fun _ _ => rfl) (fun _ _ _ h _ => by obtain ⟨-, rfl⟩ := mx_ldiv_inv h; rfl) fun _ _ _ h _ _ _ _ _ _ _ _ _ _ _ _ _ _ _ _ _ hx hb k => by obtain ⟨h1, rfl⟩ := mx_ldiv_inv h; exact lv_ldiv hx hb hd h1 k
theorem ms_land (hd : decode bytes pc = .ok (.land, 1)) : mx_Snd bytes nL y pc (23, a, b, L) :=
  ms_ll (f := fun x y => some (.long (x &&& y))) (fun _ _ => rfl) (fun _ _ _ h _ => by cases h; rfl) fun _ _ _ h _ _ _ _ _ _ _ _ _ _ _ _ _ _ _ _ _ hx hb k => by cases h; exact lv_land hx hb hd k
theorem ms_lor (hd : decode bytes pc = .ok (.lor, 1)) : mx_Snd bytes nL y pc (24, a, b, L) :=
  ms_ll (f := fun x y => some (.long (x ||| y))) (fun _ _ => rfl) (fun _ _ _ h _ => by cases h; rfl) fun _ _ _ h _ _ _ _ _ _ _ _ _ _ _ _ _ _ _ _ _ hx hb k => by cases h; exact lv_lor hx hb hd k
theorem ms_lshl (hd : decode bytes pc = .ok (.lshl, 1)) : mx_Snd bytes nL y pc (25, a, b, L) :=
  ms_li (f := fun x y => .long (x <<< (y.toInt64 &&& 63))) (fun _ _ => rfl) (fun _ _ _ => rfl) fun _ _ _ _ _ _ _ _ _ _ _ _ _ _ _ _ _ _ _ hx hb k => lv_lshl hx hb hd rfl k
theorem ms_lshr (hd : decode bytes pc = .ok (.lshr, 1)) : mx_Snd bytes nL y pc (26, a, b, L) :=
  ms_li (f := fun x y => .long (x >>> (y.toInt64 &&& 63))) (fun _ _ => rfl) (fun _ _ _ => rfl) fun _ _ _ _ _ _ _ _ _ _ _ _ _ _ _ _ _ _ _ hx hb k => lv_lshr hx hb hd rfl k
theorem ms_lcmp (hd : decode bytes pc = .ok (.lcmp, 1)) : mx_Snd bytes nL y pc (27, a, b, L) :=
  ms_ll (f := fun x y => some (.int (lg_cmp x y))) (fun _ _ => rfl) (fun _ _ _ h _ => by cases h; rfl) fun _ _ _ h _ _ _ _ _ _ _ _ _ _ _ _ _ _ _ _ _ hx hb k => by cases h; exact W.lcmp hx hb hd k
theorem ms_i2l (hd : decode bytes pc = .ok (.i2l, 1)) : mx_Snd bytes nL y pc (28, a, b, L) :=
  ms_i1 (f := fun x => .long x.toInt64) (fun _ _ => rfl) (fun _ _ => rfl) fun _ _ _ _ _ _ _ _ _ _ _ _ _ _ _ _ _ _ hx hb k => lv_i2l hx hb hd rfl k
theorem ms_l2i (hd : decode bytes pc = .ok (.l2i, 1)) : mx_Snd bytes nL y pc (29, a, b, L) :=
  ms_l1 (f := fun x => .int x.toInt32) (fun _ _ => rfl) (fun _ _ => rfl) fun _ _ _ _ _ _ _ _ _ _ _ _ _ _ _ _ _ _ hx hb k => lv_l2i hx hb hd rfl k
theorem ms_i2b (hd : decode bytes pc = .ok (.i2b, 1)) : mx_Snd bytes nL y pc (30, a, b, L) :=
  ms_i1 (f := fun x => .int x.toInt8.toInt32) (fun _ _ => rfl) (fun _ _ => rfl) fun _ _ _ _ _ _ _ _ _ _ _ _ _ _ _ _ _ _ hx hb k => lv_i2b hx hb hd rfl k
theorem ms_i2s (hd : decode bytes pc = .ok (.i2s, 1)) : mx_Snd bytes nL y pc (31, a, b, L) :=
  ms_i1 (f := fun x => .int x.toInt16.toInt32) (fun _ _ => rfl) (fun _ _ => rfl) fun _ _ _ _ _ _ _ _ _ _ _ _ _ _ _ _ _ _ hx hb k => lv_i2s hx hb hd rfl k
theorem ms_i2c (hd : decode bytes pc = .ok (.i2c, 1)) : mx_Snd bytes nL y pc (32, a, b, L) :=
  ms_i1 (f := fun x => .int (x.toUInt32 % 65536).toInt32) (fun _ _ => rfl) (fun _ _ => rfl) fun _ _ _ _ _ _ _ _ _ _ _ _ _ _ _ _ _ _ hx hb k => lv_i2c hx hb hd rfl k
theorem ms_dup (hd : decode bytes pc = .ok (.dup, 1)) : mx_Snd bytes nL y pc (33, a, b, L) :=
  ms_plain fun SA c c' hop hpc => by
    have hop : mx_dup c = some c' := hop
    unfold mx_dup at hop
    split at hop
    · next v st hst =>
      cases h2 : mx_is2 v with
      | true => rw [h2] at hop; cases hop
      | false =>
        rw [h2] at hop
        have h := Option.some.inj hop
        subst h
        refine ⟨[v], [v, v], st, hst, rfl, rfl, rfl, fun G => ?_⟩
        subst hpc
        intro p l e R s m args below meth c0 Q H locs cells slots ls rest hx hb k
        exact lv_dup hx hb hd (by rw [mx_tr_cat]; exact mx_is2_cat h2) k
    · cases hop
theorem ms_pop (hd : decode bytes pc = .ok (.pop, 1)) : mx_Snd bytes nL y pc (34, a, b, L) :=
  ms_plain fun SA c c' hop hpc => by
    have hop : mx_pop c = some c' := hop
    unfold mx_pop at hop
    split at hop
    · next v st hst =>
      cases h2 : mx_is2 v with
      | true => rw [h2] at hop; cases hop
      | false =>
        rw [h2] at hop
        have h := Option.some.inj hop
        subst h
        refine ⟨[v], [], st, hst, rfl, rfl, rfl, fun G => ?_⟩
        subst hpc
        intro p l e R s m args below meth c0 Q H locs cells slots ls rest hx hb k
        exact lv_pop hx hb hd (by rw [mx_tr_cat]; exact mx_is2_cat h2) k
    · cases hop
theorem ms_dup2 (hd : decode bytes pc = .ok (.dup2, 1)) : mx_Snd bytes nL y pc (35, a, b, L) :=
  ms_plain fun SA c c' hop hpc => by
    have hop : mx_dup2 c = some c' := hop
    unfold mx_dup2 at hop
    split at hop
    · next v w st hst =>
      cases h2 : mx_is2 v with
      | true => rw [h2] at hop; cases hop
      | false =>
        cases h3 : mx_is2 w with
        | true => rw [h2, h3] at hop; cases hop
        | false =>
          rw [h2, h3] at hop
          have h := Option.some.inj hop
          subst h
          refine ⟨[v, w], [v, w, v, w], st, hst, rfl, rfl, rfl, fun G => ?_⟩
          subst hpc
          intro p l e R s m args below meth c0 Q H locs cells slots ls rest hx hb k
          exact lv_dup2_11 hx hb hd (by rw [mx_tr_cat]; exact mx_is2_cat h2) (by rw [mx_tr_cat]; exact mx_is2_cat h3) k
    · cases hop
/-- branches -/
theorem ms_if {i : mx_I} {f : Int32 → Bool} {t : Nat} (hi : ∀ (SA : mx_S) (c : mx_C), mx_op SA mx_SF mx_DF 14 i c = mx_if f t c) (row : ∀ x, mx_Row bytes pc (bif f x then t else pc + 3) [.int x] []) : mx_Snd bytes nL y pc i :=
  ms_plain fun SA c c' hop hpc => by
    rw [hi] at hop
    unfold mx_if at hop
    split at hop
    · next x st hst =>
      have h := Option.some.inj hop
      subst h
      subst hpc
      exact ⟨[.int x], [], st, hst, rfl, rfl, rfl, fun G => row x⟩
    · cases hop
theorem ms_if2 {i : mx_I} {f : Int32 → Int32 → Bool} {t : Nat} (hi : ∀ (SA : mx_S) (c : mx_C), mx_op SA mx_SF mx_DF 14 i c = mx_if2 f t c) (row : ∀ x z, mx_Row bytes pc (bif f x z then t else pc + 3) [.int z, .int x] []) : mx_Snd bytes nL y pc i :=
  ms_plain fun SA c c' hop hpc => by
    rw [hi] at hop
    unfold mx_if2 at hop
    split at hop
    · next z x st hst =>
      have h := Option.some.inj hop
      subst h
      subst hpc
      exact ⟨[.int z, .int x], [], st, hst, rfl, rfl, rfl, fun G => row x z⟩
    · cases hop
theorem mx_sel {t u : Nat} {P : Nat → Prop} {c : Bool} (k : P (bif c then t else u)) : (c = true → P t) ∧ (c = false → P u) := by
  cases c
  · exact ⟨fun h => (by cases h), fun _ => k⟩
  · exact ⟨fun _ => k, fun h => (by cases h)⟩
theorem ms_if_eq {off : Int} (hd : decode bytes pc = .ok (.ifCond .eq off, 3)) (ht : (pc : Int) + off = (a : Int)) : mx_Snd bytes nL y pc (36, a, b, L) :=
  ms_if (f := fun x => decide (x = 0)) (fun _ _ => rfl) fun x p l e R s m args below meth c0 Q H locs cells slots ls rest hx hb k => by
    have k2 := mx_sel (P := fun n => W p l e R s m args below meth c0 H locs cells slots Q (F0 m n ls rest)) (c := decide (x = 0)) (t := a) (u := pc + 3) k
    exact lv_if_eq hx hb hd ht (fun h => k2.1 (decide_eq_true h)) (fun h => k2.2 (decide_eq_false h))
theorem ms_if_ne {off : Int} (hd : decode bytes pc = .ok (.ifCond .ne off, 3)) (ht : (pc : Int) + off = (a : Int)) : mx_Snd bytes nL y pc (37, a, b, L) :=
  ms_if (f := fun x => !decide (x = 0)) (fun _ _ => rfl) fun x p l e R s m args below meth c0 Q H locs cells slots ls rest hx hb k => by
    have k2 := mx_sel (P := fun n => W p l e R s m args below meth c0 H locs cells slots Q (F0 m n ls rest)) (c := !decide (x = 0)) (t := a) (u := pc + 3) k
    exact lv_if_ne hx hb hd ht (fun h => k2.1 (by simp [h])) (fun h => k2.2 (by simpa using h))
theorem ms_if_lt {off : Int} (hd : decode bytes pc = .ok (.ifCond .lt off, 3)) (ht : (pc : Int) + off = (a : Int)) : mx_Snd bytes nL y pc (38, a, b, L) :=
  ms_if (f := fun x => decide (x < 0)) (fun _ _ => rfl) fun x p l e R s m args below meth c0 Q H locs cells slots ls rest hx hb k => by
    have k2 := mx_sel (P := fun n => W p l e R s m args below meth c0 H locs cells slots Q (F0 m n ls rest)) (c := decide (x < 0)) (t := a) (u := pc + 3) k
    exact lv_if_lt hx hb hd ht (fun h => k2.1 (decide_eq_true h)) (fun h => k2.2 (decide_eq_false h))
theorem ms_if_ge {off : Int} (hd : decode bytes pc = .ok (.ifCond .ge off, 3)) (ht : (pc : Int) + off = (a : Int)) : mx_Snd bytes nL y pc (39, a, b, L) :=
  ms_if (f := fun x => decide (0 ≤ x)) (fun _ _ => rfl) fun x p l e R s m args below meth c0 Q H locs cells slots ls rest hx hb k => by
    have k2 := mx_sel (P := fun n => W p l e R s m args below meth c0 H locs cells slots Q (F0 m n ls rest)) (c := decide (0 ≤ x)) (t := a) (u := pc + 3) k
    exact lv_if_ge hx hb hd ht (fun h => k2.1 (decide_eq_true h)) (fun h => k2.2 (decide_eq_false h))
theorem ms_if_gt {off : Int} (hd : decode bytes pc = .ok (.ifCond .gt off, 3)) (ht : (pc : Int) + off = (a : Int)) : mx_Snd bytes nL y pc (40, a, b, L) :=
  ms_if (f := fun x => decide (0 < x)) (fun _ _ => rfl) fun x p l e R s m args below meth c0 Q H locs cells slots ls rest hx hb k => by
    have k2 := mx_sel (P := fun n => W p l e R s m args below meth c0 H locs cells slots Q (F0 m n ls rest)) (c := decide (0 < x)) (t := a) (u := pc + 3) k
    exact lv_if_gt hx hb hd ht (fun h => k2.1 (decide_eq_true h)) (fun h => k2.2 (decide_eq_false h))
theorem ms_if_le {off : Int} (hd : decode bytes pc = .ok (.ifCond .le off, 3)) (ht : (pc : Int) + off = (a : Int)) : mx_Snd bytes nL y pc (41, a, b, L) :=
  ms_if (f := fun x => decide (x ≤ 0)) (fun _ _ => rfl) fun x p l e R s m args below meth c0 Q H locs cells slots ls rest hx hb k => by
    have k2 := mx_sel (P := fun n => W p l e R s m args below meth c0 H locs cells slots Q (F0 m n ls rest)) (c := decide (x ≤ 0)) (t := a) (u := pc + 3) k
    exact lv_if_le hx hb hd ht (fun h => k2.1 (decide_eq_true h)) (fun h => k2.2 (decide_eq_false h))
theorem ms_icmp_eq {off : Int} (hd : decode bytes pc = .ok (.if_icmp .eq off, 3)) (ht : (pc : Int) + off = (a : Int)) : mx_Snd bytes nL y pc (42, a, b, L) :=
  ms_if2 (f := fun x z => decide (x = z)) (fun _ _ => rfl) fun x z p l e R s m args below meth c0 Q H locs cells slots ls rest hx hb k => by
    have k2 := mx_sel (P := fun n => W p l e R s m args below meth c0 H locs cells slots Q (F0 m n ls rest)) (c := decide (x = z)) (t := a) (u := pc + 3) k
    exact lv_icmp_eq hx hb hd ht (fun h => k2.1 (decide_eq_true h)) (fun h => k2.2 (decide_eq_false h))
theorem ms_icmp_ne {off : Int} (hd : decode bytes pc = .ok (.if_icmp .ne off, 3)) (ht : (pc : Int) + off = (a : Int)) : mx_Snd bytes nL y pc (43, a, b, L) :=
  ms_if2 (f := fun x z => !decide (x = z)) (fun _ _ => rfl) fun x z p l e R s m args below meth c0 Q H locs cells slots ls rest hx hb k => by
    have k2 := mx_sel (P := fun n => W p l e R s m args below meth c0 H locs cells slots Q (F0 m n ls rest)) (c := !decide (x = z)) (t := a) (u := pc + 3) k
    exact lv_icmp_ne hx hb hd ht (fun h => k2.1 (by simp [h])) (fun h => k2.2 (by simpa using h))
theorem ms_icmp_lt {off : Int} (hd : decode bytes pc = .ok (.if_icmp .lt off, 3)) (ht : (pc : Int) + off = (a : Int)) : mx_Snd bytes nL y pc (44, a, b, L) :=
  ms_if2 (f := fun x z => decide (x < z)) (fun _ _ => rfl) fun x z p l e R s m args below meth c0 Q H locs cells slots ls rest hx hb k => by
    have k2 := mx_sel (P := fun n => W p l e R s m args below meth c0 H locs cells slots Q (F0 m n ls rest)) (c := decide (x < z)) (t := a) (u := pc + 3) k
    exact lv_icmp_lt hx hb hd ht (fun h => k2.1 (decide_eq_true h)) (fun h => k2.2 (decide_eq_false h))
theorem ms_icmp_ge {off : Int} (hd : decode bytes pc = .ok (.if_icmp .ge off, 3)) (ht : (pc : Int) + off = (a : Int)) : mx_Snd bytes nL y pc (45, a, b, L) :=
  ms_if2 (f := fun x z => decide (z ≤ x)) (fun _ _ => rfl) fun x z p l e R s m args below meth c0 Q H locs cells slots ls rest hx hb k => by
    have k2 := mx_sel (P := fun n => W p l e R s m args below meth c0 H locs cells slots Q (F0 m n ls rest)) (c := decide (z ≤ x)) (t := a) (u := pc + 3) k
    exact lv_icmp_ge hx hb hd ht (fun h => k2.1 (decide_eq_true h)) (fun h => k2.2 (decide_eq_false h))
theorem ms_icmp_gt {off : Int} (hd : decode bytes pc = .ok (.if_icmp .gt off, 3)) (ht : (pc : Int) + off = (a : Int)) : mx_Snd bytes nL y pc (46, a, b, L) :=
  ms_if2 (f := fun x z => decide (z < x)) (fun _ _ => rfl) fun x z p l e R s m args below meth c0 Q H locs cells slots ls rest hx hb k => by
    have k2 := mx_sel (P := fun n => W p l e R s m args below meth c0 H locs cells slots Q (F0 m n ls rest)) (c := decide (z < x)) (t := a) (u := pc + 3) k
    exact lv_icmp_gt hx hb hd ht (fun h => k2.1 (decide_eq_true h)) (fun h => k2.2 (decide_eq_false h))
theorem ms_icmp_le {off : Int} (hd : decode bytes pc = .ok (.if_icmp .le off, 3)) (ht : (pc : Int) + off = (a : Int)) : mx_Snd bytes nL y pc (47, a, b, L) :=
  ms_if2 (f := fun x z => decide (x ≤ z)) (fun _ _ => rfl) fun x z p l e R s m args below meth c0 Q H locs cells slots ls rest hx hb k => by
    have k2 := mx_sel (P := fun n => W p l e R s m args below meth c0 H locs cells slots Q (F0 m n ls rest)) (c := decide (x ≤ z)) (t := a) (u := pc + 3) k
    exact lv_icmp_le hx hb hd ht (fun h => k2.1 (decide_eq_true h)) (fun h => k2.2 (decide_eq_false h))
theorem ms_goto {off : Int} (hd : decode bytes pc = .ok (.goto off, 3)) (ht : (pc : Int) + off = (a : Int)) : mx_Snd bytes nL y pc (48, a, b, L) :=
  ms_plain fun SA c c' hop hpc => by
    have h := Option.some.inj (show some (a, c.2.1, c.2.2.1, c.2.2.2) = some c' from hop)
    subst h
    refine ⟨[], [], c.2.2.1, rfl, rfl, rfl, rfl, fun G => ?_⟩
    intro p l e R s m args below meth c0 Q H locs cells slots ls rest hx hb k
    exact lv_goto hx hb hd ht k
theorem ms_sw {i : mx_I} {f : Int32 → Nat} (hi : ∀ (SA : mx_S) (c : mx_C), mx_op SA mx_SF mx_DF 14 i c = mx_sw f c) (row : ∀ x, mx_Row bytes pc (f x) [.int x] []) : mx_Snd bytes nL y pc i :=
  ms_plain fun SA c c' hop hpc => by
    rw [hi] at hop
    unfold mx_sw at hop
    split at hop
    · next x st hst =>
      have h := Option.some.inj hop
      subst h
      subst hpc
      exact ⟨[.int x], [], st, hst, rfl, rfl, rfl, fun G => row x⟩
    · cases hop
/-- the targets of a table switch are the offsets' -/
def mx_offs (pc : Nat) : List Int → List Nat → Bool
  | [], [] => true
  | o :: os, t :: ts => decide ((pc : Int) + o = (t : Int)) && mx_offs pc os ts
  | _, _ => false
theorem mx_offs_at {pc : Nat} : ∀ {os : List Int} {ts : List Nat}, mx_offs pc os ts = true → ∀ {k t : Nat}, mx_nth ts k = some t → ∃ o, os[k]? = some o ∧ (pc : Int) + o = (t : Int)
  | [], [], _, k, t, h => by simp [mx_nth] at h
  | [], _ :: _, h, _, _, _ => by simp [mx_offs] at h
  | _ :: _, [], h, _, _, _ => by simp [mx_offs] at h
  | o :: os, u :: ts, h, k, t, hk => by
    simp only [mx_offs, Bool.and_eq_true, decide_eq_true_eq] at h
    cases k with
    | zero =>
      have hk : some u = some t := hk
      cases hk
      exact ⟨o, rfl, h.1⟩
    | succ k =>
      have hk : mx_nth ts k = some t := hk
      obtain ⟨o', h1, h2⟩ := mx_offs_at h.2 hk
      exact ⟨o', by simpa using h1, h2⟩
theorem mx_offs_len {pc : Nat} : ∀ {os : List Int} {ts : List Nat}, mx_offs pc os ts = true → os.length = ts.length
  | [], [], _ => rfl
  | [], _ :: _, h => by simp [mx_offs] at h
  | _ :: _, [], h => by simp [mx_offs] at h
  | o :: os, u :: ts, h => by
    simp only [mx_offs, Bool.and_eq_true, decide_eq_true_eq] at h
    simp [mx_offs_len h.2]
theorem mx_nth_none {α : Type} {l : List α} {n : Nat} (h : mx_nth l n = none) : l.length ≤ n := by
  rw [mx_nth_eq] at h
  simpa using h
theorem ms_tsw {dflt lo hi : Int} {offs : Array Int} {len : Nat} (hd : decode bytes pc = .ok (.tableswitch dflt lo hi offs, len)) (h1 : (pc : Int) + dflt = (a : Int)) (h2 : (Int32.ofNat b).toInt = lo) (h3 : mx_offs pc offs.toList L = true) (h4 : hi = lo + (L.length : Int) - 1) : mx_Snd bytes nL y pc (49, a, b, L) :=
  ms_sw (f := fun x => mx_tsw a (Int32.ofNat b).toInt L x.toInt) (fun _ _ => rfl) fun x p l e R s m args below meth c0 Q H locs cells slots ls rest hx hb k => by
    have k : W p l e R s m args below meth c0 H locs cells slots Q (F0 m (mx_tsw a (Int32.ofNat b).toInt L x.toInt) ls rest) := k
    rw [h2] at k
    unfold mx_tsw at k
    split at k
    · next n hn =>
      have hn : x.toInt - lo = (n : Int) := hn
      split at k
      · next t ht =>
        obtain ⟨o, e1, e2⟩ := mx_offs_at h3 ht
        have hlt : n < L.length := by
          rcases Nat.lt_or_ge n L.length with q | q
          · exact q
          · rw [mx_nth_eq, List.getElem?_eq_none q] at ht
            cases ht
        refine lv_tableIn (off := o) hx hb hd (by omega) (by omega) ?_ e2 k
        rw [hn]
        rw [← Array.getElem?_toList]
        exact e1
      · next ht =>
        have hge := mx_nth_none ht
        exact lv_tableOut hx hb hd (Or.inr (by omega)) h1 k
    · next n hn =>
      have hn : x.toInt - lo = Int.negSucc n := hn
      exact lv_tableOut hx hb hd (Or.inl (by omega)) h1 k
/-- a lookup switch: keys, offsets and targets -/
def mx_lks (pc : Nat) : List (Int × Int) → List Nat → Bool
  | [], [] => true
  | p :: ps, k :: t :: r => decide ((Int32.ofNat k).toInt = p.1) && (decide ((pc : Int) + p.2 = (t : Int)) && mx_lks pc ps r)
  | _, _ => false
theorem mx_lks_at {pc d : Nat} {dflt : Int} (hd : (pc : Int) + dflt = (d : Int)) (x : Int32) : ∀ {ps : List (Int × Int)} {ts : List Nat}, mx_lks pc ps ts = true → (pc : Int) + Op.lookupswitch.offset ps dflt x.toInt = (mx_lsw d x ts : Int)
  | [], [], _ => hd
  | [], _ :: _, h => by simp [mx_lks] at h
  | _ :: _, [], h => by simp [mx_lks] at h
  | _ :: _, [_], h => by simp [mx_lks] at h
  | p :: ps, k :: t :: r, h => by
    simp only [mx_lks, Bool.and_eq_true, decide_eq_true_eq] at h
    obtain ⟨q1, q2⟩ := p
    unfold mx_lsw
    by_cases hx : x = Int32.ofNat k
    · subst hx
      have e : Op.lookupswitch.offset ((q1, q2) :: ps) dflt (Int32.ofNat k).toInt = q2 := by
        rw [h.1]
        simp [Op.lookupswitch.offset]
      rw [e]
      simpa using h.2.1
    · have e := lv_osw (a := q1) (o := q2) (d := dflt) (r := ps) hx h.1
      rw [e]
      have hb : (x == Int32.ofNat k) = false := by simpa using hx
      rw [hb]
      exact mx_lks_at hd x h.2.2
theorem ms_lsw {dflt : Int} {ps : Array (Int × Int)} {len : Nat} (hd : decode bytes pc = .ok (.lookupswitch dflt ps, len)) (h1 : (pc : Int) + dflt = (a : Int)) (h2 : mx_lks pc ps.toList L = true) (h3 : (ps.toList.zip (ps.toList.drop 1)).all (fun (a, next) => a.1 < next.1) = true) : mx_Snd bytes nL y pc (50, a, b, L) :=
  ms_sw (f := fun x => mx_lsw a x L) (fun _ _ => rfl) fun x p l e R s m args below meth c0 Q H locs cells slots ls rest hx hb k =>
    lv_lookup hx hb hd h3 rfl (mx_lks_at h1 x h2) k
end MSW
end
section
section MSM
variable {bytes : ByteArray} {nL : Nat} {y : MethodName} {pc a b : Nat} {L : List Nat}
/-- what is known of a class -/
def mx_Cls (ci : Nat) (C : String) (T : u_T) (N : Nat) (ty : Nat → FieldType) : Prop :=
  vwCl[ci]? = some (C, T, N) ∧ (∀ w ∈ u_ws C T N, w ∈ mx_GT) ∧ (∀ k, k < N → parseFieldDescriptor (T k).2.2.1 = some (ty k)) ∧ ∀ a, a < N → ∀ b, b < N → a ≠ b → (T a).2.1 ≠ (T b).2.1
/-- how a class names a field: by a link of its own, or of its nest -/
def mx_fl (own : String) (idx : Nat) (q : String × String × String × Bool) (w : Nat) (host : Option String) : Prop := match host with
  | none => lw_tbl[w]? = some (.fieldLink own idx q.1 q.2.1 q.2.2.1)
  | some h => lw_tbl[w]? = some (.fieldLinkNest own idx q.1 q.2.1 q.2.2.1 h)
theorem mx_fl_nest {own : String} {idx : Nat} {q : String × String × String × Bool} {w : Nat} {h : String} (hl : mx_fl own idx q w (some h)) : Cond.fieldLinkNest own idx q.1 q.2.1 q.2.2.1 h ∈ mx_NT :=
  List.mem_filter.mpr ⟨List.mem_of_getElem? hl, rfl⟩
theorem mx_get_inv {ci k : Nat} {c c' : mx_C} (h : mx_get ci k c = some c') : ∃ q st fs v, c.2.2.1 = .ref q :: st ∧ c.2.2.2[q]? = some (.inl (ci, fs)) ∧ fs[k]? = some v ∧ c' = (c.1 + 3, c.2.1, v :: st, c.2.2.2) := by
  unfold mx_get at h
  split at h
  · next q st hst =>
    split at h
    · next cj fs hq =>
      cases hb : Nat.beq cj ci with
      | false => rw [hb] at h; cases h
      | true =>
        rw [hb] at h
        have := Nat.eq_of_beq_eq_true hb
        subst this
        simp only [cond_true] at h
        split at h
        · next v hv => exact ⟨q, st, fs, v, hst, by rw [← mx_nth_eq]; exact hq, by rw [← mx_nth_eq]; exact hv, (Option.some.inj h).symm⟩
        · cases h
    · cases h
  · cases h
theorem mx_len_lt {α : Type} {l : List α} {k : Nat} {x : α} (h : l[k]? = some x) : k < l.length := (List.getElem?_eq_some_iff.mp h).1
theorem ms_get {C : String} {T : u_T} {N : Nat} {ty : Nat → FieldType} {idx w : Nat} {host : Option String} (hC : mx_Cls a C T N ty) (hb' : b < N) (hl : mx_fl y.cls idx (T b) w host) (hd : decode bytes pc = .ok (.getfield idx, 3)) : mx_Snd bytes nL y pc (51, a, b, L) := by
  intro G SA p l e R s m args below meth c0 Q L0 S0 K c c' hpc _ _ _ _ hop hgo H locs ls h1 h2 hP hS hv
  obtain ⟨q, st, fs, v, e1, e2, e3, rfl⟩ := mx_get_inv hop
  obtain ⟨hx, hb, hml, hown, hts, -, hE, -, -, -⟩ := K
  have hq : q < 1000 := Nat.lt_of_lt_of_le (mx_len_lt e2) h1
  rw [hpc, e1, List.map_cons]
  show W p l e R s m args below meth c0 H locs _ _ Q (F0 m pc ls (.ref (mx_ad G q) :: _))
  rw [mx_ad_lt hq]
  have g := hgo H locs ls h1 h2 hP hS hv
  rw [hpc] at g
  cases host with
  | none =>
    exact va_get (own := y.cls) (ref := (T b).1) (index := idx) hx hb hts hC.2.1 hown hE.1 hP q (mx_W_get e2) hC.1 b hb' (hts _ (mx_gt w hl rfl)) (fun _ h => h) (v := mx_tr G v) (by rw [List.getElem?_map, e3]; rfl) hd g
  | some h =>
    exact va_getN (own := y.cls) (ref := (T b).1) (index := idx) (host := h) hx hb hts hC.2.1 hown hE.1 hP q (mx_W_get e2) hC.1 b hb' (va_Nw.use rfl (hE.2.1 _ (mx_fl_nest hl))) (fun _ h => h) (v := mx_tr G v) (by rw [List.getElem?_map, e3]; rfl) hd g
theorem mx_put_inv {ci k : Nat} {c c' : mx_C} (h : mx_put ci k c = some c') : ∃ q st fs v, c.2.2.1 = .int v :: .ref q :: st ∧ c.2.2.2[q]? = some (.inl (ci, fs)) ∧ k < fs.length ∧ c' = (c.1 + 3, c.2.1, st, c.2.2.2.set q (.inl (ci, fs.set k (.int v)))) := by
  unfold mx_put at h
  split at h
  · next v q st hst =>
    split at h
    · next cj fs hq =>
      cases hb : Nat.beq cj ci && Nat.blt k fs.length with
      | false => rw [hb] at h; cases h
      | true =>
        rw [hb] at h
        simp only [Bool.and_eq_true] at hb
        have := Nat.eq_of_beq_eq_true hb.1
        subst this
        exact ⟨q, st, fs, v, hst, by rw [← mx_nth_eq]; exact hq, Nat.le_of_ble_eq_true hb.2, (Option.some.inj h).symm⟩
    · cases h
  · cases h
theorem mx_putF_inv {ci k : Nat} {c c' : mx_C} (h : mx_putF ci k c = some c') : ∃ q st fs v, c.2.2.1 = .ref v :: .ref q :: st ∧ c.2.2.2[q]? = some (.inl (ci, fs)) ∧ k < fs.length ∧ c' = (c.1 + 3, c.2.1, st, c.2.2.2.set q (.inl (ci, fs.set k (.ref v)))) := by
  unfold mx_putF at h
  split at h
  · next v q st hst =>
    split at h
    · next cj fs hq =>
      cases hb : Nat.beq cj ci && Nat.blt k fs.length with
      | false => rw [hb] at h; cases h
      | true =>
        rw [hb] at h
        simp only [Bool.and_eq_true] at hb
        have := Nat.eq_of_beq_eq_true hb.1
        subst this
        exact ⟨q, st, fs, v, hst, by rw [← mx_nth_eq]; exact hq, Nat.le_of_ble_eq_true hb.2, (Option.some.inj h).symm⟩
    · cases h
  · cases h
/-- a cell changed -/
theorem mx_P_set {G : mx_G} {M : mx_M} {q : Nat} {e0 e : mx_E} {H H1 : Heap} (hP : va_P G.2.2.2 vwCl (mx_W G M) H) (h0 : M[q]? = some e0) (he : va_at G.2.2.2 vwCl (G.1 + q, mx_tE G e) H1) (oq : ∀ x : Nat, x ≠ G.1 + q → H1[x]? = H[x]?) : va_P G.2.2.2 vwCl (mx_W G (M.set q e)) H1 := by
  rw [← mx_W_set]
  exact hP.set (mx_W_D G M) (mx_W_get h0) he oq
theorem mx_A_in (G : mx_G) (q : Nat) : mx_A G (G.1 + q) := by
  show G.1 ≤ G.1 + q
  omega
/-- goes on behind a cell changed -/
theorem mx_Go_set {G : mx_G} {p : Program} {l : Launch} {e : Env} {R : Room} {s : State} {m : MethodId} {args : Array Value} {below : List Frame} {meth : Method} {c0 : Code} {Q : State → Prop} {L0 S0 n : Nat} {lv : mx_L} {st : List Value} {M : mx_M} {q : Nat} {e0 e1 : mx_E} {H : Heap} {locs : List Loc} {ls : Array Slot}
    (hgo : mx_Go nL G p l e R s m args below meth c0 Q L0 S0 (n, lv, st, M.set q e1)) (h1 : M.length ≤ 1000) (h2 : H.size = G.1 + M.length) (hP : va_P G.2.2.2 vwCl (mx_W G M) H) (hS : va_S (mx_A G) s.heap H locs) (hv : lv_has ls nL (lv.map (mx_tq G))) (h0 : M[q]? = some e0) (hsz : mx_szE e1 = mx_szE e0)
    {H1 : Heap} {k : Nat} (he : va_at G.2.2.2 vwCl (G.1 + q, mx_tE G e1) H1) (z : H1.size = H.size) (oq : ∀ x : Nat, x ≠ G.1 + q → H1[x]? = H[x]?) :
    W p l e R s m args below meth c0 H1 (locs ++ [⟨G.1 + q, k⟩]) (M.length - L0) (mx_sz M - S0) Q (F0 m n ls (st.map (mx_tr G))) := by
  have g := hgo H1 (locs ++ [⟨G.1 + q, k⟩]) ls (by rw [List.length_set]; exact h1) (by rw [List.length_set, z]; exact h2) (mx_P_set hP h0 he oq) (hS.put z oq (mx_A_in G q)) hv
  have e3 : (M.set q e1).length = M.length := List.length_set
  have e4 : mx_sz (M.set q e1) = mx_sz M := mx_sz_set h0 hsz
  have g2 : W p l e R s m args below meth c0 H1 (locs ++ [⟨G.1 + q, k⟩]) ((M.set q e1).length - L0) (mx_sz (M.set q e1) - S0) Q (F0 m n ls (st.map (mx_tr G))) := g
  rw [e3, e4] at g2
  exact g2
theorem ms_put {C : String} {T : u_T} {N : Nat} {ty : Nat → FieldType} {idx w : Nat} {host : Option String} (hC : mx_Cls a C T N ty) (hb' : b < N) (hl : mx_fl y.cls idx (T b) w host) (hf : (T b).2.2.2 = false) (hi : ty b = .int) (hd : decode bytes pc = .ok (.putfield idx, 3)) : mx_Snd bytes nL y pc (53, a, b, L) := by
  intro G SA p l e R s m args below meth c0 Q L0 S0 K c c' hpc _ _ _ _ hop hgo H locs ls h1 h2 hP hS hv
  obtain ⟨q, st, fs, v, e1, e2, e3, rfl⟩ := mx_put_inv hop
  obtain ⟨hx, hb, hml, hown, hts, -, hE, -, -, -⟩ := K
  have hq : q < 1000 := Nat.lt_of_lt_of_le (mx_len_lt e2) h1
  rw [hpc, e1, List.map_cons, List.map_cons]
  show W p l e R s m args below meth c0 H locs _ _ Q (F0 m pc ls (.int v :: .ref (mx_ad G q) :: _))
  rw [mx_ad_lt hq]
  rw [hpc] at hgo
  obtain ⟨r, hr1, cell, q1, q2, q3, q4⟩ := hP q _ (mx_W_get e2)
  have hr : r = (C, T, N) := Option.some.inj (hr1.symm.trans hC.1)
  subst hr
  obtain ⟨hSl, hfc, kC, hkC, hkind⟩ := hE.1.1 a _ hC.1
  obtain ⟨cf, kf, fi, f, hi', hsl⟩ := hSl b hb'
  have hap := va_apart (own := y.cls) hts hC.2.1 ty hC.2.2.1 hC.2.2.2 hE.1 hC.1
  have hlay := hts _ (hC.2.1 _ (u_in_lay hb'))
  unfold u_lay at hlay
  rw [if_neg (by rw [hf]; decide)] at hlay
  have hst := (u_facts hfc hkC (u_lays hts hC.2.1 hb') hi').1
  have h6 := u_store (v := .int v) (ty := .int) hfc hkC hkind hlay hi' (by rw [hC.2.2.1 b hb', hi]) rfl rfl
  have hkk : ∀ H' : Heap, H'[G.1 + q]? = some (cell.setSlot f.slot (.int v)) → H'.size = H.size → (∀ x, x ≠ G.1 + q → H'[x]? = H[x]?) → W p l e R s m args below meth c0 H' (locs ++ [⟨G.1 + q, f.slot⟩]) (c.2.2.2.length - L0) (mx_sz c.2.2.2 - S0) Q (F0 m (pc + 3) ls (st.map (mx_tr G))) := by
    intro H' g1 g2 g3
    refine mx_Go_set hgo h1 h2 hP hS hv e2 (by simp [mx_szE]) ?_ g2 g3
    rw [hsl] at g1
    have ht := t_OB.to (V := updV (vp_V (fs.map (mx_tr G))) b (.int v)) ⟨_, g1, q2, q3, t_set q4 hap hb' (.int v)⟩ (fun j _ => vp_updV_set (by rw [List.length_map]; exact e3) (.int v) j)
    refine ⟨_, hC.1, ?_⟩
    show t_OB _ _ _ _ _ (vp_V ((fs.set b (.int v)).map (mx_tr G)))
    rw [List.map_set]
    exact ht
  cases host with
  | none => exact W.putK hx hb (f := f) ⟨hown, hts _ (mx_gt w hl rfl), ⟨_, _, _, hi'⟩, hst⟩ (by rw [q2]; exact h6) q1 q3 (by rw [hsl]; exact k2_hasslot (q4 b hb')) rfl rfl hd hkk
  | some h => exact va_WputK hx hb (f := f) hown (va_Nw.use rfl (hE.2.1 _ (mx_fl_nest hl))) hi' hst (by rw [q2]; exact h6) q1 q3 (by rw [hsl]; exact k2_hasslot (q4 b hb')) rfl rfl hd hkk
/-- a field's type is a reference's -/
def mx_rt (t : FieldType) : Bool := match t with
  | .object _ => true
  | .array _ => true
  | _ => false
theorem mx_rt_fits {t : FieldType} (h : mx_rt t = true) (q : Nat) : narrow t (.ref q) = .ref q ∧ fits t (.ref q) = true := by
  cases t <;> first
    | (cases h; done)
    | exact ⟨rfl, rfl⟩
theorem ms_putF {C : String} {T : u_T} {N : Nat} {ty : Nat → FieldType} {idx w : Nat} (hC : mx_Cls a C T N ty) (hb' : b < N) (hl : mx_fl y.cls idx (T b) w none) (hf : (T b).2.2.2 = true) (hi : mx_rt (ty b) = true) (hn : y.name = "<init>") (hdc : (T b).1 = y.cls) (hd : decode bytes pc = .ok (.putfield idx, 3)) : mx_Snd bytes nL y pc (54, a, b, L) := by
  intro G SA p l e R s m args below meth c0 Q L0 S0 K c c' hpc _ _ _ _ hop hgo H locs ls h1 h2 hP hS hv
  obtain ⟨q, st, fs, v, e1, e2, e3, rfl⟩ := mx_putF_inv hop
  obtain ⟨hx, hb, hml, hown, hts, hnm, hE, -, -, -⟩ := K
  have hq : q < 1000 := Nat.lt_of_lt_of_le (mx_len_lt e2) h1
  rw [hpc, e1, List.map_cons, List.map_cons]
  show W p l e R s m args below meth c0 H locs _ _ Q (F0 m pc ls (.ref (mx_ad G v) :: .ref (mx_ad G q) :: _))
  rw [mx_ad_lt hq]
  rw [hpc] at hgo
  obtain ⟨r, hr1, cell, q1, q2, q3, q4⟩ := hP q _ (mx_W_get e2)
  have hr : r = (C, T, N) := Option.some.inj (hr1.symm.trans hC.1)
  subst hr
  obtain ⟨hSl, hfc, kC, hkC, hkind⟩ := hE.1.1 a _ hC.1
  obtain ⟨cf, kf, fi, f, hi', hsl⟩ := hSl b hb'
  have hap := va_apart (own := y.cls) hts hC.2.1 ty hC.2.2.1 hC.2.2.2 hE.1 hC.1
  have hlay := hts _ (hC.2.1 _ (u_in_lay hb'))
  unfold u_lay at hlay
  rw [if_pos hf] at hlay
  have hst := (u_facts hfc hkC (u_lays hts hC.2.1 hb') hi').1
  have hcf : m.cls = cf := by
    obtain ⟨_, _, c', _, _, _, -, -, hf', -, -, -, hown2, -⟩ := Cond.laysFinal_spec hlay
    have e1 : c' = cf := by have := hi'.symm.trans hf'; simp at this; exact this.1.symm
    rw [hdc] at hown2
    rw [← e1]; exact Option.some.inj (hown.symm.trans hown2)
  have h6 := u_fits (v := .ref (mx_ad G v)) hfc hkC hkind (Or.inr hlay) hi' (hC.2.2.1 b hb') (mx_rt_fits hi _).1 (mx_rt_fits hi _).2
  refine W.putFinK hx hb hown (hts _ (mx_gt w hl rfl)) hi' hst hcf (hnm hn) (by rw [q2]; exact h6) q1 q3 (by rw [hsl]; exact k2_hasslot (q4 b hb')) rfl rfl hd fun H' g1 g2 g3 => ?_
  refine mx_Go_set hgo h1 h2 hP hS hv e2 (by simp [mx_szE]) ?_ g2 g3
  rw [hsl] at g1
  have ht := t_OB.to (V := updV (vp_V (fs.map (mx_tr G))) b (.ref (mx_ad G v))) ⟨_, g1, q2, q3, t_set q4 hap hb' (.ref (mx_ad G v))⟩ (fun j _ => vp_updV_set (by rw [List.length_map]; exact e3) (.ref (mx_ad G v)) j)
  refine ⟨_, hC.1, ?_⟩
  show t_OB _ _ _ _ _ (vp_V ((fs.set b (.ref v)).map (mx_tr G)))
  rw [List.map_set]
  exact ht
/-- arrays -/
theorem mx_inb_in {i : Int32} {n : Nat} (h : mx_inb i n = true) : vp_in i n := by
  rw [vp_in_iff]
  unfold mx_inb at h
  split at h
  · next k hk =>
    have h := Nat.le_of_ble_eq_true h
    rw [hk]
    constructor
    · exact Int.natCast_nonneg k
    · show (k : Int) < n
      omega
  · cases h
theorem mx_ar_inv {SA : mx_S} {M : mx_M} {q t : Nat} {x : vp_A} (h : mx_ar SA M q = some (t, x)) : (1000 ≤ q ∧ SA (q - 1000) = some (t, x)) ∨ (q < 1000 ∧ M[q]? = some (.inr (t, x)) ∧ mx_kd t x = true) := by
  unfold mx_ar at h
  cases hb : Nat.ble 1000 q with
  | true =>
    rw [hb] at h
    exact Or.inl ⟨Nat.le_of_ble_eq_true hb, h⟩
  | false =>
    rw [hb] at h
    have hlt : q < 1000 := by
      rcases Nat.lt_or_ge q 1000 with z | z
      · exact z
      · rw [Nat.ble_eq_true_of_le z] at hb
        cases hb
    refine Or.inr ⟨hlt, ?_⟩
    simp only [cond_false] at h
    split at h
    · next u z hz =>
      cases hk : mx_kd u z with
      | false => rw [hk] at h; cases h
      | true =>
        rw [hk] at h
        cases h
        exact ⟨by rw [← mx_nth_eq, hz], hk⟩
    · cases h
theorem mx_kd_lt {t : Nat} {x : vp_A} (h : mx_kd t x = true) : t < 4 := by
  obtain ⟨n, f | f | f | f | f⟩ := x
  · have h : t < 3 := Nat.le_of_ble_eq_true h
    omega
  · have h := Nat.eq_of_beq_eq_true (show Nat.beq t 3 = true from h)
    omega
  · cases h
  · cases h
  · cases h
theorem mx_ad_st {G : mx_G} {q : Nat} (h : 1000 ≤ q) : mx_ad G q = G.2.1 (q - 1000) := by
  unfold mx_ad
  rw [if_neg (by omega)]
theorem ms_alen (hd : decode bytes pc = .ok (.arraylength, 1)) : mx_Snd bytes nL y pc (57, a, b, L) := by
  intro G SA p l e R s m args below meth c0 Q L0 S0 K c c' hpc _ _ _ _ hop hgo H locs ls h1 h2 hP hS hv
  have hop : mx_alen SA c = some c' := hop
  obtain ⟨hx, hb, hml, hown, hts, -, hE, -, -, -⟩ := K
  unfold mx_alen at hop
  split at hop
  · next q st hst =>
    split at hop
    · next t x hax =>
      have h := Option.some.inj hop
      subst h
      have g := hgo H locs ls h1 h2 hP hS hv
      rw [hpc] at g
      rw [hpc, hst, List.map_cons]
      show W p l e R s m args below meth c0 H locs _ _ Q (F0 m pc ls (.ref (mx_ad G q) :: _))
      rcases mx_ar_inv hax with ⟨z1, z2⟩ | ⟨z1, z2, z3⟩
      · rw [mx_ad_st z1]
        exact va_tlen hx hb (hE.2.2.1 _ _ _ z2).2 hS rfl hd g
      · rw [mx_ad_lt z1]
        exact va_alen hx hb hE.1 hP q t (mx_W_get z2) (mx_tys_at G (mx_kd_lt z3)) rfl hd g
    · cases hop
  · cases hop
theorem mx_ald_inv {SA : mx_S} {t : Nat} {c c' : mx_C} (h : mx_ald SA t c = some c') : ∃ i q st x, c.2.2.1 = .int i :: .ref q :: st ∧ mx_ar SA c.2.2.2 q = some (t, x) ∧ mx_inb i x.1 = true ∧ c' = (c.1 + 1, c.2.1, mx_con x i.toNatClampNeg :: st, c.2.2.2) := by
  unfold mx_ald at h
  split at h
  · next i q st hst =>
    split at h
    · next u x hax =>
      cases hq : Nat.beq u t && mx_inb i x.1 with
      | false => rw [hq] at h; cases h
      | true =>
        rw [hq] at h
        simp only [Bool.and_eq_true] at hq
        have hu := Nat.eq_of_beq_eq_true hq.1
        subst hu
        exact ⟨i, q, st, x, hst, hax, hq.2, (Option.some.inj h).symm⟩
    · cases h
  · cases h
theorem ms_ald (hd : (a = 0 ∧ decode bytes pc = .ok (.iaload, 1)) ∨ (a = 1 ∧ decode bytes pc = .ok (.baload, 1)) ∨ (a = 2 ∧ decode bytes pc = .ok (.baload, 1)) ∨ (a = 3 ∧ decode bytes pc = .ok (.laload, 1))) : mx_Snd bytes nL y pc (58, a, b, L) := by
  intro G SA p l e R s m args below meth c0 Q L0 S0 K c c' hpc _ _ _ _ hop hgo H locs ls h1 h2 hP hS hv
  obtain ⟨i, q, st, x, hst, hax, hq2, rfl⟩ := mx_ald_inv hop
  obtain ⟨hx, hb, hml, hown, hts, -, hE, -, -, -⟩ := K
  have hin := mx_inb_in hq2
  have g := hgo H locs ls h1 h2 hP hS hv
  rw [hpc] at g
  have g : W p l e R s m args below meth c0 H locs (c.2.2.2.length - L0) (mx_sz c.2.2.2 - S0) Q (F0 m (pc + 1) ls (mx_tr G (mx_con x i.toNatClampNeg) :: st.map (mx_tr G))) := g
  rw [mx_con_tr] at g
  rw [hpc, hst, List.map_cons, List.map_cons]
  show W p l e R s m args below meth c0 H locs _ _ Q (F0 m pc ls (.int i :: .ref (mx_ad G q) :: _))
  rcases mx_ar_inv hax with ⟨z1, z2⟩ | ⟨z1, z2, z3⟩
  · rw [mx_ad_st z1]
    have hT := (hE.2.2.1 _ _ _ z2).2
    rcases hd with ⟨rfl, hd⟩ | ⟨rfl, hd⟩ | ⟨rfl, hd⟩ | ⟨rfl, hd⟩
    · exact va_ti hx hb hT hS hin rfl hd g
    · exact va_tb hx hb hT hS hin rfl hd g
    · exact va_tz hx hb hT hS hin rfl hd g
    · exact va_tl hx hb hT hS hin rfl hd g
  · rw [mx_ad_lt z1]
    obtain ⟨n, f | f | f | f | f⟩ := x
    · rcases hd with ⟨rfl, hd⟩ | ⟨rfl, hd⟩ | ⟨rfl, hd⟩ | ⟨rfl, hd⟩
      · exact va_iald hx hb hE.1 hP q 0 (mx_W_get z2) (mx_tys_at G (by decide)) hin hd g
      · exact va_bald hx hb hE.1 hP q 1 (mx_W_get z2) (mx_tys_at G (by decide)) hin hd g
      · exact va_zald hx hb hE.1 hP q 2 (mx_W_get z2) (mx_tys_at G (by decide)) hin hd g
      · cases z3
    · rcases hd with ⟨rfl, hd⟩ | ⟨rfl, hd⟩ | ⟨rfl, hd⟩ | ⟨rfl, hd⟩
      · cases z3
      · cases z3
      · cases z3
      · exact va_lald hx hb hE.1 hP q 3 (mx_W_get z2) (mx_tys_at G (by decide)) hin hd g
    · cases z3
    · cases z3
    · cases z3
theorem mx_ast_inv {t : Nat} {c c' : mx_C} (h : mx_ast t c = some c') : ∃ v i q st n f, c.2.2.1 = .int v :: .int i :: .ref q :: st ∧ c.2.2.2[q]? = some (.inr (t, n, .inl f)) ∧ mx_inb i n = true ∧ c' = (c.1 + 1, c.2.1, st, c.2.2.2.set q (.inr (t, n, .inl (upd f i.toNatClampNeg (mx_nar t v))))) := by
  unfold mx_ast at h
  split at h
  · next v i q st hst =>
    split at h
    · next u n f hq =>
      cases hb : Nat.beq u t && mx_inb i n with
      | false => rw [hb] at h; cases h
      | true =>
        rw [hb] at h
        simp only [Bool.and_eq_true] at hb
        have := Nat.eq_of_beq_eq_true hb.1
        subst this
        exact ⟨v, i, q, st, n, f, hst, by rw [← mx_nth_eq]; exact hq, hb.2, (Option.some.inj h).symm⟩
    · cases h
  · cases h
theorem mx_last_inv {c c' : mx_C} (h : mx_last c = some c') : ∃ v i q st n f, c.2.2.1 = .long v :: .int i :: .ref q :: st ∧ c.2.2.2[q]? = some (.inr (3, n, .inr (.inl f))) ∧ mx_inb i n = true ∧ c' = (c.1 + 1, c.2.1, st, c.2.2.2.set q (.inr (3, n, .inr (.inl (vp_updL f i.toNatClampNeg v))))) := by
  unfold mx_last at h
  split at h
  · next v i q st hst =>
    split at h
    · next u n f hq =>
      cases hb : Nat.beq u 3 && mx_inb i n with
      | false => rw [hb] at h; cases h
      | true =>
        rw [hb] at h
        simp only [Bool.and_eq_true] at hb
        have := Nat.eq_of_beq_eq_true hb.1
        subst this
        exact ⟨v, i, q, st, n, f, hst, by rw [← mx_nth_eq]; exact hq, hb.2, (Option.some.inj h).symm⟩
    · cases h
  · cases h
theorem mx_upd_eq (f : Nat → Int32) (k : Nat) (x : Int32) : (fun j => Value.int (upd f k x j)) = updV (fun j => .int (f j)) k (.int x) := by
  funext j
  by_cases h : j = k
  · simp [upd, updV, h]
  · simp [upd, updV, h]
theorem mx_updL_eq (f : Nat → Int64) (k : Nat) (x : Int64) : (fun j => Value.long (vp_updL f k x j)) = updV (fun j => .long (f j)) k (.long x) := by
  funext j
  by_cases h : j = k
  · simp [vp_updL, updV, h]
  · simp [vp_updL, updV, h]
theorem mx_nar_eq (x : Int32) : narrow .byte (.int x) = .int (vp_nar .byte x) ∧ narrow .boolean (.int x) = .int (vp_nar .boolean x) := ⟨rfl, rfl⟩
theorem ms_ast (hd : (a = 0 ∧ decode bytes pc = .ok (.iastore, 1)) ∨ (a = 1 ∧ decode bytes pc = .ok (.bastore, 1)) ∨ (a = 2 ∧ decode bytes pc = .ok (.bastore, 1))) : mx_Snd bytes nL y pc (59, a, b, L) := by
  intro G SA p l e R s m args below meth c0 Q L0 S0 K c c' hpc _ _ _ _ hop hgo H locs ls h1 h2 hP hS hv
  obtain ⟨v, i, q, st, n, f, e1, e2, e3, rfl⟩ := mx_ast_inv hop
  obtain ⟨hx, hb, hml, hown, hts, -, hE, -, -, -⟩ := K
  have hq : q < 1000 := Nat.lt_of_lt_of_le (mx_len_lt e2) h1
  have hin := mx_inb_in e3
  rw [hpc, e1, List.map_cons, List.map_cons, List.map_cons]
  show W p l e R s m args below meth c0 H locs _ _ Q (F0 m pc ls (.int v :: .int i :: .ref (mx_ad G q) :: _))
  rw [mx_ad_lt hq]
  rw [hpc] at hgo
  have hsz : ¬ (i < 0 ∨ (vp_cell (G.2.2.1 a) (n, .inl f)).slots.size ≤ i.toNatClampNeg) := by
    show ¬ (i < 0 ∨ (arrV _ _ _).slots.size ≤ _)
    rw [arrV_size]
    exact hin
  have hat : ∀ (x : Int32) (H1 : Heap), H1[G.1 + q]? = some ((vp_cell (G.2.2.1 a) (n, .inl f)).setSlot i.toNatClampNeg (.int x)) → va_at G.2.2.2 vwCl (G.1 + q, mx_tE G (.inr (a, n, .inl (upd f i.toNatClampNeg x)))) H1 := by
    intro x H1 g
    show H1[G.1 + q]? = some (vp_cell (G.2.2.1 a) (n, .inl (upd f i.toNatClampNeg x)))
    rw [g, vp_cell_i, vp_cell_i, arrV_store, mx_upd_eq]
  rcases hd with ⟨rfl, hd⟩ | ⟨rfl, hd⟩ | ⟨rfl, hd⟩
  · exact W.iast hx hb (hP q _ (mx_W_get e2)) ((hE.1.2 0 _ (mx_tys_at G (by decide))).1 n (fun j => .int (f j))) (fun z => by cases z) hsz rfl rfl hd fun H1 g z oq => mx_Go_set hgo h1 h2 hP hS hv e2 rfl (hat v H1 g) z oq
  · exact W.bast hx hb (hP q _ (mx_W_get e2)) ((hE.1.2 1 _ (mx_tys_at G (by decide))).1 n (fun j => .int (f j))) (fun z => by cases z) hsz rfl rfl hd fun H1 g z oq => mx_Go_set hgo h1 h2 hP hS hv e2 rfl (hat (vp_nar .byte v) H1 g) z oq
  · exact W.zast hx hb (hP q _ (mx_W_get e2)) ((hE.1.2 2 _ (mx_tys_at G (by decide))).1 n (fun j => .int (f j))) (fun z => by cases z) hsz rfl rfl hd fun H1 g z oq => mx_Go_set hgo h1 h2 hP hS hv e2 rfl (hat (vp_nar .boolean v) H1 g) z oq
theorem ms_last (hd : decode bytes pc = .ok (.lastore, 1)) : mx_Snd bytes nL y pc (60, a, b, L) := by
  intro G SA p l e R s m args below meth c0 Q L0 S0 K c c' hpc _ _ _ _ hop hgo H locs ls h1 h2 hP hS hv
  obtain ⟨v, i, q, st, n, f, e1, e2, e3, rfl⟩ := mx_last_inv hop
  obtain ⟨hx, hb, hml, hown, hts, -, hE, -, -, -⟩ := K
  have hq : q < 1000 := Nat.lt_of_lt_of_le (mx_len_lt e2) h1
  have hin := mx_inb_in e3
  rw [hpc, e1, List.map_cons, List.map_cons, List.map_cons]
  show W p l e R s m args below meth c0 H locs _ _ Q (F0 m pc ls (.long v :: .int i :: .ref (mx_ad G q) :: _))
  rw [mx_ad_lt hq]
  rw [hpc] at hgo
  have hsz : ¬ (i < 0 ∨ (vp_cell (G.2.2.1 3) (n, .inr (.inl f))).slots.size ≤ i.toNatClampNeg) := by
    show ¬ (i < 0 ∨ (arrV _ _ _).slots.size ≤ _)
    rw [arrV_size]
    exact hin
  refine W.last hx hb (hP q _ (mx_W_get e2)) ((hE.1.2 3 _ (mx_tys_at G (by decide))).1 n (fun j => .long (f j))) (fun z => by cases z) hsz rfl rfl hd fun H1 g z oq => mx_Go_set hgo h1 h2 hP hS hv e2 rfl ?_ z oq
  show H1[G.1 + q]? = some (vp_cell (G.2.2.1 3) (n, .inr (.inl (vp_updL f i.toNatClampNeg v))))
  rw [g, vp_cell_l, vp_cell_l, arrV_store, mx_updL_eq]
end MSM
end
section
section MSN
variable {bytes : ByteArray} {nL : Nat} {y : MethodName} {pc a b : Nat} {L : List Nat}
/-- how a static field is named -/
theorem ms_gets {q : mx_F} {idx w : Nat} {host : Option String} (hq : mx_SF[a]? = some q) (hl : mx_fl y.cls idx (q.1, q.2.1, q.2.2.1, false) w host) (hd : decode bytes pc = .ok (.getstatic idx, 3)) : mx_Snd bytes nL y pc (55, a, b, L) := by
  intro G SA p l e R s m args below meth c0 Q L0 S0 K c c' hpc _ _ _ _ hop hgo H locs ls h1 h2 hP hS hv
  have hop : (match mx_nth mx_SF a with
    | some q => mx_push q.2.2.2 3 c
    | none => none) = some c' := hop
  rw [mx_nth_eq, hq] at hop
  have h := Option.some.inj hop
  subst h
  obtain ⟨hx, hb, hml, hown, hts, -, hE, -, -, -⟩ := K
  have g := hgo H locs ls h1 h2 hP hS hv
  rw [hpc] at g
  rw [hpc]
  have hZ := hE.2.2.2.1 q (List.mem_of_getElem? hq)
  cases host with
  | none => exact va_gets (own := y.cls) (ref := q.1) (index := idx) hx hb hZ hS hown (hts _ (mx_gt w hl rfl)) (fun _ h => h) hd g
  | some h => exact va_getsN (own := y.cls) (ref := q.1) (host := h) (index := idx) hx hb hZ hS hown (va_Nw.use rfl (hE.2.1 _ (mx_fl_nest hl))) (fun _ h => h) hd g
theorem ms_ldcS {idx : Nat} {tx : String} (hq : mx_SR[a]? = some (y.cls, idx, tx)) (hd : decode bytes pc = .ok (.ldc idx, 2)) : mx_Snd bytes nL y pc (56, a, b, L) := by
  intro G SA p l e R s m args below meth c0 Q L0 S0 K c c' hpc _ _ _ _ hop hgo H locs ls h1 h2 hP hS hv
  have ha : a < 14 := (List.getElem?_eq_some_iff.mp hq).1
  have hop : (bif Nat.blt a 14 then mx_push (.ref (1100 + a)) 2 c else none) = some c' := hop
  have hbl : Nat.blt a 14 = true := Nat.ble_eq_true_of_le ha
  rw [hbl] at hop
  have h := Option.some.inj hop
  subst h
  obtain ⟨hx, hb, hml, hown, hts, -, hE, -, -, -⟩ := K
  have g := hgo H locs ls h1 h2 hP hS hv
  rw [hpc] at g
  rw [hpc]
  have hR := (hE.2.2.2.2 a _ hq).1
  have ea : mx_ad G (1100 + a) = G.2.1 (100 + a) := by
    rw [show 1100 + a = 1000 + (100 + a) by omega]
    exact mx_ad_ge
  have g : W p l e R s m args below meth c0 H locs (c.2.2.2.length - L0) (mx_sz c.2.2.2 - S0) Q (F0 m (pc + 2) ls (.ref (mx_ad G (1100 + a)) :: c.2.2.1.map (mx_tr G))) := g
  rw [ea] at g
  exact va_ldcS hx hb hown hR hd g
theorem mx_gs_ar {q N : Nat} (z1 : 1100 ≤ q) (z2 : q < 1100 + N) : q = 1100 + (q - 1100) ∧ q - 1100 < N ∧ 1200 + (q - 1100) = q + 100 := ⟨by omega, by omega, by omega⟩
theorem mx_gstr_inv {k N : Nat} {c c' : mx_C} (h : mx_gstr k N c = some c') : ∃ i st, i < N ∧ c.2.2.1 = .ref (1100 + i) :: st ∧ c' = (c.1 + 3, c.2.1, (bif Nat.beq k 0 then .ref (1200 + i) else .int 0) :: st, c.2.2.2) := by
  unfold mx_gstr at h
  split at h
  · next q st hst =>
    cases hb : Nat.ble 1100 q && Nat.blt q (1100 + N) with
    | false => rw [hb] at h; cases h
    | true =>
      rw [hb] at h
      simp only [Bool.and_eq_true] at hb
      have z1 : 1100 ≤ q := Nat.le_of_ble_eq_true hb.1
      have z2 : q < 1100 + N := Nat.le_of_ble_eq_true hb.2
      obtain ⟨e, e2, e3⟩ := mx_gs_ar z1 z2
      refine ⟨q - 1100, st, e2, by rw [← e]; exact hst, ?_⟩
      rw [e3]
      exact (Option.some.inj h).symm
  · cases h
theorem ms_gstr {idx w : Nat} (ha : (a = 0 ∧ lw_tbl[w]? = some (.fieldLink y.cls idx "java/lang/String" "value" "[B")) ∨ (a = 1 ∧ lw_tbl[w]? = some (.fieldLink y.cls idx "java/lang/String" "coder" "B"))) (hd : decode bytes pc = .ok (.getfield idx, 3)) : mx_Snd bytes nL y pc (52, a, b, L) := by
  intro G SA p l e R s m args below meth c0 Q L0 S0 K c c' hpc _ _ _ _ hop hgo H locs ls h1 h2 hP hS hv
  obtain ⟨i, st, hi, e1, rfl⟩ := mx_gstr_inv hop
  obtain ⟨hx, hb, hml, hown, hts, -, hE, -, -, -⟩ := K
  have hi14 : i < mx_SR.length := hi
  obtain ⟨-, -, hco, hva⟩ := hE.2.2.2.2 i _ (List.getElem?_eq_getElem hi14)
  have g := hgo H locs ls h1 h2 hP hS hv
  rw [hpc] at g
  rw [hpc, e1, List.map_cons]
  have ea : mx_ad G (1100 + i) = G.2.1 (100 + i) := by
    rw [show 1100 + i = 1000 + (100 + i) by omega]
    exact mx_ad_ge
  have ea2 : mx_ad G (1200 + i) = G.2.1 (200 + i) := by
    rw [show 1200 + i = 1000 + (200 + i) by omega]
    exact mx_ad_ge
  show W p l e R s m args below meth c0 H locs _ _ Q (F0 m pc ls (.ref (mx_ad G (1100 + i)) :: _))
  rw [ea]
  rcases ha with ⟨rfl, hl⟩ | ⟨rfl, hl⟩
  · have g : W p l e R s m args below meth c0 H locs (c.2.2.2.length - L0) (mx_sz c.2.2.2 - S0) Q (F0 m (pc + 3) ls (.ref (mx_ad G (1200 + i)) :: st.map (mx_tr G))) := g
    rw [ea2] at g
    exact vk_getf (own := y.cls) (ref := "java/lang/String") (index := idx) hx hb hva hS hown (hts _ (mx_gt w hl rfl)) (fun _ h => h) hd g
  · exact vk_getf (own := y.cls) (ref := "java/lang/String") (index := idx) hx hb hco hS hown (hts _ (mx_gt w hl rfl)) (fun _ h => h) hd g
/-- new objects -/
theorem mx_new_inv {ci : Nat} {fs : List Value} {c c' : mx_C} (h : mx_new ci fs c = some c') : c.2.2.2.length < 999 ∧ c' = (c.1 + 3, c.2.1, .ref c.2.2.2.length :: c.2.2.1, c.2.2.2 ++ [.inl (ci, fs)]) := by
  unfold mx_new at h
  cases hb : Nat.blt c.2.2.2.length 999 with
  | false => rw [hb] at h; cases h
  | true =>
    rw [hb] at h
    exact ⟨Nat.le_of_ble_eq_true hb, (Option.some.inj h).symm⟩
theorem mx_plain_fs {G : mx_G} {fs : List Value} (h : fs.all (fun v => match v with | .int _ => true | .null => true | _ => false) = true) : fs.map (mx_tr G) = fs := by
  have h2 := List.all_eq_true.mp h
  conv => rhs; rw [← List.map_id fs]
  apply List.map_congr_left
  intro v hv
  have h3 := h2 v hv
  cases v <;> first
    | rfl
    | cases h3
theorem ms_new {C : String} {T : u_T} {N : Nat} {ty : Nat → FieldType} {idx : Nat} {fs : List Value} (w1 w2 w3 : Nat) (hC : mx_Cls a C T N ty) (hf : mx_DF[a]? = some fs) (hlen : fs.length = N) (hp : fs.all (fun v => match v with | .int _ => true | .null => true | _ => false) = true) (hdv : ∀ j, j < N → defaultValue (ty j) = vp_V fs j)
    (h1 : lw_tbl[w1]? = some (.classLink y.cls idx C)) (h2 : lw_tbl[w2]? = some (.instantiable C N)) (h3 : lw_tbl[w3]? = some (.initialized C)) (hd : decode bytes pc = .ok (.new idx, 3)) : mx_Snd bytes nL y pc (61, a, b, L) := by
  intro G SA p l e R s m args below meth c0 Q L0 S0 K c c' hpc z1 z2 z3 z4 hop hgo H locs ls g1 g2 hP hS hv
  have hop : (match mx_nth mx_DF a with
    | some fs => mx_new a fs c
    | none => none) = some c' := hop
  rw [mx_nth_eq, hf] at hop
  obtain ⟨hl, rfl⟩ := mx_new_inv hop
  obtain ⟨hx, hb, hml, hown, hts, -, hE, hbs, -, -⟩ := K
  have hKn := hE.1.1 a _ hC.1
  have zl : (c.2.2.2 ++ [Sum.inl (a, fs)]).length = c.2.2.2.length + 1 := by simp
  have zs : mx_sz (c.2.2.2 ++ [Sum.inl (a, fs)]) = mx_sz c.2.2.2 + N := by rw [mx_sz_app]; show _ + fs.length = _; rw [hlen]
  have z3' : (c.2.2.2 ++ [Sum.inl (a, fs)]).length ≤ R.cells + L0 := z3
  have z4' : mx_sz (c.2.2.2 ++ [Sum.inl (a, fs)]) ≤ R.slots + S0 := z4
  rw [zl] at z3'
  rw [zs] at z4'
  rw [hpc]
  refine W.newcK (own := y.cls) (C := C) (index := idx) (n := N) hx hb hown (hts _ (mx_gt w1 h1 rfl)) (hts _ (mx_gt w2 h2 rfl)) (hts _ (mx_gt w3 h3 rfl)) rfl hd (by omega) (by omega) hKn.2.1 g2 fun H1 kC hkC e1 q1 o1 => ?_
  have hk : ∀ (k : Nat) (x : Nat × va_E), (mx_W G c.2.2.2)[k]? = some x → H1[x.1]? = H[x.1]? := fun k x hx' => o1 x.1 (by rw [← g2]; exact (hP k x hx').lt)
  have hP1 : va_P G.2.2.2 vwCl (mx_W G (c.2.2.2 ++ [.inl (a, fs)])) H1 := by
    rw [mx_W_app]
    refine (hP.kept hk).app (fun k x hx' => ?_)
    have hz : k < 1 := (List.getElem?_eq_some_iff.mp hx').1
    rw [show k = 0 by omega] at hx'
    cases hx'
    refine ⟨_, hC.1, ?_⟩
    show t_OB _ _ _ _ _ (vp_V (fs.map (mx_tr G)))
    rw [mx_plain_fs hp]
    exact (u_born ty hts hC.2.1 hKn hkC e1 hC.2.2.1).to hdv
  have hS1 : va_S (mx_A G) s.heap H1 locs := ⟨Nat.le_trans hS.1 (by omega), fun x u1 u2 => (o1 x (by rw [← g2]; exact Nat.lt_of_lt_of_le u1 hS.1)).trans (hS.2.1 x u1 u2), hS.2.2⟩
  have g := hgo H1 locs ls (by rw [zl]; omega) (by rw [zl, q1]; omega) hP1 hS1 hv
  have g : W p l e R s m args below meth c0 H1 locs ((c.2.2.2 ++ [Sum.inl (a, fs)]).length - L0) (mx_sz (c.2.2.2 ++ [Sum.inl (a, fs)]) - S0) Q (F0 m (c.1 + 3) ls (.ref (mx_ad G c.2.2.2.length) :: c.2.2.1.map (mx_tr G))) := g
  rw [zl, zs, mx_ad_lt (by omega), hpc, Nat.sub_add_comm z1, Nat.sub_add_comm z2] at g
  exact g
theorem mx_newa_inv {t : Nat} {c c' : mx_C} (h : mx_newa t c = some c') : ∃ n st, mx_inb n 2000 = true ∧ c.2.2.2.length < 999 ∧ c.2.2.1 = .int n :: st ∧ c' = (c.1 + 2, c.2.1, .ref c.2.2.2.length :: st, c.2.2.2 ++ [.inr (t, mx_zero t n.toNatClampNeg)]) := by
  unfold mx_newa at h
  split at h
  · next n st hst =>
    cases hb : mx_inb n 2000 && Nat.blt c.2.2.2.length 999 with
    | false => rw [hb] at h; cases h
    | true =>
      rw [hb] at h
      simp only [Bool.and_eq_true] at hb
      exact ⟨n, st, hb.1, Nat.le_of_ble_eq_true hb.2, hst, (Option.some.inj h).symm⟩
  · cases h
theorem mx_zero_len (t n : Nat) : (mx_zero t n).1 = n := by
  unfold mx_zero
  split <;> rfl
theorem mx_zero_cell {t : Nat} (ht : t < 4) (cA : ClassId) (n : Nat) : vp_cell cA (mx_zero t n) = arrV cA n (fun _ => defaultValue (mx_ty t)) := by
  match t, ht with
  | 0, _ => rfl
  | 1, _ => rfl
  | 2, _ => rfl
  | 3, _ => rfl
theorem mx_RA {U : State} {cA : ClassId} {t : Nat} (h : va_RA U cA (mx_ty t)) : U.vm.findClass ("[" ++ (mx_ty t).toString) = some cA := by
  match t, h with
  | 0, h => exact h
  | 1, h => exact h
  | 2, h => exact h
  | t + 3, h => exact h
theorem ms_newa {at' : ArrayType} (w : Nat) (ht : a < 4) (hty : newarray.typeOf at' = mx_ty a) (hw : lw_tbl[w]? = some (.arrayClass (mx_ty a))) (hcb : componentBytes (mx_ty a) ≤ 8) (hd : decode bytes pc = .ok (.newarray at', 2)) : mx_Snd bytes nL y pc (62, a, b, L) := by
  intro G SA p l e R s m args below meth c0 Q L0 S0 K c c' hpc z1 z2 z3 z4 hop hgo H locs ls g1 g2 hP hS hv
  obtain ⟨n, st, hn, hl, e1, rfl⟩ := mx_newa_inv hop
  obtain ⟨hx, hb, hml, hown, hts, -, hE, hbs, -, -⟩ := K
  have hin := mx_inb_in hn
  have hn0 : ¬ n < 0 := fun z => hin (Or.inl z)
  have hn1 : n.toNatClampNeg < 2000 := Nat.not_le.mp fun z => hin (Or.inr z)
  have zl : (c.2.2.2 ++ [Sum.inr (a, mx_zero a n.toNatClampNeg)]).length = c.2.2.2.length + 1 := by simp
  have zs : mx_sz (c.2.2.2 ++ [Sum.inr (a, mx_zero a n.toNatClampNeg)]) = mx_sz c.2.2.2 + n.toNatClampNeg := by rw [mx_sz_app]; show _ + (mx_zero a n.toNatClampNeg).1 = _; rw [mx_zero_len]
  have z3' : (c.2.2.2 ++ [Sum.inr (a, mx_zero a n.toNatClampNeg)]).length ≤ R.cells + L0 := z3
  have z4' : mx_sz (c.2.2.2 ++ [Sum.inr (a, mx_zero a n.toNatClampNeg)]) ≤ R.slots + S0 := z4
  rw [zl] at z3'
  rw [zs] at z4'
  rw [hpc, e1, List.map_cons]
  have hbytes : n.toNatClampNeg * componentBytes (newarray.typeOf at') ≤ 536870912 := by
    rw [hty]
    have := Nat.mul_le_mul (Nat.le_of_lt hn1) hcb
    omega
  refine va_newaK hx hb (atype := at') (by rw [hty]; exact hts _ (mx_gt w hw rfl)) rfl hd rfl hn0 rfl hbytes (by omega) (by omega) g2 fun H1 cA q0 q1 o1 hAr hNm => ?_
  rw [hty] at q0 hAr hNm
  have hcA : cA = G.2.2.1 a := by
    have h5 := mx_RA (hE.1.2 a _ (mx_tys_at G ht)).2
    exact Option.some.inj (hNm.symm.trans h5)
  subst hcA
  have hk : ∀ (k : Nat) (x : Nat × va_E), (mx_W G c.2.2.2)[k]? = some x → H1[x.1]? = H[x.1]? := fun k x hx' => o1 x.1 (by rw [← g2]; exact (hP k x hx').lt)
  have hP1 : va_P G.2.2.2 vwCl (mx_W G (c.2.2.2 ++ [.inr (a, mx_zero a n.toNatClampNeg)])) H1 := by
    rw [mx_W_app]
    refine (hP.kept hk).app (fun k x hx' => ?_)
    have hz : k < 1 := (List.getElem?_eq_some_iff.mp hx').1
    rw [show k = 0 by omega] at hx'
    cases hx'
    show H1[G.1 + c.2.2.2.length]? = some (vp_cell _ _)
    rw [mx_zero_cell ht]
    exact q0
  have hS1 : va_S (mx_A G) s.heap H1 locs := ⟨Nat.le_trans hS.1 (by omega), fun x u1 u2 => (o1 x (by rw [← g2]; exact Nat.lt_of_lt_of_le u1 hS.1)).trans (hS.2.1 x u1 u2), hS.2.2⟩
  have g := hgo H1 locs ls (by rw [zl]; omega) (by rw [zl, q1]; omega) hP1 hS1 hv
  have g : W p l e R s m args below meth c0 H1 locs ((c.2.2.2 ++ [Sum.inr (a, mx_zero a n.toNatClampNeg)]).length - L0) (mx_sz (c.2.2.2 ++ [Sum.inr (a, mx_zero a n.toNatClampNeg)]) - S0) Q (F0 m (c.1 + 2) ls (.ref (mx_ad G c.2.2.2.length) :: st.map (mx_tr G))) := g
  rw [zl, zs, mx_ad_lt (by omega), hpc, Nat.sub_add_comm z1, Nat.sub_add_comm z2] at g
  exact g
theorem mx_cat_eq (G : mx_G) : ∀ st : List Value, ((st.map (mx_tr G)).map fun v => v.category).sum = mx_cat st
  | [] => rfl
  | v :: st => by
    simp only [List.map_cons, List.sum_cons, mx_cat, mx_tr_cat]
    rw [mx_cat_eq G st]
    cases v <;> rfl
theorem ms_obj {idx : Nat} (w1 w2 w3 : Nat) (h1 : lw_tbl[w1]? = some (.methodLink y.cls idx Lib.objectInit)) (h2 : lw_tbl[w2]? = some (.instanceMethod Lib.objectInit)) (h3 : lw_tbl[w3]? = some (.code Lib.objectInit ⟨#[0xb1]⟩ 1 none)) (hd : decode bytes pc = .ok (.invokespecial idx, 3)) : mx_Snd bytes nL y pc (63, a, b, L) := by
  intro G SA p l e R s m args below meth c0 Q L0 S0 K c c' hpc z1 z2 z3 z4 hop hgo H locs ls g1 g2 hP hS hv
  have hop : mx_obj c = some c' := hop
  obtain ⟨hx, hb, hml, hown, hts, -, hE, hbs, hfr, hlo⟩ := K
  unfold mx_obj at hop
  split at hop
  · next q st hst =>
    cases hc : Nat.ble (mx_cat st) 8 with
    | false => rw [hc] at hop; cases hop
    | true =>
      rw [hc] at hop
      have h := Option.some.inj hop
      subst h
      have hcat := Nat.le_of_ble_eq_true hc
      have g := hgo H locs ls g1 g2 hP hS hv
      rw [hpc] at g
      rw [hpc, hst, List.map_cons]
      refine W.objInit (own := y.cls) (idx := idx) hx hb hown (hts _ (mx_gt w1 h1 rfl)) (hts _ (mx_gt w2 h2 rfl)) (hts _ (mx_gt w3 h3 rfl)) rfl (hv.1.trans hml.symm) (a := mx_ad G q) (rest := st.map (mx_tr G)) rfl hd hfr ?_ g
      rw [mx_cat_eq]
      show 2 * 0 + _ + 12 ≤ _
      omega
  · cases hop
theorem mx_ia_inv {M : mx_M} {q : Nat} {f : Nat × (Nat → Int32)} (h : mx_ia M q = some f) : M[q]? = some (.inr (0, f.1, .inl f.2)) := by
  unfold mx_ia at h
  split at h
  · next t n f' hq =>
    cases hb : Nat.beq t 0 with
    | false => rw [hb] at h; cases h
    | true =>
      rw [hb] at h
      have := Nat.eq_of_beq_eq_true hb
      subst this
      cases h
      rw [← mx_nth_eq]
      exact hq
  · cases h
theorem mx_copy_inv {c c' : mx_C} (h : mx_copy c = some c') : ∃ n dp q1 sp q0 st f g, c.2.2.1 = .int n :: .int dp :: .ref q1 :: .int sp :: .ref q0 :: st ∧ mx_ia c.2.2.2 q0 = some f ∧ mx_ia c.2.2.2 q1 = some g ∧ mx_inb sp 2000 = true ∧ mx_inb dp 2000 = true ∧ mx_inb n 2000 = true ∧ sp.toNatClampNeg + n.toNatClampNeg ≤ f.1 ∧ dp.toNatClampNeg + n.toNatClampNeg ≤ g.1 ∧ mx_cat st ≤ 8 ∧
    c' = (c.1 + 3, c.2.1, st, c.2.2.2.set q1 (.inr (0, g.1, .inl (va_cpy f.2 g.2 sp.toNatClampNeg dp.toNatClampNeg n.toNatClampNeg)))) := by
  unfold mx_copy at h
  split at h
  · next n dp q1 sp q0 st hst =>
    split at h
    · next f hf =>
      split at h
      · next g hg =>
        cases hb : mx_inb sp 2000 && (mx_inb dp 2000 && (mx_inb n 2000 && (Nat.ble (sp.toNatClampNeg + n.toNatClampNeg) f.1 && (Nat.ble (dp.toNatClampNeg + n.toNatClampNeg) g.1 && Nat.ble (mx_cat st) 8)))) with
        | false => rw [hb] at h; cases h
        | true =>
          rw [hb] at h
          simp only [Bool.and_eq_true] at hb
          obtain ⟨b1, b2, b3, b4, b5, b6⟩ := hb
          exact ⟨n, dp, q1, sp, q0, st, f, g, hst, hf, hg, b1, b2, b3, Nat.le_of_ble_eq_true b4, Nat.le_of_ble_eq_true b5, Nat.le_of_ble_eq_true b6, (Option.some.inj h).symm⟩
      · cases h
    · cases h
  · cases h
theorem ms_copy {idx : Nat} (w1 w2 w3 w4 : Nat) (hw1 : lw_tbl[w1]? = some (.methodLink y.cls idx arraycopyName)) (hw2 : lw_tbl[w2]? = some (.native arraycopyName)) (hw3 : lw_tbl[w3]? = some (.static arraycopyName)) (hw4 : lw_tbl[w4]? = some (.initialized "java/lang/System")) (hd : decode bytes pc = .ok (.invokestatic idx, 3)) : mx_Snd bytes nL y pc (64, a, b, L) := by
  intro G SA p l e R s m args below meth c0 Q L0 S0 K c c' hpc z1 z2 z3 z4 hop hgo H locs ls g1 g2 hP hS hv
  obtain ⟨n, dp, q1, sp, q0, st, f, g, e1, e2, e3, b1, b2, b3, b4, b5, b6, rfl⟩ := mx_copy_inv hop
  obtain ⟨hx, hb, hml, hown, hts, -, hE, hbs, hfr, hlo⟩ := K
  have ha0 := mx_ia_inv e2
  have ha1 := mx_ia_inv e3
  have hq0 : q0 < 1000 := Nat.lt_of_lt_of_le (mx_len_lt ha0) g1
  have hq1 : q1 < 1000 := Nat.lt_of_lt_of_le (mx_len_lt ha1) g1
  have h1 : ¬ sp < 0 := fun z => mx_inb_in b1 (Or.inl z)
  have h2 : ¬ dp < 0 := fun z => mx_inb_in b2 (Or.inl z)
  have h3 : ¬ n < 0 := fun z => mx_inb_in b3 (Or.inl z)
  rw [hpc, e1]
  simp only [List.map_cons]
  show W p l e R s m args below meth c0 H locs _ _ Q (F0 m pc ls (.int n :: .int dp :: .ref (mx_ad G q1) :: .int sp :: .ref (mx_ad G q0) :: _))
  rw [mx_ad_lt hq0, mx_ad_lt hq1]
  have nn : ∀ z : Int32, ¬ z < 0 → z.toInt = (z.toNatClampNeg : Int) := by
    intro z hz
    have hz0 : (0 : Int) ≤ z.toInt := by
      have := Int32.not_lt.mp hz
      simpa using Int32.le_iff_toInt_le.mp this
    show z.toInt = ((z.toInt.toNat : Nat) : Int)
    omega
  have hml' : c0.maxLocals = ls.size := hml.trans hv.1.symm
  intro T hT X
  have hc0 : H[G.1 + q0]? = some (vp_cell (G.2.2.1 0) (f.1, .inl f.2)) := hP q0 _ (mx_W_get ha0)
  have hc1 : H[G.1 + q1]? = some (vp_cell (G.2.2.1 0) (g.1, .inl g.2)) := hP q1 _ (mx_W_get ha1)
  have hT0 := mx_tys_at G (t := 0) (by decide)
  obtain ⟨-, k0, hk0, cm0, hkk0⟩ := (hE.1.2 0 _ hT0).1 f.1 (fun j => .int (f.2 j))
  obtain ⟨-, k1, hk1, cm1, hkk1⟩ := (hE.1.2 0 _ hT0).1 g.1 (fun j => .int (g.2 j))
  obtain ⟨vm', X', step⟩ := X.arraycopy hx hown (hts _ (mx_gt w1 hw1 rfl)) (hts _ (mx_gt w2 hw2 rfl)) (hts _ (mx_gt w3 hw3 rfl)) (hts _ (mx_gt w4 hw4 rfl)) (src := G.1 + q0) (dst := G.1 + q1) (cs := vp_cell (G.2.2.1 0) (f.1, .inl f.2)) (cd := vp_cell (G.2.2.1 0) (g.1, .inl g.2)) (srcPos := sp) (destPos := dp) (n := n) (by rw [hT]; exact hc0) (by rw [hT]; exact hc1)
    (fun _ h => by cases h) (fun _ h => by cases h) (fun h => by cases h) (fun h => by cases h) hk0 hk1 hkk0 hkk1 (by simp [refKind, mx_ty]) h1 h2 h3
    (by rw [nn sp h1, nn n h3]; show ¬ _ > ((arrV _ f.1 (fun j => .int (f.2 j))).slots.size : Int); rw [arrV_size]; omega)
    (by rw [nn dp h2, nn n h3]; show ¬ _ > ((arrV _ g.1 (fun j => .int (g.2 j))).slots.size : Int); rw [arrV_size]; omega)
    (fun vm₁ _ i hi => by
      have e : (vp_cell (G.2.2.1 0) (f.1, .inl f.2)).slots.getD (sp.toNatClampNeg + i) .null = .int (f.2 (sp.toNatClampNeg + i)) := by
        show (arrV _ f.1 (fun j => .int (f.2 j))).slots.getD _ _ = _
        rw [Array.getD_eq_getD_getElem?, arrV_read _ _ (by omega)]
        rfl
      refine ⟨?_, ?_⟩
      · rw [e]
        rfl
      · rw [e]
        exact trivial)
    (g := F0 m pc ls (.int n :: .int dp :: .ref (G.1 + q1) :: .int sp :: .ref (G.1 + q0) :: st.map (mx_tr G))) rfl (by rw [hml']) (rest := st.map (mx_tr G)) rfl (by rw [hb]; exact hd) hfr (by
      rw [mx_cat_eq]
      show 2 * 0 + _ + (nativeFrameWords "java/lang/System" "arraycopy" 5 + 11) ≤ _
      have : nativeFrameWords "java/lang/System" "arraycopy" 5 ≤ 20 := by decide
      omega)
  have e9 : copied (vp_cell (G.2.2.1 0) (f.1, .inl f.2)) (vp_cell (G.2.2.1 0) (g.1, .inl g.2)) sp dp n = vp_cell (G.2.2.1 0) (g.1, .inl (va_cpy f.2 g.2 sp.toNatClampNeg dp.toNatClampNeg n.toNatClampNeg)) := va_copied (fun z => .int z) _ _ f.2 g.2 b4
  rw [e9] at X' step
  have hl : G.1 + q1 < H.size := (Array.getElem?_eq_some_iff.mp hc1).1
  have hheap : ((T.setVm vm').setCell (G.1 + q1) (vp_cell (G.2.2.1 0) (g.1, .inl (va_cpy f.2 g.2 sp.toNatClampNeg dp.toNatClampNeg n.toNatClampNeg)))).heap = H.setIfInBounds (G.1 + q1) (vp_cell (G.2.2.1 0) (g.1, .inl (va_cpy f.2 g.2 sp.toNatClampNeg dp.toNatClampNeg n.toNatClampNeg))) := by rw [← hT]; rfl
  have oq : ∀ x : Nat, x ≠ G.1 + q1 → (H.setIfInBounds (G.1 + q1) (vp_cell (G.2.2.1 0) (g.1, .inl (va_cpy f.2 g.2 sp.toNatClampNeg dp.toNatClampNeg n.toNatClampNeg))))[x]? = H[x]? := fun x hx' => by simp [Array.getElem?_setIfInBounds, Ne.symm hx']
  have zl : (c.2.2.2.set q1 (.inr (0, g.1, .inl (va_cpy f.2 g.2 sp.toNatClampNeg dp.toNatClampNeg n.toNatClampNeg)))).length = c.2.2.2.length := List.length_set
  have zs : mx_sz (c.2.2.2.set q1 (.inr (0, g.1, .inl (va_cpy f.2 g.2 sp.toNatClampNeg dp.toNatClampNeg n.toNatClampNeg)))) = mx_sz c.2.2.2 := mx_sz_set ha1 rfl
  have gg : ∀ locs1 : List Loc, va_S (mx_A G) s.heap (H.setIfInBounds (G.1 + q1) (vp_cell (G.2.2.1 0) (g.1, .inl (va_cpy f.2 g.2 sp.toNatClampNeg dp.toNatClampNeg n.toNatClampNeg)))) locs1 → W p l e R s m args below meth c0 (H.setIfInBounds (G.1 + q1) (vp_cell (G.2.2.1 0) (g.1, .inl (va_cpy f.2 g.2 sp.toNatClampNeg dp.toNatClampNeg n.toNatClampNeg)))) locs1 (c.2.2.2.length - L0) (mx_sz c.2.2.2 - S0) Q (F0 m (pc + 3) ls (st.map (mx_tr G))) := by
    intro locs1 hS1
    have g5 := hgo _ locs1 ls (by rw [zl]; exact g1) (by rw [zl, Array.size_setIfInBounds]; exact g2) (mx_P_set hP ha1 (show (H.setIfInBounds (G.1 + q1) _)[G.1 + q1]? = some _ by simp [Array.getElem?_setIfInBounds, hl]) oq) hS1 hv
    have g6 : W p l e R s m args below meth c0 _ locs1 ((c.2.2.2.set q1 (.inr (0, g.1, .inl (va_cpy f.2 g.2 sp.toNatClampNeg dp.toNatClampNeg n.toNatClampNeg)))).length - L0) (mx_sz (c.2.2.2.set q1 (.inr (0, g.1, .inl (va_cpy f.2 g.2 sp.toNatClampNeg dp.toNatClampNeg n.toNatClampNeg)))) - S0) Q (F0 m (c.1 + 3) ls (st.map (mx_tr G))) := g5
    rw [zl, zs, hpc] at g6
    exact g6
  obtain ⟨t, a1, b1'⟩ := gg _ ⟨by simp; exact hS.1, fun x u1 u2 => by
      rw [oq x (fun e => u2 (by rw [e]; exact mx_A_in G q1))]
      exact hS.2.1 x u1 u2, fun x hx' => by
      rcases List.mem_append.mp hx' with h | h
      · exact hS.2.2 x h
      · obtain ⟨z, -, hz⟩ := List.mem_map.mp h
        rw [← hz]
        exact mx_A_in G q1⟩ _ hheap X'
  exact ⟨t, step t a1, b1'⟩
theorem mx_mm_inv {f : Int32 → Int32 → Int32} {c c' : mx_C} (h : mx_mm f c = some c') : ∃ x y st, mx_cat st ≤ 8 ∧ c.2.2.1 = .int y :: .int x :: st ∧ c' = (c.1 + 3, c.2.1, .int (f x y) :: st, c.2.2.2) := by
  unfold mx_mm at h
  split at h
  · next y x st hst =>
    cases hb : Nat.ble (mx_cat st) 8 with
    | false => rw [hb] at h; cases h
    | true =>
      rw [hb] at h
      exact ⟨x, y, st, Nat.le_of_ble_eq_true hb, hst, (Option.some.inj h).symm⟩
  · cases h
theorem ms_max {idx : Nat} (w1 w2 w3 w4 : Nat) (hw1 : lw_tbl[w1]? = some (.methodLink y.cls idx Lib.Math.max.name)) (hw2 : lw_tbl[w2]? = some (.static Lib.Math.max.name)) (hw3 : lw_tbl[w3]? = some (.initialized "java/lang/Math")) (hw4 : lw_tbl[w4]? = some (.code Lib.Math.max.name Lib.Math.max.code 2 (some .int))) (hd : decode bytes pc = .ok (.invokestatic idx, 3)) : mx_Snd bytes nL y pc (65, a, b, L) := by
  intro G SA p l e R s m args below meth c0 Q L0 S0 K c c' hpc z1 z2 z3 z4 hop hgo H locs ls g1 g2 hP hS hv
  obtain ⟨x, y', st, hc, hst, rfl⟩ := mx_mm_inv (f := fun x y => if x < y then y else x) hop
  obtain ⟨hx, hb, hml, hown, hts, -, hE, hbs, hfr, hlo⟩ := K
  have g := hgo H locs ls g1 g2 hP hS hv
  rw [hpc] at g
  rw [hpc, hst, List.map_cons, List.map_cons]
  have z3' : c.2.2.2.length ≤ R.cells + L0 := z3
  have z4' : mx_sz c.2.2.2 ≤ R.slots + S0 := z4
  exact va_mmax (own := y.cls) (index := idx) hx hb (hml.trans hv.1.symm) hown (hts _ (mx_gt w1 hw1 rfl)) (hts _ (mx_gt w2 hw2 rfl)) (hts _ (mx_gt w3 hw3 rfl)) (hts _ (mx_gt w4 hw4 rfl)) hfr (by rw [mx_cat_eq]; omega) (by omega) (by omega) hd g
theorem ms_min {idx : Nat} (w1 w2 w3 w4 : Nat) (hw1 : lw_tbl[w1]? = some (.methodLink y.cls idx Lib.Math.min.name)) (hw2 : lw_tbl[w2]? = some (.static Lib.Math.min.name)) (hw3 : lw_tbl[w3]? = some (.initialized "java/lang/Math")) (hw4 : lw_tbl[w4]? = some (.code Lib.Math.min.name Lib.Math.min.code 2 (some .int))) (hd : decode bytes pc = .ok (.invokestatic idx, 3)) : mx_Snd bytes nL y pc (66, a, b, L) := by
  intro G SA p l e R s m args below meth c0 Q L0 S0 K c c' hpc z1 z2 z3 z4 hop hgo H locs ls g1 g2 hP hS hv
  obtain ⟨x, y', st, hc, hst, rfl⟩ := mx_mm_inv (f := fun x y => if y < x then y else x) hop
  obtain ⟨hx, hb, hml, hown, hts, -, hE, hbs, hfr, hlo⟩ := K
  have g := hgo H locs ls g1 g2 hP hS hv
  rw [hpc] at g
  rw [hpc, hst, List.map_cons, List.map_cons]
  have z3' : c.2.2.2.length ≤ R.cells + L0 := z3
  have z4' : mx_sz c.2.2.2 ≤ R.slots + S0 := z4
  exact va_mmin (own := y.cls) (index := idx) hx hb (hml.trans hv.1.symm) hown (hts _ (mx_gt w1 hw1 rfl)) (hts _ (mx_gt w2 hw2 rfl)) (hts _ (mx_gt w3 hw3 rfl)) (hts _ (mx_gt w4 hw4 rfl)) hfr (by rw [mx_cat_eq]; omega) (by omega) (by omega) hd g
end MSN
end
section
/-! THE SMALL MACHINE RUNS -/
def mx_find (pc : Nat) : List (Nat × mx_I) → Option mx_I
  | [] => none
  | (k, i) :: r => bif Nat.beq k pc then some i else mx_find pc r
def mx_fetch (t : List (List (Nat × mx_I))) (pc : Nat) : Option mx_I := match mx_nth t (pc / 16) with
  | some ch => mx_find pc ch
  | none => none
theorem mx_find_mem {pc : Nat} {i : mx_I} : ∀ {l : List (Nat × mx_I)}, mx_find pc l = some i → (pc, i) ∈ l
  | [], h => by simp [mx_find] at h
  | (k, j) :: r, h => by
    unfold mx_find at h
    cases hb : Nat.beq k pc with
    | true =>
      rw [hb] at h
      have := Nat.eq_of_beq_eq_true hb
      subst this
      cases h
      exact List.mem_cons_self
    | false =>
      rw [hb] at h
      exact List.mem_cons_of_mem _ (mx_find_mem h)
theorem mx_fetch_mem {t : List (List (Nat × mx_I))} {pc : Nat} {i : mx_I} (h : mx_fetch t pc = some i) : ∃ ch ∈ t, (pc, i) ∈ ch := by
  unfold mx_fetch at h
  split at h
  · next ch hch => exact ⟨ch, List.mem_of_getElem? (by rw [← mx_nth_eq]; exact hch), mx_find_mem h⟩
  · cases h
/-- what a method's answer must fit: 0 any int, 1 a byte, 2 a boolean, 3 a char -/
def mx_fit (a : Nat) (v : Int32) : Bool := match a with
  | 0 => true
  | 1 => vp_nar .byte v == v
  | 2 => vp_nar .boolean v == v
  | _ => vp_nar .char v == v
def mx_ret (i : mx_I) (st : List Value) : Option (Option Value) := match i.1 with
  | 80 => (match st with
    | [.int v] => bif mx_fit i.2.1 v then some (some (.int v)) else none
    | _ => none)
  | 81 => (match st with
    | [.long v] => some (some (.long v))
    | _ => none)
  | 82 => (match st with
    | [.ref v] => some (some (.ref v))
    | _ => none)
  | 83 => (match st with
    | [] => some none
    | _ => none)
  | _ => none
/-- the receiver is of the class that is asked for (98: any, 99: a string) -/
def mx_rcv1 (ci : Nat) (as : List Value) (M : mx_M) : Bool := match as with
  | .ref b :: _ => bif Nat.beq ci 98 then true else bif Nat.beq ci 99 then Nat.ble 1100 b && Nat.blt b 1114 else (match mx_nth M b with
    | some (.inl (cj, _)) => Nat.beq cj ci
    | _ => false)
  | _ => false
def mx_rcv (L : List Nat) (as : List Value) (M : mx_M) : Bool := match L with
  | [] => true
  | ci :: _ => mx_rcv1 ci as M
def mx_one (call : Nat → List Value → mx_M → Option Value → mx_M → Prop) (op : mx_I → mx_C → Option mx_C) (i : mx_I) (c : mx_C) (K : mx_C → Prop) (Kr : Option Value → mx_M → Prop) : Prop :=
  (i.1 < 70 ∧ ∃ c', op i c = some c' ∧ K c') ∨
  (i.1 = 70 ∧ ∃ (as rest : List Value) (r : Option Value) (M' : mx_M), c.2.2.1 = as.reverse ++ rest ∧ as.length = i.2.2.1 ∧ mx_cat rest ≤ 8 ∧ mx_rcv i.2.2.2 as c.2.2.2 = true ∧ call i.2.1 as c.2.2.2 r M' ∧ K (c.1 + 3, c.2.1, r.toList ++ rest, M')) ∨
  (80 ≤ i.1 ∧ ∃ r, mx_ret i c.2.2.1 = some r ∧ Kr r c.2.2.2)
def mx_run (call : Nat → List Value → mx_M → Option Value → mx_M → Prop) (op : mx_I → mx_C → Option mx_C) (t : List (List (Nat × mx_I))) : Nat → mx_C → Option Value → mx_M → Prop
  | 0, _, _, _ => False
  | n + 1, c, r, M => ∃ i, mx_fetch t c.1 = some i ∧ mx_one call op i c (fun c' => mx_run call op t n c' r M) (fun r' M' => r' = r ∧ M' = M)
/-- a method run from its start to its end, with calls less than d deep: the method's number, its arguments, the memory; what it answers, the memory behind it -/
def mx_Ev (SA : mx_S) (code : Nat → Nat × List (List (Nat × mx_I))) : Nat → Nat → List Value → mx_M → Option Value → mx_M → Prop
  | 0, _, _, _, _, _ => False
  | d + 1, k, as, M, r, M' => mx_cat as ≤ (code k).1 ∧ M.length ≤ 1000 ∧ ∃ n, mx_run (mx_Ev SA code d) (mx_op SA mx_SF mx_DF 14) (code k).2 n (0, lv_args 0 as, [], M) r M'
/-! memory only grows -/
theorem mm_dup {c c' : mx_C} (h : mx_dup c = some c') : c'.2.2.2 = c.2.2.2 := by
  unfold mx_dup at h
  split at h
  · next v st hst =>
    cases hb : mx_is2 v with
    | true => rw [hb] at h; cases h
    | false => rw [hb] at h; cases h; rfl
  · cases h
theorem mm_pop {c c' : mx_C} (h : mx_pop c = some c') : c'.2.2.2 = c.2.2.2 := by
  unfold mx_pop at h
  split at h
  · next v st hst =>
    cases hb : mx_is2 v with
    | true => rw [hb] at h; cases h
    | false => rw [hb] at h; cases h; rfl
  · cases h
theorem mm_dup2 {c c' : mx_C} (h : mx_dup2 c = some c') : c'.2.2.2 = c.2.2.2 := by
  unfold mx_dup2 at h
  split at h
  · next v w st hst =>
    cases hb : mx_is2 v || mx_is2 w with
    | true => rw [hb] at h; cases h
    | false => rw [hb] at h; cases h; rfl
  · cases h
theorem mm_alen {SA : mx_S} {c c' : mx_C} (h : mx_alen SA c = some c') : c'.2.2.2 = c.2.2.2 := by
  unfold mx_alen at h
  split at h
  · split at h
    · cases h; rfl
    · cases h
  · cases h
theorem mm_obj {c c' : mx_C} (h : mx_obj c = some c') : c'.2.2.2 = c.2.2.2 := by
  unfold mx_obj at h
  split at h
  · next q st hst =>
    cases hb : Nat.ble (mx_cat st) 8 with
    | true => rw [hb] at h; cases h; rfl
    | false => rw [hb] at h; cases h
  · cases h
theorem mm_push {v : Value} {n : Nat} {c c' : mx_C} (h : mx_push v n c = some c') : c'.2.2.2 = c.2.2.2 := by
  have h := Option.some.inj h
  subst h
  rfl
theorem mm_if {f : Int32 → Bool} {t : Nat} {c c' : mx_C} (h : mx_if f t c = some c') : c'.2.2.2 = c.2.2.2 := by
  unfold mx_if at h
  split at h
  · cases h; rfl
  · cases h
theorem mm_if2 {f : Int32 → Int32 → Bool} {t : Nat} {c c' : mx_C} (h : mx_if2 f t c = some c') : c'.2.2.2 = c.2.2.2 := by
  unfold mx_if2 at h
  split at h
  · cases h; rfl
  · cases h
theorem mm_sw {f : Int32 → Nat} {c c' : mx_C} (h : mx_sw f c = some c') : c'.2.2.2 = c.2.2.2 := by
  unfold mx_sw at h
  split at h
  · cases h; rfl
  · cases h
theorem mm_inc {a d : Nat} {c c' : mx_C} (h : mx_inc a d c = some c') : c'.2.2.2 = c.2.2.2 := by
  unfold mx_inc at h
  split at h
  · cases h; rfl
  · cases h
/-- how an instruction may change the memory -/
def mx_Mv (M M' : mx_M) : Prop := M' = M ∨ (∃ (q : Nat) (e0 e1 : mx_E), M[q]? = some e0 ∧ mx_szE e1 = mx_szE e0 ∧ M' = M.set q e1) ∨ (∃ e : mx_E, M.length < 999 ∧ M' = M ++ [e])
theorem mx_Mv.mono {M M' : mx_M} (h : mx_Mv M M') : (M.length ≤ M'.length ∧ mx_sz M ≤ mx_sz M') ∧ (M.length ≤ 1000 → M'.length ≤ 1000) := by
  rcases h with rfl | ⟨q, e0, e1, h0, hs, rfl⟩ | ⟨e, hl, rfl⟩
  · exact ⟨⟨Nat.le_refl _, Nat.le_refl _⟩, id⟩
  · rw [List.length_set, mx_sz_set h0 hs]
    exact ⟨⟨Nat.le_refl _, Nat.le_refl _⟩, id⟩
  · rw [mx_sz_app, List.length_append]
    exact ⟨⟨by simp, by omega⟩, fun _ => by simp; omega⟩
theorem mx_op_mv {SA : mx_S} {SF : List mx_F} {DF : List (List Value)} {N : Nat} {i : mx_I} {c c' : mx_C} (h : mx_op SA SF DF N i c = some c') : mx_Mv c.2.2.2 c'.2.2.2 := by
  unfold mx_op at h
  split at h
  · exact Or.inl (mm_push h)
  · exact Or.inl (mm_push h)
  · obtain ⟨v, -, -, rfl⟩ := mx_ldi_inv h; exact Or.inl rfl
  · obtain ⟨v, -, -, rfl⟩ := mx_ldl_inv h; exact Or.inl rfl
  · obtain ⟨v, -, -, rfl⟩ := mx_lda_inv h; exact Or.inl rfl
  · obtain ⟨v, st, -, -, rfl⟩ := mx_sti_inv h; exact Or.inl rfl
  · obtain ⟨v, st, -, -, rfl⟩ := mx_stl_inv h; exact Or.inl rfl
  · obtain ⟨v, st, -, -, rfl⟩ := mx_sta_inv h; exact Or.inl rfl
  · exact Or.inl (mm_inc h)
  · obtain ⟨x, z, v, st, -, -, rfl⟩ := mx_ii_inv h; exact Or.inl rfl
  · obtain ⟨x, z, v, st, -, -, rfl⟩ := mx_ii_inv h; exact Or.inl rfl
  · obtain ⟨x, z, v, st, -, -, rfl⟩ := mx_ii_inv h; exact Or.inl rfl
  · obtain ⟨x, z, v, st, -, -, rfl⟩ := mx_ii_inv h; exact Or.inl rfl
  · obtain ⟨x, z, v, st, -, -, rfl⟩ := mx_ii_inv h; exact Or.inl rfl
  · obtain ⟨x, z, v, st, -, -, rfl⟩ := mx_ii_inv h; exact Or.inl rfl
  · obtain ⟨x, z, v, st, -, -, rfl⟩ := mx_ii_inv h; exact Or.inl rfl
  · obtain ⟨x, st, -, rfl⟩ := mx_i1_inv h; exact Or.inl rfl
  · obtain ⟨x, z, v, st, -, -, rfl⟩ := mx_ii_inv h; exact Or.inl rfl
  · obtain ⟨x, z, v, st, -, -, rfl⟩ := mx_ii_inv h; exact Or.inl rfl
  · obtain ⟨x, z, v, st, -, -, rfl⟩ := mx_ll_inv h; exact Or.inl rfl
  · obtain ⟨x, z, v, st, -, -, rfl⟩ := mx_ll_inv h; exact Or.inl rfl
  · obtain ⟨x, z, v, st, -, -, rfl⟩ := mx_ll_inv h; exact Or.inl rfl
  · obtain ⟨x, z, v, st, -, -, rfl⟩ := mx_ll_inv h; exact Or.inl rfl
  · obtain ⟨x, z, v, st, -, -, rfl⟩ := mx_ll_inv h; exact Or.inl rfl
  · obtain ⟨x, z, v, st, -, -, rfl⟩ := mx_ll_inv h; exact Or.inl rfl
  · obtain ⟨x, z, st, -, rfl⟩ := mx_li_inv h; exact Or.inl rfl
  · obtain ⟨x, z, st, -, rfl⟩ := mx_li_inv h; exact Or.inl rfl
  · obtain ⟨x, z, v, st, -, -, rfl⟩ := mx_ll_inv h; exact Or.inl rfl
  · obtain ⟨x, st, -, rfl⟩ := mx_i1_inv h; exact Or.inl rfl
  · obtain ⟨x, st, -, rfl⟩ := mx_l1_inv h; exact Or.inl rfl
  · obtain ⟨x, st, -, rfl⟩ := mx_i1_inv h; exact Or.inl rfl
  · obtain ⟨x, st, -, rfl⟩ := mx_i1_inv h; exact Or.inl rfl
  · obtain ⟨x, st, -, rfl⟩ := mx_i1_inv h; exact Or.inl rfl
  · exact Or.inl (mm_dup h)
  · exact Or.inl (mm_pop h)
  · exact Or.inl (mm_dup2 h)
  · exact Or.inl (mm_if h)
  · exact Or.inl (mm_if h)
  · exact Or.inl (mm_if h)
  · exact Or.inl (mm_if h)
  · exact Or.inl (mm_if h)
  · exact Or.inl (mm_if h)
  · exact Or.inl (mm_if2 h)
  · exact Or.inl (mm_if2 h)
  · exact Or.inl (mm_if2 h)
  · exact Or.inl (mm_if2 h)
  · exact Or.inl (mm_if2 h)
  · exact Or.inl (mm_if2 h)
  · cases h; exact Or.inl rfl
  · exact Or.inl (mm_sw h)
  · exact Or.inl (mm_sw h)
  · obtain ⟨q, st, fs, v, -, -, -, rfl⟩ := mx_get_inv h; exact Or.inl rfl
  · obtain ⟨i, st, -, -, rfl⟩ := mx_gstr_inv h; exact Or.inl rfl
  · obtain ⟨q, st, fs, v, -, h1, -, rfl⟩ := mx_put_inv h; exact Or.inr (Or.inl ⟨_, _, _, h1, by simp [mx_szE], rfl⟩)
  · obtain ⟨q, st, fs, v, -, h1, -, rfl⟩ := mx_putF_inv h; exact Or.inr (Or.inl ⟨_, _, _, h1, by simp [mx_szE], rfl⟩)
  · split at h
    · exact Or.inl (mm_push h)
    · cases h
  · cases hb : Nat.blt i.2.1 N with
    | true => rw [hb] at h; exact Or.inl (mm_push h)
    | false => rw [hb] at h; cases h
  · exact Or.inl (mm_alen h)
  · obtain ⟨i, q, st, x, -, -, -, rfl⟩ := mx_ald_inv h; exact Or.inl rfl
  · obtain ⟨v, i, q, st, n, f, -, h1, -, rfl⟩ := mx_ast_inv h; refine Or.inr (Or.inl ⟨_, _, _, h1, ?_, rfl⟩); rfl
  · obtain ⟨v, i, q, st, n, f, -, h1, -, rfl⟩ := mx_last_inv h; refine Or.inr (Or.inl ⟨_, _, _, h1, ?_, rfl⟩); rfl
  · split at h
    · obtain ⟨hl, rfl⟩ := mx_new_inv h; exact Or.inr (Or.inr ⟨_, hl, rfl⟩)
    · cases h
  · obtain ⟨n, st, -, hl, -, rfl⟩ := mx_newa_inv h; exact Or.inr (Or.inr ⟨_, hl, rfl⟩)
  · exact Or.inl (mm_obj h)
  · obtain ⟨n, dp, q1, sp, q0, st, f, g, -, -, h1, -, -, -, -, -, -, rfl⟩ := mx_copy_inv h; refine Or.inr (Or.inl ⟨_, _, _, mx_ia_inv h1, ?_, rfl⟩); rfl
  · obtain ⟨x, y, st, -, -, rfl⟩ := mx_mm_inv h; exact Or.inl rfl
  · obtain ⟨x, y, st, -, -, rfl⟩ := mx_mm_inv h; exact Or.inl rfl
  · cases h
theorem mx_op_mono {SA : mx_S} {SF : List mx_F} {DF : List (List Value)} {N : Nat} {i : mx_I} {c c' : mx_C} (h : mx_op SA SF DF N i c = some c') : (c.2.2.2.length ≤ c'.2.2.2.length ∧ mx_sz c.2.2.2 ≤ mx_sz c'.2.2.2) ∧ (c.2.2.2.length ≤ 1000 → c'.2.2.2.length ≤ 1000) := (mx_op_mv h).mono
def mx_Gr (M M' : mx_M) : Prop := (M.length ≤ M'.length ∧ mx_sz M ≤ mx_sz M') ∧ (M.length ≤ 1000 → M'.length ≤ 1000)
theorem mx_Gr.trans {M M1 M2 : mx_M} (h : mx_Gr M M1) (h2 : mx_Gr M1 M2) : mx_Gr M M2 := ⟨⟨Nat.le_trans h.1.1 h2.1.1, Nat.le_trans h.1.2 h2.1.2⟩, fun z => h2.2 (h.2 z)⟩
theorem mx_Gr.rf (M : mx_M) : mx_Gr M M := ⟨⟨Nat.le_refl _, Nat.le_refl _⟩, id⟩
theorem mx_run_mono {call : Nat → List Value → mx_M → Option Value → mx_M → Prop} {SA : mx_S} {SF : List mx_F} {DF : List (List Value)} {N : Nat} {t : List (List (Nat × mx_I))} (hc : ∀ k as M r M', call k as M r M' → mx_Gr M M') {r : Option Value} {Mf : mx_M} : ∀ {n : Nat} {c : mx_C}, mx_run call (mx_op SA SF DF N) t n c r Mf → mx_Gr c.2.2.2 Mf
  | 0, _, h => h.elim
  | n + 1, c, h => by
    obtain ⟨i, -, h | h | h⟩ := h
    · obtain ⟨-, c', h1, h2⟩ := h
      exact mx_Gr.trans (mx_op_mono h1) (mx_run_mono hc h2)
    · obtain ⟨-, as, rest, r1, M1, -, -, -, -, h1, h2⟩ := h
      exact mx_Gr.trans (hc _ _ _ _ _ h1) (mx_run_mono hc h2)
    · obtain ⟨-, r1, -, rfl, h2⟩ := h
      rw [h2]
      exact mx_Gr.rf _
theorem mx_Ev_mono {SA : mx_S} {code : Nat → Nat × List (List (Nat × mx_I))} : ∀ (d k : Nat) (as : List Value) (M : mx_M) (r : Option Value) (M' : mx_M), mx_Ev SA code d k as M r M' → mx_Gr M M'
  | 0, _, _, _, _, _, h => h.elim
  | d + 1, k, as, M, r, M', h => by
    obtain ⟨-, -, n, h⟩ := h
    exact mx_run_mono (mx_Ev_mono d) h
end
section
/-! A METHOD'S RUN IS A CONTRACT -/
abbrev mx_Q : Type := MethodName × ByteArray × Nat × Option FieldType
def mx_wd (q : mx_Q) : List Cond := .code q.1 q.2.1 q.2.2.1 q.2.2.2 :: mx_GT
def mx_rm (d : Nat) (M M' : mx_M) : Room := { frames := d, cells := M'.length - M.length, slots := mx_sz M' - mx_sz M, locals := 40 * d }
def mx_Pc (G : mx_G) (SA : mx_S) (as : List Value) (M : mx_M) : Array Value → State → Prop := fun v U => v = (as.map (mx_tr G)).toArray ∧ U.heap.size = G.1 + M.length ∧ va_P G.2.2.2 vwCl (mx_W G M) U.heap ∧ mx_Env G SA mx_SF mx_SR U U.heap
def mx_Qc (G : mx_G) (r : Option Value) (M' : mx_M) : Array Value → State → Outcome → State → Prop := fun _ st oc t => oc = .returned (r.map (mx_tr G)) ∧ t.heap.size = G.1 + M'.length ∧ va_P G.2.2.2 vwCl (mx_W G M') t.heap ∧ va_F (mx_A G) st t
theorem mx_Pc_blind (G : mx_G) (SA : mx_S) (as : List Value) (M : mx_M) : FrameBlind (mx_Pc G SA as M) := fun a U g mk h => ⟨h.1, h.2.1, h.2.2.1, mx_Env_same (U := U.calling g mk a) h.2.2.2 rfl⟩
/-- what is known of a method -/
def mx_Mok (q : mx_Q) : Prop := plainName q.1.cls = true ∧ q.2.2.1 ≤ 21 ∧ Cond.code q.1 q.2.1 q.2.2.1 q.2.2.2 ∈ mx_GT ∧ Cond.initialized q.1.cls ∈ mx_GT ∧ q.1.cls ≠ "java/lang/invoke/MethodHandle" ∧ q.1.cls ≠ "java/lang/invoke/VarHandle"
theorem mx_good {w : Cond} (h : w ∈ mx_GT) : goodWord w = true := (List.mem_filter.mp h).2
theorem mx_wd_good {q : mx_Q} (h : mx_Mok q) : GoodIn mx_GT (mx_wd q) := by
  intro w hw
  rcases List.mem_cons.mp hw with rfl | hw
  · exact ⟨h.2.2.1, good_of_word (mx_good h.2.2.1)⟩
  · exact ⟨hw, good_of_word (mx_good hw)⟩
section MXC
variable {p : Program} {l : Launch} {e : Env} {R : Room} {s : State} {m : MethodId} {args : Array Value} {below : List Frame} {meth : Method} {c0 : Code} {H : Heap} {locs : List Loc} {cells slots mc ms : Nat} {Q : State → Prop} {pc : Nat} {ls : Array Slot} {rest st0 : List Value} {G : mx_G} {SA : mx_S}
theorem mx_callW {r : Option Value} {M' : mx_M} {a : Array Value} (hr : va_Run p l e R s m args below meth c0 H locs cells slots mc ms (F0 m pc ls st0) rest (mx_Qc G r M' a) (mx_A G)) (hS : va_S (mx_A G) s.heap H locs)
    (kk : ∀ (H1 : Heap) (locs1 : List Loc), H1.size = G.1 + M'.length → va_P G.2.2.2 vwCl (mx_W G M') H1 → va_S (mx_A G) s.heap H1 locs1 → W p l e R s m args below meth c0 H1 locs1 (cells + mc) (slots + ms) Q (F0 m (pc + 3) ls ((r.map (mx_tr G)).toList ++ rest))) : W p l e R s m args below meth c0 H locs cells slots Q (F0 m pc ls st0) := by
  intro T hT X
  obtain ⟨v, st₀, t, T', L, h0, X', hL, e1, e2, ⟨hv, hz, hP, hF⟩, st⟩ := hr T hT X
  have hv : v = r.map (mx_tr G) := by cases hv; rfl
  subst hv
  rw [← e1] at hz hP
  obtain ⟨f1, f2⟩ := hF
  rw [h0, ← e1] at f1
  rw [h0, ← e1] at f2
  obtain ⟨t2, a1, b1⟩ := kk T'.heap (locs ++ L) hz hP ⟨Nat.le_trans hS.1 f1, fun q h1 h2 => by rw [f2 q (Nat.lt_of_lt_of_le h1 hS.1) h2]; exact hS.2.1 q h1 h2, fun q hq => by
    rcases List.mem_append.mp hq with h | h
    · exact hS.2.2 q h
    · exact hL q h⟩ T' rfl X'
  exact ⟨t2, st t2 a1, b1⟩
end MXC
/-- how a class names a method: by a link of its own, or of its nest -/
def mx_ml (own : String) (idx : Nat) (x : MethodName) (w : Nat) (host : Option String) : Prop := match host with
  | none => lw_tbl[w]? = some (.methodLink own idx x)
  | some h => lw_tbl[w]? = some (.methodLinkNest own idx x h)
theorem mx_ml_nest {own : String} {idx : Nat} {x : MethodName} {w : Nat} {h : String} (hl : mx_ml own idx x w (some h)) : Cond.methodLinkNest own idx x h ∈ mx_NT :=
  List.mem_filter.mpr ⟨List.mem_of_getElem? hl, rfl⟩
def mx_np (y : MethodName) (n : Nat) : Prop := (parseMethodDescriptor y.desc).map (fun d => d.parameters.length) = some n
/-- a call that the tables allow: a static method, a constructor, a method of an object, a method of a string -/
def mx_Cal (bytes : ByteArray) (y : MethodName) (pc : Nat) (i : mx_I) (q : mx_Q) : Prop :=
  mx_Mok q ∧ ∃ (idx w : Nat) (host : Option String), mx_ml y.cls idx q.1 w host ∧
  ((i.2.2.2 = [] ∧ decode bytes pc = .ok (.invokestatic idx, 3) ∧ mx_np q.1 i.2.2.1 ∧ Cond.static q.1 ∈ mx_GT) ∨
   (i.2.2.2 = [98] ∧ decode bytes pc = .ok (.invokespecial idx, 3) ∧ (∃ n, i.2.2.1 = n + 1 ∧ mx_np q.1 n) ∧ Cond.instanceMethod q.1 ∈ mx_GT ∧ q.1.name = "<init>" ∧ q.2.2.2 = none) ∨
   (∃ (ci : Nat) (T : u_T) (N : Nat), ci < 98 ∧ i.2.2.2 = [ci] ∧ vwCl[ci]? = some (q.1.cls, T, N) ∧ decode bytes pc = .ok (.invokevirtual idx, 3) ∧ (∃ n, i.2.2.1 = n + 1 ∧ mx_np q.1 n) ∧ Cond.instanceMethod q.1 ∈ mx_GT ∧ Cond.selects q.1.cls q.1 q.1 ∈ mx_GT) ∨
   (i.2.2.2 = [99] ∧ q.1.cls = "java/lang/String" ∧ host = none ∧ decode bytes pc = .ok (.invokevirtual idx, 3) ∧ (∃ n, i.2.2.1 = n + 1 ∧ mx_np q.1 n) ∧ Cond.instanceMethod q.1 ∈ mx_GT ∧ Cond.selects q.1.cls q.1 q.1 ∈ mx_GT))
theorem mx_ad_str (G : mx_G) (b : Nat) : mx_ad G (1100 + b) = G.2.1 (100 + b) := by
  rw [show 1100 + b = 1000 + (100 + b) by omega]
  exact mx_ad_ge
theorem mx_stk (G : mx_G) (b : Nat) (as' rest : List Value) : ((Value.ref b :: as').map (mx_tr G)).reverse ++ rest.map (mx_tr G) = (as'.map (mx_tr G)).reverse ++ .ref (mx_ad G b) :: rest.map (mx_tr G) := by
  rw [List.map_cons, List.reverse_cons, List.append_assoc]
  rfl
theorem mx_rcv_ref {as : List Value} {M : mx_M} (h0 : mx_rcv [98] as M = true) : ∃ b as', as = .ref b :: as' := by
  have h : mx_rcv1 98 as M = true := h0
  unfold mx_rcv1 at h
  split  at h
  · next b as' => exact ⟨b, as', rfl⟩
  · cases h
theorem mx_rcv_obj {ci : Nat} {as : List Value} {M : mx_M} (hci : ci < 98) (h0 : mx_rcv [ci] as M = true) : ∃ b as' fs, as = .ref b :: as' ∧ M[b]? = some (.inl (ci, fs)) := by
  have h : mx_rcv1 ci as M = true := h0
  unfold mx_rcv1 at h
  split  at h
  · next b as' =>
    have e1 : Nat.beq ci 98 = false := by
      cases hb : Nat.beq ci 98 with
      | false => rfl
      | true => have := Nat.eq_of_beq_eq_true hb; omega
    have e2 : Nat.beq ci 99 = false := by
      cases hb : Nat.beq ci 99 with
      | false => rfl
      | true => have := Nat.eq_of_beq_eq_true hb; omega
    rw [e1, e2] at h
    simp only [cond_false] at h
    split at h
    · next cj fs hq =>
      have := Nat.eq_of_beq_eq_true h
      subst this
      exact ⟨b, as', fs, rfl, by rw [← mx_nth_eq]; exact hq⟩
    · cases h
  · cases h
theorem mx_rcv_str {as : List Value} {M : mx_M} (h0 : mx_rcv [99] as M = true) : ∃ b as', as = .ref (1100 + b) :: as' ∧ b < 14 := by
  have h : mx_rcv1 99 as M = true := h0
  unfold mx_rcv1 at h
  split  at h
  · next b as' =>
    have h : (Nat.ble 1100 b && Nat.blt b 1114) = true := h
    simp only [Bool.and_eq_true] at h
    have z1 : 1100 ≤ b := Nat.le_of_ble_eq_true h.1
    have z2 : b < 1100 + 14 := Nat.le_of_ble_eq_true h.2
    obtain ⟨e1, e2, -⟩ := mx_gs_ar z1 z2
    exact ⟨b - 1100, as', by rw [← e1], e2⟩
  · cases h
set_option maxHeartbeats 1000000 in
theorem mx_call_go {bytes : ByteArray} {nL : Nat} {y : MethodName} {pc : Nat} {i : mx_I} {q : mx_Q} (hcal : mx_Cal bytes y pc i q) {G : mx_G} {SA : mx_S} {p : Program} {l : Launch} {e : Env} {R : Room} {s : State} {m : MethodId} {args : Array Value} {below : List Frame} {meth : Method} {c0 : Code} {Q : State → Prop} {L0 S0 d : Nat}
    (K : mx_Ctx bytes nL y G SA p R s m args meth c0) (hfr : d + 1 ≤ R.frames) (hlo : 40 * d + 40 ≤ R.locals) {c : mx_C} (hpc : c.1 = pc) {as rest : List Value} {r : Option Value} {M' : mx_M} (hst : c.2.2.1 = as.reverse ++ rest) (hlen : as.length = i.2.2.1) (hcat : mx_cat rest ≤ 8) (hrc : mx_rcv i.2.2.2 as c.2.2.2 = true)
    (hM : Met l q.1 (mx_wd q) (mx_rm d c.2.2.2 M') (mx_Pc G SA as c.2.2.2) (mx_Qc G r M') (M'.length - c.2.2.2.length) (mx_sz M' - mx_sz c.2.2.2) (mx_A G)) (hgr : mx_Gr c.2.2.2 M') (hL : L0 ≤ c.2.2.2.length) (hS0 : S0 ≤ mx_sz c.2.2.2) (hc1 : M'.length ≤ R.cells + L0) (hc2 : mx_sz M' ≤ R.slots + S0)
    (hgo : mx_Go nL G p l e R s m args below meth c0 Q L0 S0 (c.1 + 3, c.2.1, r.toList ++ rest, M')) : mx_Go nL G p l e R s m args below meth c0 Q L0 S0 c := by
  intro H locs ls h1 h2 hP hS hv
  obtain ⟨⟨hpn, hnL, hcw, hini, hmh, hvh⟩, idx, w, host, hl, hk⟩ := hcal
  have hMok : mx_Mok q := ⟨hpn, hnL, hcw, hini, hmh, hvh⟩
  obtain ⟨hx, hb, hml, hown, hts, -, hE, hbs, -, -⟩ := K
  have hfix : CallFix p m c0 bytes nL s args mx_GT y.cls := ⟨hx, hb, hml, hown, hts⟩
  have hroom : (mx_rm d c.2.2.2 M').frames + 1 ≤ R.frames ∧ 8 + (q.2.2.1 + 11) + (mx_rm d c.2.2.2 M').locals ≤ R.locals := ⟨hfr, by show 8 + (q.2.2.1 + 11) + 40 * d ≤ _; omega⟩
  have hf : c.2.2.2.length - L0 + (M'.length - c.2.2.2.length) ≤ R.cells ∧ mx_sz c.2.2.2 - S0 + (mx_sz M' - mx_sz c.2.2.2) ≤ R.slots := by
    have := hgr.1
    exact ⟨by omega, by omega⟩
  have hcatr : ((rest.map (mx_tr G)).map fun v => v.category).sum ≤ 8 := by rw [mx_cat_eq]; exact hcat
  have hUp : ∀ U : State, U.heap = H → s.WarmedH U.vm → mx_Pc G SA as c.2.2.2 (as.map (mx_tr G)).toArray U := fun U hU hW =>
    ⟨rfl, by rw [hU]; exact h2, by rw [hU]; exact hP, by rw [hU]; exact mx_Env_kept hE hW (fun a z1 z2 => hS.2.1 a z1 z2)⟩
  have hend : ∀ (H1 : Heap) (locs1 : List Loc), H1.size = G.1 + M'.length → va_P G.2.2.2 vwCl (mx_W G M') H1 → va_S (mx_A G) s.heap H1 locs1 → W p l e R s m args below meth c0 H1 locs1 (c.2.2.2.length - L0 + (M'.length - c.2.2.2.length)) (mx_sz c.2.2.2 - S0 + (mx_sz M' - mx_sz c.2.2.2)) Q (F0 m (pc + 3) ls ((r.map (mx_tr G)).toList ++ rest.map (mx_tr G))) := by
    intro H1 locs1 z1 z2 z3
    have g := hgo H1 locs1 ls (hgr.2 h1) z1 z2 z3 hv
    have g2 : W p l e R s m args below meth c0 H1 locs1 (M'.length - L0) (mx_sz M' - S0) Q (F0 m (c.1 + 3) ls ((r.toList ++ rest).map (mx_tr G))) := g
    have e1 : c.2.2.2.length - L0 + (M'.length - c.2.2.2.length) = M'.length - L0 := by have := hgr.1; omega
    have e2 : mx_sz c.2.2.2 - S0 + (mx_sz M' - mx_sz c.2.2.2) = mx_sz M' - S0 := by have := hgr.1; omega
    rw [e1, e2, ← hpc]
    rw [List.map_append] at g2
    cases r with
    | none => exact g2
    | some v => exact g2
  have hdm : ∀ n, mx_np q.1 n → q.1.cls ≠ "java/lang/invoke/MethodHandle" ∧ q.1.cls ≠ "java/lang/invoke/VarHandle" ∧ (parseMethodDescriptor q.1.desc).map (fun d => d.parameters.length) = some n := fun n h => ⟨hmh, hvh, h⟩
  rw [hpc, hst, List.map_append, List.map_reverse]
  rcases hk with ⟨-, hd, hn, hs⟩ | ⟨eL, hd, ⟨n, en, hn⟩, hin, hnm, hret⟩ | ⟨ci, T, N, hci, eL, hcl, hd, ⟨n, en, hn⟩, hin, hsel⟩ | ⟨eL, hcS, hhost, hd, ⟨n, en, hn⟩, hin, hsel⟩
  · have hp : PreS s H (mx_Pc G SA as c.2.2.2) (as.map (mx_tr G)) := ⟨mx_Pc_blind G SA as _, hUp⟩
    have hn' : (as.map (mx_tr G)).length = i.2.2.1 := by rw [List.length_map]; exact hlen
    cases host with
    | none =>
      exact mx_callW (va_runS hfix hM ⟨callB_of (ws' := mx_GT) i.2.2.1 hts (mx_wd_good hMok) rfl rfl rfl (hts _ hini) (hts _ (mx_gt w hl rfl)) (hdm _ hn) hroom, hts _ hs⟩ hp rfl hn' hv.1 rfl (lv_room hcatr) hd hf) hS hend
    | some h =>
      exact mx_callW (va_runSN hfix hM ⟨va_cnB (ws' := mx_GT) i.2.2.1 hts (mx_wd_good hMok) rfl rfl rfl (hE.2.1 _ (mx_ml_nest hl)) (hts _ hini) (hdm _ hn) hroom, hts _ hs, trivial⟩ hp rfl hn' hv.1 rfl (lv_room hcatr) hd hf) hS hend
  · rw [eL] at hrc
    obtain ⟨b, as', rfl⟩ := mx_rcv_ref hrc
    have hn' : (as'.map (mx_tr G)).length = n := by rw [List.length_map]; rw [en] at hlen; simpa using hlen
    have hp : PreS s H (mx_Pc G SA (.ref b :: as') c.2.2.2) (.ref (mx_ad G b) :: as'.map (mx_tr G)) := ⟨mx_Pc_blind G SA _ _, hUp⟩
    obtain ⟨qx, qb, qn, qr⟩ := q
    have hret : qr = none := hret
    subst hret
    rw [mx_stk]
    cases host with
    | none => exact mx_callW (va_runI hfix hM ⟨callB_of (ws' := mx_GT) n hts (mx_wd_good hMok) rfl rfl rfl (hts _ hini) (hts _ (mx_gt w hl rfl)) (hdm _ hn) hroom, hnm, hts _ hin⟩ hp rfl hn' hv.1 rfl (lv_room hcatr) hd hf) hS hend
    | some h => exact mx_callW (va_runIN hfix hM ⟨va_cnB (ws' := mx_GT) n hts (mx_wd_good hMok) rfl rfl rfl (hE.2.1 _ (mx_ml_nest hl)) (hts _ hini) (hdm _ hn) hroom, hnm, hts _ hin⟩ hp rfl hn' hv.1 rfl (lv_room hcatr) hd hf) hS hend
  · rw [eL] at hrc
    obtain ⟨b, as', fs, rfl, hbm⟩ := mx_rcv_obj hci hrc
    have hn' : (as'.map (mx_tr G)).length = n := by rw [List.length_map]; rw [en] at hlen; simpa using hlen
    have hb1 : b < 1000 := Nat.lt_of_lt_of_le (mx_len_lt hbm) h1
    have hrec := va_recv hE.1 hP hcl (mx_W_get hbm)
    rw [← mx_ad_lt hb1] at hrec
    have hp : PreV s H q.1.cls (mx_ad G b) (mx_Pc G SA (.ref b :: as') c.2.2.2) (as'.map (mx_tr G)) := ⟨mx_Pc_blind G SA _ _, hrec, hUp⟩
    rw [mx_stk]
    cases host with
    | none => exact mx_callW (va_runV hfix hM ⟨callB_of (ws' := mx_GT) n hts (mx_wd_good hMok) rfl rfl rfl (hts _ hini) (hts _ (mx_gt w hl rfl)) (hdm _ hn) hroom, hts _ hin, hts _ hsel⟩ hp rfl hn' hv.1 rfl (lv_room hcatr) hd hf) hS hend
    | some h => exact mx_callW (va_runVN hfix hM ⟨va_cnB (ws' := mx_GT) n hts (mx_wd_good hMok) rfl rfl rfl (hE.2.1 _ (mx_ml_nest hl)) (hts _ hini) (hdm _ hn) hroom, hts _ hin, hts _ hsel⟩ hp rfl hn' hv.1 rfl (lv_room hcatr) hd hf) hS hend
  · rw [eL] at hrc
    obtain ⟨b, as', rfl, hb1⟩ := mx_rcv_str hrc
    have hn' : (as'.map (mx_tr G)).length = n := by rw [List.length_map]; rw [en] at hlen; simpa using hlen
    have hb14 : b < mx_SR.length := hb1
    obtain ⟨-, hO, -, -⟩ := hE.2.2.2.2 b _ (List.getElem?_eq_getElem hb14)
    obtain ⟨cell, o1, o2, o3, -⟩ := hO.kept hS.2.1
    have ea := mx_ad_str G b
    have hrec : ∃ cellB : Cell, H[mx_ad G (1100 + b)]? = some cellB ∧ cellB.vm.isStatics = false ∧ s.vm.findClass q.1.cls = some cellB.cls := by
      rw [ea, hcS]
      exact ⟨cell, o1, o2, o3⟩
    have hp : PreV s H q.1.cls (mx_ad G (1100 + b)) (mx_Pc G SA (.ref (1100 + b) :: as') c.2.2.2) (as'.map (mx_tr G)) := ⟨mx_Pc_blind G SA _ _, hrec, hUp⟩
    subst hhost
    rw [mx_stk]
    exact mx_callW (va_runV hfix hM ⟨callB_of (ws' := mx_GT) n hts (mx_wd_good hMok) rfl rfl rfl (hts _ hini) (hts _ (mx_gt w hl rfl)) (hdm _ hn) hroom, hts _ hin, hts _ hsel⟩ hp rfl hn' hv.1 rfl (lv_room hcatr) hd hf) hS hend
end
section
/-! EVERY RUN OF THE SMALL MACHINE IS A RUN OF THE MACHINE -/
def mx_Rt (q : mx_Q) (pc : Nat) (i : mx_I) : Prop :=
  (i.1 = 80 ∧ decode q.2.1 pc = .ok (.ireturn, 1) ∧ ∃ ty, q.2.2.2 = some ty ∧ ∀ v, mx_fit i.2.1 v = true → narrow ty (.int v) = .int v) ∨
  (i.1 = 81 ∧ decode q.2.1 pc = .ok (.lreturn, 1) ∧ q.2.2.2 = some .long) ∨
  (i.1 = 82 ∧ decode q.2.1 pc = .ok (.areturn, 1) ∧ ∃ ty, q.2.2.2 = some ty ∧ mx_rt ty = true) ∨
  (i.1 = 83 ∧ decode q.2.1 pc = .ok (.return_, 1) ∧ q.2.2.2 = none)
/-- a place of a method's table is right -/
def mx_Ok (MT : Nat → Option mx_Q) (q : mx_Q) (pc : Nat) (i : mx_I) : Prop :=
  (i.1 < 70 → mx_Snd q.2.1 q.2.2.1 q.1 pc i) ∧ (i.1 = 70 → ∃ k, MT i.2.1 = some k ∧ mx_Cal q.2.1 q.1 pc i k) ∧ (80 ≤ i.1 → mx_Rt q pc i)
theorem mk_p {MT : Nat → Option mx_Q} {q : mx_Q} {pc : Nat} {i : mx_I} (h : mx_Snd q.2.1 q.2.2.1 q.1 pc i) (hi : Nat.blt i.1 70 = true) : mx_Ok MT q pc i := by
  have hlt : i.1 < 70 := Nat.le_of_ble_eq_true hi
  exact ⟨fun _ => h, fun z => by omega, fun z => by omega⟩
theorem mk_c {MT : Nat → Option mx_Q} {q : mx_Q} {pc a b : Nat} {L : List Nat} {k : mx_Q} (h1 : MT a = some k) (h2 : mx_Cal q.2.1 q.1 pc (70, a, b, L) k) : mx_Ok MT q pc (70, a, b, L) :=
  ⟨fun z => absurd (show 70 < 70 from z) (by omega), fun _ => ⟨k, h1, h2⟩, fun z => absurd (show 80 ≤ 70 from z) (by omega)⟩
theorem mk_r {MT : Nat → Option mx_Q} {q : mx_Q} {pc : Nat} {i : mx_I} (h : mx_Rt q pc i) (hi : Nat.ble 80 i.1 = true) : mx_Ok MT q pc i := by
  have hlt : 80 ≤ i.1 := Nat.le_of_ble_eq_true hi
  exact ⟨fun z => by omega, fun z => by omega, fun _ => h⟩
theorem mx_run_go {MT : Nat → Option mx_Q} {q : mx_Q} {t : List (List (Nat × mx_I))} {call : Nat → List Value → mx_M → Option Value → mx_M → Prop} {G : mx_G} {SA : mx_S} {p : Program} {l : Launch} {e : Env} {R : Room} {s : State} {m : MethodId} {args : Array Value} {below : List Frame} {meth : Method} {c0 : Code} {Q : State → Prop} {L0 S0 d : Nat} {r : Option Value} {Mf : mx_M}
    (K : mx_Ctx q.2.1 q.2.2.1 q.1 G SA p R s m args meth c0) (hok : ∀ ch ∈ t, ∀ e ∈ ch, mx_Ok MT q e.1 e.2)
    (hmono : ∀ k as M r M', call k as M r M' → mx_Gr M M')
    (hcall : ∀ k as M r M', call k as M r M' → ∀ z, MT k = some z → Met l z.1 (mx_wd z) (mx_rm d M M') (mx_Pc G SA as M) (mx_Qc G r M') (M'.length - M.length) (mx_sz M' - mx_sz M) (mx_A G))
    (hfr : d + 1 ≤ R.frames) (hlo : 40 * d + 40 ≤ R.locals) (hc1 : Mf.length ≤ R.cells + L0) (hc2 : mx_sz Mf ≤ R.slots + S0)
    (hfin : ∀ (pc : Nat) (i : mx_I) (st : List Value) (H : Heap) (locs : List Loc) (ls : Array Slot), mx_Ok MT q pc i → 80 ≤ i.1 → mx_ret i st = some r → H.size = G.1 + Mf.length → va_P G.2.2.2 vwCl (mx_W G Mf) H → va_S (mx_A G) s.heap H locs → W p l e R s m args below meth c0 H locs (Mf.length - L0) (mx_sz Mf - S0) Q (F0 m pc ls (st.map (mx_tr G)))) :
    ∀ (n : Nat) (c : mx_C), mx_run call (mx_op SA mx_SF mx_DF 14) t n c r Mf → L0 ≤ c.2.2.2.length → S0 ≤ mx_sz c.2.2.2 → mx_Go q.2.2.1 G p l e R s m args below meth c0 Q L0 S0 c := by
  intro n
  induction n with
  | zero => intro c h; exact h.elim
  | succ n ih =>
    intro c h hL hS
    obtain ⟨i, hf, h⟩ := h
    obtain ⟨ch, hch, hin⟩ := mx_fetch_mem hf
    have hO := hok ch hch _ hin
    rcases h with ⟨hi, c', h1, h2⟩ | ⟨hi, as, rest, r1, M1, h1, h2, h3, h4, h5, h6⟩ | ⟨hi, r1, h1, h2, h3⟩
    · have g1 := mx_op_mono h1
      have g2 := mx_run_mono hmono h2
      have gl := g1.1
      have gm := g2.1
      exact hO.1 hi G SA p l e R s m args below meth c0 Q L0 S0 K c c' rfl hL hS (by omega) (by omega) h1 (ih c' h2 (by omega) (by omega))
    · obtain ⟨k, k1, k2⟩ := hO.2.1 hi
      have g1 := hmono _ _ _ _ _ h5
      have g2 := mx_run_mono hmono h6
      have gl := g1.1
      have gm : M1.length ≤ Mf.length ∧ mx_sz M1 ≤ mx_sz Mf := g2.1
      exact mx_call_go k2 K hfr hlo rfl h1 h2 h3 h4 (hcall _ _ _ _ _ h5 k k1) g1 hL hS (by omega) (by omega) (ih _ h6 (show L0 ≤ M1.length by omega) (show S0 ≤ mx_sz M1 by omega))
    · intro H locs ls z1 z2 hP hS' hv
      subst h2
      have e3 : Mf = c.2.2.2 := h3.symm
      rw [e3] at hfin
      exact hfin c.1 i c.2.2.1 H locs ls hO hi h1 z2 hP hS'
theorem mx_ret_go {q : mx_Q} {G : mx_G} {p : Program} {l : Launch} {e : Env} {R : Room} {s : State} {m : MethodId} {args : Array Value} {below : List Frame} {meth : Method} {c0 : Code} {M' : mx_M} {cells slots : Nat} {pc : Nat} {i : mx_I} {st : List Value} {r : Option Value} {H : Heap} {locs : List Loc} {ls : Array Slot}
    (hx : p.tables.exec = Jvm.exec) (hb : c0.code = q.2.1) (hr : meth.sig.returnType = q.2.2.2) (hlocks : meth.locks = false) (hR : mx_Rt q pc i) (h : mx_ret i st = some r) (hz : H.size = G.1 + M'.length) (hP : va_P G.2.2.2 vwCl (mx_W G M') H) (hS : va_S (mx_A G) s.heap H locs) :
    W p l e R s m args below meth c0 H locs cells slots (MQ below (mx_Qc G r M') args s cells slots (mx_A G)) (F0 m pc ls (st.map (mx_tr G))) := by
  have hq : ∀ (v : Option Value) (t : State), v = r.map (mx_tr G) → t.heap = H → mx_Qc G r M' args s (.returned v) t := fun v t hv ht => ⟨by rw [hv], by rw [ht]; exact hz, by rw [ht]; exact hP, hS.F ht⟩
  obtain ⟨i1, i2, i3, i4⟩ := i
  rcases hR with ⟨e1, hd, ty, hty, hfit⟩ | ⟨e1, hd, hty⟩ | ⟨e1, hd, ty, hty, hrt⟩ | ⟨e1, hd, hty⟩
  · have e1 : i1 = 80 := e1
    subst e1
    match st, h with
    | [.int v], h =>
      have h : (bif mx_fit i2 v then some (some (.int v)) else none) = some r := h
      cases hf : mx_fit i2 v with
      | false => rw [hf] at h; cases h
      | true =>
        rw [hf] at h
        cases h
        exact W.zret hx hb (hr.trans hty) (hfit v hf) (fun t ht _ => hq _ t rfl ht) hS.2.2 hd hlocks
  · have e1 : i1 = 81 := e1
    subst e1
    match st, h with
    | [.long v], h =>
      have h : some (some (Value.long v)) = some r := h
      cases h
      exact W.lret hx hb (hr.trans hty) (fun t ht _ => hq _ t rfl ht) hS.2.2 hd hlocks
  · have e1 : i1 = 82 := e1
    subst e1
    match st, h with
    | [.ref v], h =>
      have h : some (some (Value.ref v)) = some r := h
      cases h
      exact W.aret hx hb (hr.trans hty) (by cases ty <;> first | exact Or.inl ⟨_, rfl⟩ | exact Or.inr ⟨_, rfl⟩ | cases hrt) (Or.inr ⟨_, rfl⟩) (fun t ht _ => hq _ t rfl ht) hS.2.2 hd hlocks
  · have e1 : i1 = 83 := e1
    subst e1
    match st, h with
    | [], h =>
      have h : some (none : Option Value) = some r := h
      cases h
      exact W.vret hx hb (hr.trans hty) (fun t ht _ => hq _ t rfl ht) hS.2.2 hd hlocks
theorem mx_args_tr (G : mx_G) : ∀ (as : List Value) (k : Nat), (lv_args k as).map (mx_tq G) = lv_args k (as.map (mx_tr G))
  | [], _ => rfl
  | v :: as, k => by
    simp only [lv_args, List.map_cons, mx_tr_cat]
    rw [mx_args_tr G as]
    rfl
theorem mx_sl_len (G : mx_G) : ∀ as : List Value, (lg_sl (as.map (mx_tr G))).length = mx_cat as
  | [] => rfl
  | v :: as => by
    have ih := mx_sl_len G as
    unfold lg_sl at ih ⊢
    rw [List.map_cons, List.flatMap_cons, List.length_append, ih]
    show _ = (bif mx_is2 v then 2 else 1) + mx_cat as
    rw [mx_tr_cat]
    cases v <;> rfl
set_option maxHeartbeats 1000000 in
theorem mx_sound (l : Launch) (G : mx_G) (SA : mx_S) {MT : Nat → Option mx_Q} {code : Nat → Nat × List (List (Nat × mx_I))} (hMT : ∀ k q, MT k = some q → mx_Mok q ∧ (code k).1 = q.2.2.1 ∧ ∀ ch ∈ (code k).2, ∀ e ∈ ch, mx_Ok MT q e.1 e.2) :
    ∀ (d k : Nat) (as : List Value) (M : mx_M) (r : Option Value) (M' : mx_M), mx_Ev SA code d k as M r M' → ∀ q, MT k = some q → Met l q.1 (mx_wd q) (mx_rm d M M') (mx_Pc G SA as M) (mx_Qc G r M') (M'.length - M.length) (mx_sz M' - mx_sz M) (mx_A G) := by
  intro d
  induction d with
  | zero => intro k as M r M' h; exact h.elim
  | succ d ih =>
    intro k as M r M' h q hq
    obtain ⟨hMok, hnl, hok⟩ := hMT k q hq
    have hgr := mx_Ev_mono (d + 1) _ _ _ _ _ h
    obtain ⟨hcat, hlen, n, hrun⟩ := h
    rw [hnl] at hcat
    refine Met.ofW (cc := q.2.1) (maxL := q.2.2.1) (ret := q.2.2.2) hMok.1 rfl ?_
    intro p e s m args below meth c s₁ B hml hv
    obtain ⟨rfl, hsz, hP, hE⟩ := hv
    have hts := atoms_spec (ws := mx_wd q) B.pre
    have K : mx_Ctx q.2.1 q.2.2.1 q.1 G SA p (headSpec (mx_wd q) (mx_rm (d + 1) M M')).room s m (as.map (mx_tr G)).toArray meth c :=
      ⟨B.exec, B.bytes, hml, findClass_of_methodNamed B.named, fun w hw => hts w (List.mem_cons_of_mem _ hw), fun z => by rw [(name_of_methodNamed B.named B.method).1]; exact z, hE, by rw [hsz]; omega, by show 1 ≤ d + 1; omega, by show 40 ≤ 40 * (d + 1); omega⟩
    rw [lg_entry_eq]
    have hl := lv_entry (as.map (mx_tr G)) (n := q.2.2.1) (by rw [mx_sl_len]; exact hcat)
    generalize (lg_sl (as.map (mx_tr G)) ++ List.replicate (q.2.2.1 - (lg_sl (as.map (mx_tr G))).length) Slot.unset).toArray = ls at hl ⊢
    have hgl := hgr.1
    have g := mx_run_go (L0 := M.length) (S0 := mx_sz M) (d := d) (below := below) (l := l) (e := e) (Q := MQ below (mx_Qc G r M') (as.map (mx_tr G)).toArray s (M'.length - M.length) (mx_sz M' - mx_sz M) (mx_A G)) K hok (mx_Ev_mono d) (fun k2 as2 M2 r2 M2' h2 z hz => ih k2 as2 M2 r2 M2' h2 z hz) (by show d + 1 ≤ d + 1; omega) (by show 40 * d + 40 ≤ 40 * (d + 1); omega) (by show M'.length ≤ M'.length - M.length + M.length; omega) (by show mx_sz M' ≤ mx_sz M' - mx_sz M + mx_sz M; omega)
      (fun pc i st H locs ls hO hi hre hz hP' hS' => mx_ret_go B.exec B.bytes B.returns B.notSynchronized (hO.2.2 hi) hre hz hP' hS') n _ hrun (Nat.le_refl _) (Nat.le_refl _)
    have g2 := g s.heap [] ls hlen hsz hP va_S.rf (by rw [mx_args_tr]; exact hl)
    have g3 : W p l e (headSpec (mx_wd q) (mx_rm (d + 1) M M')).room s m (as.map (mx_tr G)).toArray below meth c s.heap [] (M.length - M.length) (mx_sz M - mx_sz M) _ (F0 m 0 ls []) := g2
    rw [Nat.sub_self, Nat.sub_self] at g3
    exact g3
end
section
/-! THE METHODS' TABLES: printed with the claim -/
def mt_0_0 : List (Nat × mx_I) := [(0, 4, 0, 1, []), (1, 63, 0, 0, []), (4, 4, 0, 1, []), (5, 61, 6, 0, []), (8, 33, 0, 0, []), (9, 0, 12, 2, []), (11, 70, 64, 2, [98]), (14, 54, 0, 1, [])]
def mt_0_1 : List (Nat × mx_I) := [(17, 4, 0, 1, []), (18, 61, 6, 0, []), (21, 33, 0, 0, []), (22, 0, 12, 2, []), (24, 70, 64, 2, [98]), (27, 54, 0, 2, []), (30, 4, 0, 1, []), (31, 61, 6, 0, [])]
def mt_0_2 : List (Nat × mx_I) := [(34, 33, 0, 0, []), (35, 0, 60, 2, []), (37, 70, 64, 2, [98]), (40, 54, 0, 3, []), (43, 4, 0, 1, []), (44, 61, 6, 0, []), (47, 33, 0, 0, [])]
def mt_0_3 : List (Nat × mx_I) := [(48, 0, 60, 2, []), (50, 70, 64, 2, [98]), (53, 54, 0, 4, []), (56, 4, 0, 1, []), (57, 61, 6, 0, []), (60, 33, 0, 0, []), (61, 0, 60, 2, []), (63, 70, 64, 2, [98])]
def mt_0_4 : List (Nat × mx_I) := [(66, 54, 0, 5, []), (69, 4, 0, 1, []), (70, 61, 6, 0, []), (73, 33, 0, 0, []), (74, 0, 60, 2, []), (76, 70, 64, 2, [98]), (79, 54, 0, 6, [])]
def mt_0_5 : List (Nat × mx_I) := [(82, 4, 0, 1, []), (83, 61, 6, 0, []), (86, 33, 0, 0, []), (87, 0, 60, 2, []), (89, 70, 64, 2, [98]), (92, 54, 0, 7, []), (95, 4, 0, 1, [])]
def mt_0_6 : List (Nat × mx_I) := [(96, 61, 6, 0, []), (99, 33, 0, 0, []), (100, 0, 120, 2, []), (102, 70, 64, 2, [98]), (105, 54, 0, 8, []), (108, 4, 0, 1, []), (109, 61, 6, 0, [])]
def mt_0_7 : List (Nat × mx_I) := [(112, 33, 0, 0, []), (113, 0, 120, 2, []), (115, 70, 64, 2, [98]), (118, 54, 0, 9, []), (121, 4, 0, 1, []), (122, 61, 6, 0, []), (125, 33, 0, 0, []), (126, 0, 120, 2, [])]
def mt_0_8 : List (Nat × mx_I) := [(128, 70, 64, 2, [98]), (131, 54, 0, 10, []), (134, 4, 0, 1, []), (135, 61, 6, 0, []), (138, 33, 0, 0, []), (139, 0, 60, 2, []), (141, 70, 64, 2, [98])]
def mt_0_9 : List (Nat × mx_I) := [(144, 54, 0, 11, []), (147, 83, 0, 0, [])]
def mt_0 : List (List (Nat × mx_I)) := [mt_0_0, mt_0_1, mt_0_2, mt_0_3, mt_0_4, mt_0_5, mt_0_6, mt_0_7, mt_0_8, mt_0_9]
def mt_1_0 : List (Nat × mx_I) := [(0, 4, 0, 1, []), (1, 51, 0, 1, []), (4, 2, 1, 1, []), (5, 70, 67, 2, [6]), (8, 80, 2, 0, [])]
def mt_1 : List (List (Nat × mx_I)) := [mt_1_0]
def mt_2_0 : List (Nat × mx_I) := [(0, 4, 0, 1, []), (1, 51, 0, 3, []), (4, 2, 1, 1, []), (5, 70, 67, 2, [6]), (8, 80, 2, 0, [])]
def mt_2 : List (List (Nat × mx_I)) := [mt_2_0]
def mt_3_0 : List (Nat × mx_I) := [(0, 2, 1, 1, []), (1, 38, 16, 0, []), (4, 2, 1, 1, []), (5, 4, 0, 1, []), (6, 51, 0, 0, []), (9, 46, 16, 0, []), (12, 0, 1, 1, []), (13, 48, 17, 0, [])]
def mt_3_1 : List (Nat × mx_I) := [(16, 0, 0, 1, []), (17, 80, 2, 0, [])]
def mt_3 : List (List (Nat × mx_I)) := [mt_3_0, mt_3_1]
def mt_4_0 : List (Nat × mx_I) := [(0, 4, 0, 1, []), (1, 51, 0, 1, []), (4, 2, 2, 1, []), (5, 70, 67, 2, [6]), (8, 36, 27, 0, []), (11, 4, 0, 1, []), (12, 51, 0, 1, []), (15, 2, 2, 1, [])]
def mt_4_1 : List (Nat × mx_I) := [(16, 70, 68, 2, [6]), (19, 2, 1, 1, []), (20, 43, 27, 0, []), (23, 0, 1, 1, []), (24, 48, 28, 0, []), (27, 0, 0, 1, []), (28, 80, 2, 0, [])]
def mt_4 : List (List (Nat × mx_I)) := [mt_4_0, mt_4_1]
def mt_5_0 : List (Nat × mx_I) := [(0, 4, 0, 1, []), (1, 51, 0, 4, []), (4, 2, 1, 1, []), (5, 70, 68, 2, [6]), (8, 2, 2, 1, []), (9, 42, 24, 0, []), (12, 4, 0, 1, []), (13, 51, 0, 5, [])]
def mt_5_1 : List (Nat × mx_I) := [(16, 2, 1, 1, []), (17, 70, 68, 2, [6]), (20, 2, 2, 1, []), (21, 43, 28, 0, []), (24, 0, 1, 1, []), (25, 48, 29, 0, []), (28, 0, 0, 1, []), (29, 80, 2, 0, [])]
def mt_5 : List (List (Nat × mx_I)) := [mt_5_0, mt_5_1]
def mt_6_0 : List (Nat × mx_I) := [(0, 55, 5, 0, []), (3, 4, 0, 1, []), (4, 51, 0, 3, []), (7, 2, 1, 1, []), (8, 70, 68, 2, [6]), (11, 70, 161, 2, []), (14, 0, 1, 1, []), (15, 43, 22, 0, [])]
def mt_6_1 : List (Nat × mx_I) := [(18, 0, 1, 1, []), (19, 48, 23, 0, []), (22, 0, 0, 1, []), (23, 80, 2, 0, [])]
def mt_6 : List (List (Nat × mx_I)) := [mt_6_0, mt_6_1]
def mt_7_0 : List (Nat × mx_I) := [(0, 55, 6, 0, []), (3, 4, 0, 1, []), (4, 51, 0, 3, []), (7, 2, 1, 1, []), (8, 70, 68, 2, [6]), (11, 70, 161, 2, []), (14, 0, 1, 1, []), (15, 43, 22, 0, [])]
def mt_7_1 : List (Nat × mx_I) := [(18, 0, 1, 1, []), (19, 48, 23, 0, []), (22, 0, 0, 1, []), (23, 80, 2, 0, [])]
def mt_7 : List (List (Nat × mx_I)) := [mt_7_0, mt_7_1]
def mt_8_0 : List (Nat × mx_I) := [(0, 4, 0, 1, []), (1, 51, 0, 3, []), (4, 2, 1, 1, []), (5, 70, 68, 2, [6]), (8, 0, 2, 1, []), (9, 70, 162, 2, []), (12, 36, 19, 0, []), (15, 0, 1, 1, [])]
def mt_8_1 : List (Nat × mx_I) := [(16, 48, 20, 0, []), (19, 0, 0, 1, []), (20, 80, 0, 0, [])]
def mt_8 : List (List (Nat × mx_I)) := [mt_8_0, mt_8_1]
def mt_9_0 : List (Nat × mx_I) := [(0, 4, 0, 1, []), (1, 51, 0, 3, []), (4, 70, 65, 1, [6]), (7, 5, 5, 2, []), (9, 4, 0, 1, []), (10, 51, 0, 7, []), (13, 70, 65, 1, [6])]
def mt_9_1 : List (Nat × mx_I) := [(16, 5, 6, 2, []), (18, 0, 0, 1, []), (19, 5, 7, 2, []), (21, 2, 7, 2, []), (23, 4, 0, 1, []), (24, 51, 0, 7, []), (27, 70, 65, 1, [6]), (30, 45, 76, 0, [])]
def mt_9_2 : List (Nat × mx_I) := [(33, 2, 6, 2, []), (35, 4, 0, 1, []), (36, 51, 0, 7, []), (39, 70, 65, 1, [6]), (42, 43, 76, 0, []), (45, 4, 0, 1, []), (46, 51, 0, 6, [])]
def mt_9_3 : List (Nat × mx_I) := [(49, 4, 0, 1, []), (50, 51, 0, 7, []), (53, 2, 7, 2, []), (55, 70, 68, 2, [6]), (58, 70, 68, 2, [6]), (61, 2, 4, 2, []), (63, 47, 70, 0, [])]
def mt_9_4 : List (Nat × mx_I) := [(66, 2, 7, 2, []), (68, 5, 6, 2, []), (70, 8, 7, 1, []), (73, 48, 21, 0, []), (76, 4, 0, 1, []), (77, 51, 0, 7, [])]
def mt_9_5 : List (Nat × mx_I) := [(80, 2, 6, 2, []), (82, 2, 5, 2, []), (84, 70, 73, 3, [6]), (87, 4, 0, 1, []), (88, 51, 0, 4, []), (91, 2, 2, 1, []), (92, 70, 71, 2, [6]), (95, 34, 0, 0, [])]
def mt_9_6 : List (Nat × mx_I) := [(96, 4, 0, 1, []), (97, 51, 0, 5, []), (100, 2, 3, 1, []), (101, 70, 71, 2, [6]), (104, 34, 0, 0, []), (105, 4, 0, 1, []), (106, 51, 0, 6, []), (109, 2, 4, 2, []), (111, 70, 71, 2, [6])]
def mt_9_7 : List (Nat × mx_I) := [(114, 34, 0, 0, []), (115, 4, 0, 1, []), (116, 51, 0, 3, []), (119, 2, 1, 1, []), (120, 70, 71, 2, [6]), (123, 0, 1, 1, []), (124, 10, 0, 0, []), (125, 80, 0, 0, [])]
def mt_9 : List (List (Nat × mx_I)) := [mt_9_0, mt_9_1, mt_9_2, mt_9_3, mt_9_4, mt_9_5, mt_9_6, mt_9_7]
def mt_10_0 : List (Nat × mx_I) := [(0, 4, 0, 1, []), (1, 51, 0, 9, []), (4, 0, 100, 2, []), (6, 2, 2, 1, []), (7, 11, 0, 0, []), (8, 2, 3, 1, []), (9, 9, 0, 0, []), (10, 70, 71, 2, [6]), (13, 34, 0, 0, []), (14, 4, 0, 1, []), (15, 51, 0, 10, [])]
def mt_10_1 : List (Nat × mx_I) := [(18, 4, 0, 1, []), (19, 51, 0, 0, []), (22, 70, 71, 2, [6]), (25, 34, 0, 0, []), (26, 4, 0, 1, []), (27, 51, 0, 8, []), (30, 2, 1, 1, []), (31, 70, 71, 2, [6])]
def mt_10_2 : List (Nat × mx_I) := [(34, 80, 0, 0, [])]
def mt_10 : List (List (Nat × mx_I)) := [mt_10_0, mt_10_1, mt_10_2]
def mt_11_0 : List (Nat × mx_I) := [(0, 0, 0, 1, []), (1, 5, 2, 1, []), (2, 2, 2, 1, []), (3, 4, 0, 1, []), (4, 51, 0, 3, []), (7, 70, 65, 1, [6]), (10, 45, 46, 0, []), (13, 4, 0, 1, []), (14, 51, 0, 11, [])]
def mt_11_1 : List (Nat × mx_I) := [(17, 2, 2, 1, []), (18, 4, 0, 1, []), (19, 51, 0, 3, []), (22, 2, 2, 1, []), (23, 70, 68, 2, [6]), (26, 0, 3, 1, []), (27, 43, 36, 0, []), (30, 0, 300, 3, [])]
def mt_11_2 : List (Nat × mx_I) := [(33, 48, 37, 0, []), (36, 0, 4294967295, 1, []), (37, 70, 69, 3, [6]), (40, 8, 2, 1, []), (43, 48, 2, 0, []), (46, 0, 0, 1, []), (47, 5, 2, 1, [])]
def mt_11_3 : List (Nat × mx_I) := [(48, 2, 2, 1, []), (49, 4, 0, 1, []), (50, 51, 0, 8, []), (53, 70, 65, 1, [6]), (56, 45, 100, 0, []), (59, 4, 0, 1, []), (60, 51, 0, 10, []), (63, 2, 2, 1, [])]
def mt_11_4 : List (Nat × mx_I) := [(64, 70, 68, 2, [6]), (67, 2, 1, 1, []), (68, 46, 94, 0, []), (71, 4, 0, 1, []), (72, 51, 0, 11, []), (75, 4, 0, 1, []), (76, 51, 0, 8, []), (79, 2, 2, 1, [])]
def mt_11_5 : List (Nat × mx_I) := [(80, 70, 68, 2, [6]), (83, 4, 0, 1, []), (84, 51, 0, 9, []), (87, 2, 2, 1, []), (88, 70, 68, 2, [6]), (91, 70, 69, 3, [6]), (94, 8, 2, 1, [])]
def mt_11_6 : List (Nat × mx_I) := [(97, 48, 48, 0, []), (100, 83, 0, 0, [])]
def mt_11 : List (List (Nat × mx_I)) := [mt_11_0, mt_11_1, mt_11_2, mt_11_3, mt_11_4, mt_11_5, mt_11_6]
def mt_12_0 : List (Nat × mx_I) := [(0, 4, 0, 1, []), (1, 63, 0, 0, []), (4, 4, 0, 1, []), (5, 61, 6, 0, []), (8, 33, 0, 0, []), (9, 0, 60, 2, []), (11, 70, 64, 2, [98]), (14, 54, 1, 3, [])]
def mt_12_1 : List (Nat × mx_I) := [(17, 4, 0, 1, []), (18, 61, 6, 0, []), (21, 33, 0, 0, []), (22, 0, 6, 2, []), (24, 70, 64, 2, [98]), (27, 54, 1, 4, []), (30, 4, 0, 1, []), (31, 61, 6, 0, [])]
def mt_12_2 : List (Nat × mx_I) := [(34, 33, 0, 0, []), (35, 0, 6, 2, []), (37, 70, 64, 2, [98]), (40, 54, 1, 5, []), (43, 4, 0, 1, []), (44, 61, 6, 0, []), (47, 33, 0, 0, [])]
def mt_12_3 : List (Nat × mx_I) := [(48, 0, 6, 2, []), (50, 70, 64, 2, [98]), (53, 54, 1, 6, []), (56, 4, 0, 1, []), (57, 61, 6, 0, []), (60, 33, 0, 0, []), (61, 0, 729, 3, [])]
def mt_12_4 : List (Nat × mx_I) := [(64, 70, 64, 2, [98]), (67, 54, 1, 7, []), (70, 4, 0, 1, []), (71, 0, 729, 3, []), (74, 62, 3, 0, []), (76, 54, 1, 8, []), (79, 4, 0, 1, [])]
def mt_12_5 : List (Nat × mx_I) := [(80, 4, 1, 1, []), (81, 54, 1, 0, []), (84, 4, 0, 1, []), (85, 4, 2, 1, []), (86, 54, 1, 1, []), (89, 4, 0, 1, []), (90, 4, 3, 1, []), (91, 54, 1, 2, []), (94, 83, 0, 0, [])]
def mt_12 : List (List (Nat × mx_I)) := [mt_12_0, mt_12_1, mt_12_2, mt_12_3, mt_12_4, mt_12_5]
def mt_13_0 : List (Nat × mx_I) := [(0, 4, 0, 1, []), (1, 51, 1, 0, []), (4, 4, 0, 1, []), (5, 51, 1, 0, []), (8, 51, 0, 0, []), (11, 70, 11, 2, [0]), (14, 4, 0, 1, []), (15, 51, 1, 3, [])]
def mt_13_1 : List (Nat × mx_I) := [(18, 70, 75, 1, [6]), (21, 0, 0, 1, []), (22, 5, 2, 1, []), (23, 2, 2, 1, []), (24, 4, 0, 1, []), (25, 51, 1, 0, []), (28, 51, 0, 3, []), (31, 70, 65, 1, [6])]
def mt_13_2 : List (Nat × mx_I) := [(34, 45, 131, 0, []), (37, 4, 0, 1, []), (38, 51, 1, 0, []), (41, 2, 1, 1, []), (42, 4, 0, 1, []), (43, 51, 1, 0, []), (46, 51, 0, 4, [])]
def mt_13_3 : List (Nat × mx_I) := [(49, 2, 2, 1, []), (50, 70, 68, 2, [6]), (53, 70, 4, 3, [0]), (56, 36, 85, 0, []), (59, 4, 0, 1, []), (60, 51, 1, 0, []), (63, 2, 1, 1, [])]
def mt_13_4 : List (Nat × mx_I) := [(64, 4, 0, 1, []), (65, 51, 1, 0, []), (68, 51, 0, 5, []), (71, 2, 2, 1, []), (72, 70, 68, 2, [6]), (75, 70, 4, 3, [0]), (78, 36, 85, 0, [])]
def mt_13_5 : List (Nat × mx_I) := [(81, 0, 1, 1, []), (82, 48, 86, 0, []), (85, 0, 0, 1, []), (86, 5, 3, 1, []), (87, 2, 3, 1, []), (88, 36, 125, 0, []), (91, 4, 0, 1, []), (92, 51, 1, 0, []), (95, 2, 2, 1, [])]
def mt_13_6 : List (Nat × mx_I) := [(96, 70, 6, 2, [0]), (99, 36, 125, 0, []), (102, 4, 0, 1, []), (103, 51, 1, 0, []), (106, 51, 0, 11, []), (109, 2, 2, 1, []), (110, 70, 68, 2, [6])]
def mt_13_7 : List (Nat × mx_I) := [(113, 39, 125, 0, []), (116, 4, 0, 1, []), (117, 51, 1, 3, []), (120, 2, 2, 1, []), (121, 70, 71, 2, [6]), (124, 34, 0, 0, []), (125, 8, 2, 1, [])]
def mt_13_8 : List (Nat × mx_I) := [(128, 48, 23, 0, []), (131, 4, 0, 1, []), (132, 51, 1, 3, []), (135, 70, 65, 1, [6]), (138, 80, 0, 0, [])]
def mt_13 : List (List (Nat × mx_I)) := [mt_13_0, mt_13_1, mt_13_2, mt_13_3, mt_13_4, mt_13_5, mt_13_6, mt_13_7, mt_13_8]
def mt_14_0 : List (Nat × mx_I) := [(0, 4, 0, 1, []), (1, 4, 0, 1, []), (2, 51, 1, 0, []), (5, 51, 0, 1, []), (8, 2, 1, 1, []), (9, 70, 68, 2, [6]), (12, 70, 13, 2, [1]), (15, 0, 6, 2, [])]
def mt_14_1 : List (Nat × mx_I) := [(17, 47, 22, 0, []), (20, 0, 0, 1, []), (21, 80, 2, 0, []), (22, 4, 0, 1, []), (23, 51, 1, 2, []), (26, 4, 0, 1, []), (27, 51, 1, 0, []), (30, 51, 0, 0, [])]
def mt_14_2 : List (Nat × mx_I) := [(33, 70, 98, 2, [9]), (36, 4, 0, 1, []), (37, 51, 1, 2, []), (40, 2, 1, 1, []), (41, 70, 102, 2, [9]), (44, 6, 2, 1, []), (45, 4, 0, 1, []), (46, 4, 0, 1, []), (47, 70, 15, 1, [1])]
def mt_14_3 : List (Nat × mx_I) := [(50, 53, 1, 9, []), (53, 0, 0, 1, []), (54, 5, 4, 2, []), (56, 2, 4, 2, []), (58, 4, 0, 1, []), (59, 51, 1, 9, []), (62, 45, 119, 0, [])]
def mt_14_4 : List (Nat × mx_I) := [(65, 2, 4, 2, []), (67, 4, 0, 1, []), (68, 51, 1, 8, []), (71, 57, 0, 0, []), (72, 45, 119, 0, []), (75, 4, 0, 1, []), (76, 51, 1, 7, []), (79, 2, 4, 2, [])]
def mt_14_5 : List (Nat × mx_I) := [(81, 4, 0, 1, []), (82, 51, 1, 2, []), (85, 2, 1, 1, []), (86, 70, 104, 2, [9]), (89, 70, 69, 3, [6]), (92, 4, 0, 1, []), (93, 51, 1, 8, [])]
def mt_14_6 : List (Nat × mx_I) := [(96, 2, 4, 2, []), (98, 4, 0, 1, []), (99, 51, 1, 2, []), (102, 2, 1, 1, []), (103, 70, 102, 2, [9]), (106, 3, 2, 1, []), (107, 20, 0, 0, []), (108, 60, 0, 0, []), (109, 4, 0, 1, []), (110, 70, 16, 1, [1])]
def mt_14_7 : List (Nat × mx_I) := [(113, 8, 4, 1, []), (116, 48, 56, 0, []), (119, 0, 1, 1, []), (120, 80, 2, 0, [])]
def mt_14 : List (List (Nat × mx_I)) := [mt_14_0, mt_14_1, mt_14_2, mt_14_3, mt_14_4, mt_14_5, mt_14_6, mt_14_7]
def mt_15_0 : List (Nat × mx_I) := [(0, 0, 1, 1, []), (1, 5, 1, 1, []), (2, 0, 0, 1, []), (3, 5, 2, 1, []), (4, 2, 2, 1, []), (5, 4, 0, 1, []), (6, 51, 1, 3, []), (9, 70, 65, 1, [6]), (12, 45, 135, 0, []), (15, 4, 0, 1, [])]
def mt_15_1 : List (Nat × mx_I) := [(16, 51, 1, 3, []), (19, 2, 2, 1, []), (20, 70, 68, 2, [6]), (23, 5, 3, 1, []), (24, 4, 0, 1, []), (25, 51, 1, 0, []), (28, 51, 0, 6, []), (31, 2, 3, 1, [])]
def mt_15_2 : List (Nat × mx_I) := [(32, 70, 68, 2, [6]), (35, 5, 4, 2, []), (37, 4, 0, 1, []), (38, 51, 1, 0, []), (41, 51, 0, 3, []), (44, 2, 3, 1, []), (45, 70, 68, 2, [6])]
def mt_15_3 : List (Nat × mx_I) := [(48, 5, 5, 2, []), (50, 4, 0, 1, []), (51, 51, 1, 4, []), (54, 2, 2, 1, []), (55, 4, 0, 1, []), (56, 51, 1, 1, []), (59, 0, 0, 1, []), (60, 2, 4, 2, []), (62, 0, 1, 1, []), (63, 0, 1, 1, [])]
def mt_15_4 : List (Nat × mx_I) := [(64, 2, 5, 2, []), (66, 4, 0, 1, []), (67, 51, 1, 0, []), (70, 2, 3, 1, []), (71, 70, 8, 2, [0]), (74, 70, 113, 7, [10]), (77, 70, 69, 3, [6])]
def mt_15_5 : List (Nat × mx_I) := [(80, 4, 0, 1, []), (81, 51, 1, 5, []), (84, 2, 2, 1, []), (85, 4, 0, 1, []), (86, 51, 1, 1, []), (89, 0, 1, 1, []), (90, 2, 4, 2, []), (92, 0, 0, 1, []), (93, 0, 0, 1, []), (94, 2, 5, 2, [])]
def mt_15_6 : List (Nat × mx_I) := [(96, 4, 0, 1, []), (97, 51, 1, 0, []), (100, 2, 3, 1, []), (101, 70, 8, 2, [0]), (104, 70, 113, 7, [10]), (107, 70, 69, 3, [6]), (110, 4, 0, 1, []), (111, 51, 1, 6, [])]
def mt_15_7 : List (Nat × mx_I) := [(114, 2, 2, 1, []), (115, 0, 0, 1, []), (116, 70, 69, 3, [6]), (119, 4, 0, 1, []), (120, 2, 2, 1, []), (121, 0, 1, 1, []), (122, 70, 17, 3, [1]), (125, 2, 1, 1, []), (126, 0, 3, 1, []), (127, 11, 0, 0, [])]
def mt_15_8 : List (Nat × mx_I) := [(128, 5, 1, 1, []), (129, 8, 2, 1, []), (132, 48, 4, 0, []), (135, 2, 1, 1, []), (136, 80, 0, 0, [])]
def mt_15 : List (List (Nat × mx_I)) := [mt_15_0, mt_15_1, mt_15_2, mt_15_3, mt_15_4, mt_15_5, mt_15_6, mt_15_7, mt_15_8]
def mt_16_0 : List (Nat × mx_I) := [(0, 0, 1, 1, []), (1, 5, 1, 1, []), (2, 4, 0, 1, []), (3, 51, 1, 3, []), (6, 70, 65, 1, [6]), (9, 0, 1, 1, []), (10, 10, 0, 0, []), (11, 5, 2, 1, []), (12, 2, 2, 1, []), (13, 38, 82, 0, [])]
def mt_16_1 : List (Nat × mx_I) := [(16, 2, 1, 1, []), (17, 36, 82, 0, []), (20, 4, 0, 1, []), (21, 2, 2, 1, []), (22, 0, 4294967295, 1, []), (23, 70, 17, 3, [1]), (26, 4, 0, 1, []), (27, 51, 1, 6, []), (30, 2, 2, 1, []), (31, 70, 68, 2, [6])]
def mt_16_2 : List (Nat × mx_I) := [(34, 0, 2, 1, []), (35, 43, 42, 0, []), (38, 0, 1, 1, []), (39, 48, 43, 0, []), (42, 0, 0, 1, []), (43, 5, 1, 1, []), (44, 4, 0, 1, []), (45, 51, 1, 6, [])]
def mt_16_3 : List (Nat × mx_I) := [(48, 2, 2, 1, []), (49, 2, 1, 1, []), (50, 36, 57, 0, []), (53, 0, 0, 1, []), (54, 48, 67, 0, []), (57, 4, 0, 1, []), (58, 51, 1, 6, []), (61, 2, 2, 1, []), (62, 70, 68, 2, [6])]
def mt_16_4 : List (Nat × mx_I) := [(65, 0, 1, 1, []), (66, 9, 0, 0, []), (67, 70, 69, 3, [6]), (70, 4, 0, 1, []), (71, 2, 2, 1, []), (72, 0, 1, 1, []), (73, 70, 17, 3, [1]), (76, 8, 2, 4294967295, []), (79, 48, 12, 0, [])]
def mt_16_5 : List (Nat × mx_I) := [(82, 83, 0, 0, [])]
def mt_16 : List (List (Nat × mx_I)) := [mt_16_0, mt_16_1, mt_16_2, mt_16_3, mt_16_4, mt_16_5]
def mt_17_0 : List (Nat × mx_I) := [(0, 4, 0, 1, []), (1, 51, 1, 0, []), (4, 51, 0, 4, []), (7, 4, 0, 1, []), (8, 51, 1, 3, []), (11, 2, 1, 1, []), (12, 70, 68, 2, [6]), (15, 70, 68, 2, [6])]
def mt_17_1 : List (Nat × mx_I) := [(18, 5, 3, 1, []), (19, 4, 0, 1, []), (20, 51, 1, 0, []), (23, 51, 0, 5, []), (26, 4, 0, 1, []), (27, 51, 1, 3, []), (30, 2, 1, 1, []), (31, 70, 68, 2, [6])]
def mt_17_2 : List (Nat × mx_I) := [(34, 70, 68, 2, [6]), (37, 5, 4, 2, []), (39, 4, 0, 1, []), (40, 51, 1, 6, []), (43, 2, 1, 1, []), (44, 70, 68, 2, [6]), (47, 37, 62, 0, [])]
def mt_17_3 : List (Nat × mx_I) := [(50, 4, 0, 1, []), (51, 2, 1, 1, []), (52, 2, 3, 1, []), (53, 2, 4, 2, []), (55, 2, 2, 1, []), (56, 70, 18, 5, [1]), (59, 48, 95, 0, []), (62, 4, 0, 1, []), (63, 51, 1, 6, [])]
def mt_17_4 : List (Nat × mx_I) := [(66, 2, 1, 1, []), (67, 70, 68, 2, [6]), (70, 0, 1, 1, []), (71, 43, 86, 0, []), (74, 4, 0, 1, []), (75, 2, 1, 1, []), (76, 2, 3, 1, []), (77, 2, 4, 2, []), (79, 2, 2, 1, [])]
def mt_17_5 : List (Nat × mx_I) := [(80, 70, 19, 5, [1]), (83, 48, 95, 0, []), (86, 4, 0, 1, []), (87, 2, 1, 1, []), (88, 2, 4, 2, []), (90, 2, 3, 1, []), (91, 2, 2, 1, []), (92, 70, 18, 5, [1]), (95, 83, 0, 0, [])]
def mt_17 : List (List (Nat × mx_I)) := [mt_17_0, mt_17_1, mt_17_2, mt_17_3, mt_17_4, mt_17_5]
def mt_18_0 : List (Nat × mx_I) := [(0, 4, 0, 1, []), (1, 51, 1, 2, []), (4, 2, 2, 1, []), (5, 2, 4, 2, []), (7, 28, 0, 0, []), (8, 4, 0, 1, []), (9, 51, 1, 4, []), (12, 2, 1, 1, []), (13, 70, 68, 2, [6])]
def mt_18_1 : List (Nat × mx_I) := [(16, 28, 0, 0, []), (17, 21, 0, 0, []), (18, 70, 100, 3, [9]), (21, 4, 0, 1, []), (22, 51, 1, 2, []), (25, 2, 2, 1, []), (26, 2, 4, 2, []), (28, 2, 4, 2, []), (30, 2, 4, 2, [])]
def mt_18_2 : List (Nat × mx_I) := [(32, 70, 101, 5, [9]), (35, 4, 0, 1, []), (36, 51, 1, 2, []), (39, 2, 3, 1, []), (40, 2, 4, 2, []), (42, 16, 0, 0, []), (43, 0, 0, 1, []), (44, 0, 0, 1, []), (45, 70, 101, 5, [9])]
def mt_18_3 : List (Nat × mx_I) := [(48, 83, 0, 0, [])]
def mt_18 : List (List (Nat × mx_I)) := [mt_18_0, mt_18_1, mt_18_2, mt_18_3]
def mt_19_0 : List (Nat × mx_I) := [(0, 4, 0, 1, []), (1, 51, 1, 2, []), (4, 2, 2, 1, []), (5, 2, 4, 2, []), (7, 28, 0, 0, []), (8, 4, 0, 1, []), (9, 51, 1, 5, []), (12, 2, 1, 1, []), (13, 70, 68, 2, [6])]
def mt_19_1 : List (Nat × mx_I) := [(16, 28, 0, 0, []), (17, 21, 0, 0, []), (18, 70, 100, 3, [9]), (21, 4, 0, 1, []), (22, 51, 1, 2, []), (25, 2, 3, 1, []), (26, 2, 4, 2, []), (28, 28, 0, 0, []), (29, 4, 0, 1, []), (30, 51, 1, 5, [])]
def mt_19_2 : List (Nat × mx_I) := [(33, 2, 1, 1, []), (34, 70, 68, 2, [6]), (37, 28, 0, 0, []), (38, 21, 0, 0, []), (39, 70, 100, 3, [9]), (42, 83, 0, 0, [])]
def mt_19 : List (List (Nat × mx_I)) := [mt_19_0, mt_19_1, mt_19_2]
def mt_20_0 : List (Nat × mx_I) := [(0, 0, 12, 2, []), (2, 5, 1, 1, []), (3, 0, 0, 1, []), (4, 5, 2, 1, []), (5, 2, 2, 1, []), (6, 4, 0, 1, []), (7, 51, 1, 9, []), (10, 45, 32, 0, []), (13, 2, 1, 1, []), (14, 4, 0, 1, []), (15, 51, 1, 7, [])]
def mt_20_1 : List (Nat × mx_I) := [(18, 2, 2, 1, []), (19, 70, 68, 2, [6]), (22, 66, 0, 0, []), (25, 5, 1, 1, []), (26, 8, 2, 1, []), (29, 48, 5, 0, [])]
def mt_20_2 : List (Nat × mx_I) := [(32, 2, 1, 1, []), (33, 80, 0, 0, [])]
def mt_20 : List (List (Nat × mx_I)) := [mt_20_0, mt_20_1, mt_20_2]
def mt_21_0 : List (Nat × mx_I) := [(0, 0, 0, 1, []), (1, 5, 1, 1, []), (2, 0, 0, 1, []), (3, 5, 2, 1, []), (4, 2, 2, 1, []), (5, 4, 0, 1, []), (6, 51, 1, 9, []), (9, 45, 31, 0, []), (12, 2, 1, 1, []), (13, 4, 0, 1, []), (14, 51, 1, 7, [])]
def mt_21_1 : List (Nat × mx_I) := [(17, 2, 2, 1, []), (18, 70, 68, 2, [6]), (21, 65, 0, 0, []), (24, 5, 1, 1, []), (25, 8, 2, 1, []), (28, 48, 4, 0, []), (31, 2, 1, 1, [])]
def mt_21_2 : List (Nat × mx_I) := [(32, 80, 0, 0, [])]
def mt_21 : List (List (Nat × mx_I)) := [mt_21_0, mt_21_1, mt_21_2]
def mt_22_0 : List (Nat × mx_I) := [(0, 0, 4294967295, 1, []), (1, 5, 2, 1, []), (2, 0, 0, 1, []), (3, 5, 3, 1, []), (4, 2, 3, 1, []), (5, 4, 0, 1, []), (6, 51, 1, 9, []), (9, 45, 50, 0, []), (12, 4, 0, 1, []), (13, 51, 1, 7, [])]
def mt_22_1 : List (Nat × mx_I) := [(16, 2, 3, 1, []), (17, 70, 68, 2, [6]), (20, 2, 1, 1, []), (21, 47, 44, 0, []), (24, 2, 2, 1, []), (25, 38, 42, 0, []), (28, 4, 0, 1, []), (29, 2, 3, 1, []), (30, 70, 23, 2, [1])]
def mt_22_2 : List (Nat × mx_I) := [(33, 4, 0, 1, []), (34, 2, 2, 1, []), (35, 70, 23, 2, [1]), (38, 27, 0, 0, []), (39, 41, 44, 0, []), (42, 2, 3, 1, []), (43, 5, 2, 1, []), (44, 8, 3, 1, []), (47, 48, 4, 0, [])]
def mt_22_3 : List (Nat × mx_I) := [(50, 0, 4294967295, 1, []), (51, 5, 3, 1, []), (52, 0, 0, 1, []), (53, 5, 4, 2, []), (55, 2, 4, 2, []), (57, 4, 0, 1, []), (58, 51, 1, 9, []), (61, 45, 123, 0, [])]
def mt_22_4 : List (Nat × mx_I) := [(64, 2, 2, 1, []), (65, 38, 83, 0, []), (68, 4, 0, 1, []), (69, 2, 4, 2, []), (71, 70, 23, 2, [1]), (74, 4, 0, 1, []), (75, 2, 2, 1, []), (76, 70, 23, 2, [1]), (79, 27, 0, 0, [])]
def mt_22_5 : List (Nat × mx_I) := [(80, 41, 87, 0, []), (83, 0, 1, 1, []), (84, 48, 88, 0, []), (87, 0, 0, 1, []), (88, 5, 5, 2, []), (90, 2, 5, 2, []), (92, 36, 117, 0, []), (95, 2, 3, 1, [])]
def mt_22_6 : List (Nat × mx_I) := [(96, 38, 114, 0, []), (99, 4, 0, 1, []), (100, 2, 4, 2, []), (102, 70, 23, 2, [1]), (105, 4, 0, 1, []), (106, 2, 3, 1, []), (107, 70, 23, 2, [1]), (110, 27, 0, 0, []), (111, 39, 117, 0, [])]
def mt_22_7 : List (Nat × mx_I) := [(114, 2, 4, 2, []), (116, 5, 3, 1, []), (117, 8, 4, 1, []), (120, 48, 55, 0, []), (123, 2, 3, 1, []), (124, 39, 131, 0, []), (127, 0, 4294967295, 1, [])]
def mt_22_8 : List (Nat × mx_I) := [(128, 48, 137, 0, []), (131, 4, 0, 1, []), (132, 2, 3, 1, []), (133, 70, 23, 2, [1]), (136, 29, 0, 0, []), (137, 80, 0, 0, [])]
def mt_22 : List (List (Nat × mx_I)) := [mt_22_0, mt_22_1, mt_22_2, mt_22_3, mt_22_4, mt_22_5, mt_22_6, mt_22_7, mt_22_8]
def mt_23_0 : List (Nat × mx_I) := [(0, 2, 1, 1, []), (1, 38, 22, 0, []), (4, 2, 1, 1, []), (5, 4, 0, 1, []), (6, 51, 1, 8, []), (9, 57, 0, 0, []), (10, 45, 22, 0, []), (13, 4, 0, 1, []), (14, 51, 1, 8, [])]
def mt_23_1 : List (Nat × mx_I) := [(17, 2, 1, 1, []), (18, 58, 3, 0, []), (19, 48, 23, 0, []), (22, 1, 0, 1, []), (23, 81, 0, 0, [])]
def mt_23 : List (List (Nat × mx_I)) := [mt_23_0, mt_23_1]
def mt_24_0 : List (Nat × mx_I) := [(0, 4, 0, 1, []), (1, 63, 0, 0, []), (4, 4, 0, 1, []), (5, 61, 6, 0, []), (8, 33, 0, 0, []), (9, 0, 12, 2, []), (11, 70, 64, 2, [98]), (14, 54, 2, 2, [])]
def mt_24_1 : List (Nat × mx_I) := [(17, 4, 0, 1, []), (18, 61, 6, 0, []), (21, 33, 0, 0, []), (22, 0, 60, 2, []), (24, 70, 64, 2, [98]), (27, 54, 2, 3, []), (30, 4, 0, 1, []), (31, 61, 6, 0, [])]
def mt_24_2 : List (Nat × mx_I) := [(34, 33, 0, 0, []), (35, 0, 720, 3, []), (38, 70, 64, 2, [98]), (41, 54, 2, 4, []), (44, 4, 0, 1, []), (45, 61, 6, 0, [])]
def mt_24_3 : List (Nat × mx_I) := [(48, 33, 0, 0, []), (49, 0, 720, 3, []), (52, 70, 64, 2, [98]), (55, 54, 2, 5, []), (58, 4, 0, 1, []), (59, 61, 6, 0, []), (62, 33, 0, 0, []), (63, 0, 720, 3, [])]
def mt_24_4 : List (Nat × mx_I) := [(66, 70, 64, 2, [98]), (69, 54, 2, 6, []), (72, 4, 0, 1, []), (73, 4, 1, 1, []), (74, 54, 2, 0, []), (77, 83, 0, 0, [])]
def mt_24 : List (List (Nat × mx_I)) := [mt_24_0, mt_24_1, mt_24_2, mt_24_3, mt_24_4]
def mt_25_0 : List (Nat × mx_I) := [(0, 4, 0, 1, []), (1, 51, 2, 2, []), (4, 2, 1, 1, []), (5, 70, 68, 2, [6]), (8, 41, 15, 0, []), (11, 0, 1, 1, []), (12, 48, 16, 0, []), (15, 0, 0, 1, [])]
def mt_25_1 : List (Nat × mx_I) := [(16, 80, 2, 0, [])]
def mt_25 : List (List (Nat × mx_I)) := [mt_25_0, mt_25_1]
def mt_26_0 : List (Nat × mx_I) := [(0, 4, 0, 1, []), (1, 33, 0, 0, []), (2, 51, 2, 1, []), (5, 0, 1, 1, []), (6, 9, 0, 0, []), (7, 53, 2, 1, []), (10, 4, 0, 1, []), (11, 51, 2, 2, []), (14, 2, 1, 1, []), (15, 4, 0, 1, [])]
def mt_26_1 : List (Nat × mx_I) := [(16, 51, 2, 1, []), (19, 70, 69, 3, [6]), (22, 4, 0, 1, []), (23, 51, 2, 0, []), (26, 4, 0, 1, []), (27, 51, 2, 0, []), (30, 51, 0, 0, [])]
def mt_26_2 : List (Nat × mx_I) := [(33, 70, 11, 2, [0]), (36, 0, 0, 1, []), (37, 5, 2, 1, []), (38, 2, 2, 1, []), (39, 0, 60, 2, []), (41, 45, 64, 0, []), (44, 4, 0, 1, []), (45, 51, 2, 4, [])]
def mt_26_3 : List (Nat × mx_I) := [(48, 2, 1, 1, []), (49, 0, 60, 2, []), (51, 11, 0, 0, []), (52, 2, 2, 1, []), (53, 9, 0, 0, []), (54, 0, 4294967295, 1, []), (55, 70, 69, 3, [6]), (58, 8, 2, 1, []), (61, 48, 38, 0, [])]
def mt_26_4 : List (Nat × mx_I) := [(64, 0, 0, 1, []), (65, 5, 2, 1, []), (66, 0, 0, 1, []), (67, 5, 3, 1, []), (68, 0, 0, 1, []), (69, 5, 4, 2, []), (71, 2, 4, 2, []), (73, 4, 0, 1, []), (74, 51, 2, 0, []), (77, 51, 0, 3, [])]
def mt_26_5 : List (Nat × mx_I) := [(80, 70, 65, 1, [6]), (83, 45, 141, 0, []), (86, 4, 0, 1, []), (87, 51, 2, 0, []), (90, 2, 4, 2, []), (92, 2, 1, 1, []), (93, 70, 5, 3, [0])]
def mt_26_6 : List (Nat × mx_I) := [(96, 36, 135, 0, []), (99, 4, 0, 1, []), (100, 51, 2, 0, []), (103, 2, 4, 2, []), (105, 70, 6, 2, [0]), (108, 37, 114, 0, []), (111, 48, 135, 0, [])]
def mt_26_7 : List (Nat × mx_I) := [(114, 8, 2, 1, []), (117, 4, 0, 1, []), (118, 51, 2, 0, []), (121, 51, 0, 11, []), (124, 2, 4, 2, []), (126, 70, 68, 2, [6])]
def mt_26_8 : List (Nat × mx_I) := [(129, 38, 135, 0, []), (132, 8, 3, 1, []), (135, 8, 4, 1, []), (138, 48, 71, 0, []), (141, 4, 0, 1, []), (142, 2, 1, 1, []), (143, 0, 2, 1, [])]
def mt_26_9 : List (Nat × mx_I) := [(144, 2, 3, 1, []), (145, 11, 0, 0, []), (146, 2, 2, 1, []), (147, 45, 154, 0, []), (150, 0, 1, 1, []), (151, 48, 155, 0, []), (154, 0, 0, 1, []), (155, 70, 27, 3, [2]), (158, 80, 0, 0, [])]
def mt_26 : List (List (Nat × mx_I)) := [mt_26_0, mt_26_1, mt_26_2, mt_26_3, mt_26_4, mt_26_5, mt_26_6, mt_26_7, mt_26_8, mt_26_9]
def mt_27_0 : List (Nat × mx_I) := [(0, 0, 0, 1, []), (1, 5, 3, 1, []), (2, 0, 0, 1, []), (3, 5, 4, 2, []), (5, 2, 4, 2, []), (7, 4, 0, 1, []), (8, 51, 2, 0, []), (11, 51, 0, 3, []), (14, 70, 65, 1, [6])]
def mt_27_1 : List (Nat × mx_I) := [(17, 45, 113, 0, []), (20, 4, 0, 1, []), (21, 51, 2, 0, []), (24, 2, 4, 2, []), (26, 2, 1, 1, []), (27, 70, 5, 3, [0]), (30, 36, 107, 0, [])]
def mt_27_2 : List (Nat × mx_I) := [(33, 4, 0, 1, []), (34, 51, 2, 0, []), (37, 2, 4, 2, []), (39, 70, 6, 2, [0]), (42, 37, 48, 0, []), (45, 48, 107, 0, [])]
def mt_27_3 : List (Nat × mx_I) := [(48, 2, 2, 1, []), (49, 37, 70, 0, []), (52, 4, 0, 1, []), (53, 51, 2, 0, []), (56, 51, 0, 11, []), (59, 2, 4, 2, []), (61, 70, 68, 2, [6])]
def mt_27_4 : List (Nat × mx_I) := [(64, 38, 70, 0, []), (67, 48, 107, 0, []), (70, 4, 0, 1, []), (71, 2, 1, 1, []), (72, 2, 4, 2, []), (74, 70, 28, 3, [2]), (77, 2, 2, 1, []), (78, 36, 97, 0, [])]
def mt_27_5 : List (Nat × mx_I) := [(81, 4, 0, 1, []), (82, 51, 2, 0, []), (85, 51, 0, 3, []), (88, 2, 4, 2, []), (90, 0, 5, 1, []), (91, 70, 69, 3, [6]), (94, 48, 104, 0, [])]
def mt_27_6 : List (Nat × mx_I) := [(97, 4, 0, 1, []), (98, 2, 4, 2, []), (100, 2, 1, 1, []), (101, 70, 29, 3, [2]), (104, 8, 3, 1, []), (107, 8, 4, 1, []), (110, 48, 5, 0, [])]
def mt_27_7 : List (Nat × mx_I) := [(113, 2, 3, 1, []), (114, 80, 0, 0, [])]
def mt_27 : List (List (Nat × mx_I)) := [mt_27_0, mt_27_1, mt_27_2, mt_27_3, mt_27_4, mt_27_5, mt_27_6, mt_27_7]
def mt_28_0 : List (Nat × mx_I) := [(0, 4, 0, 1, []), (1, 51, 2, 4, []), (4, 2, 1, 1, []), (5, 0, 60, 2, []), (7, 11, 0, 0, []), (8, 2, 2, 1, []), (9, 9, 0, 0, []), (10, 4, 0, 1, []), (11, 51, 2, 0, []), (14, 51, 0, 3, [])]
def mt_28_1 : List (Nat × mx_I) := [(17, 2, 2, 1, []), (18, 70, 68, 2, [6]), (21, 70, 69, 3, [6]), (24, 4, 0, 1, []), (25, 51, 2, 5, []), (28, 2, 1, 1, []), (29, 0, 60, 2, []), (31, 11, 0, 0, [])]
def mt_28_2 : List (Nat × mx_I) := [(32, 2, 2, 1, []), (33, 9, 0, 0, []), (34, 4, 0, 1, []), (35, 51, 2, 0, []), (38, 51, 0, 4, []), (41, 2, 2, 1, []), (42, 70, 68, 2, [6]), (45, 70, 69, 3, [6])]
def mt_28_3 : List (Nat × mx_I) := [(48, 4, 0, 1, []), (49, 51, 2, 6, []), (52, 2, 1, 1, []), (53, 0, 60, 2, []), (55, 11, 0, 0, []), (56, 2, 2, 1, []), (57, 9, 0, 0, []), (58, 4, 0, 1, []), (59, 51, 2, 0, []), (62, 51, 0, 5, [])]
def mt_28_4 : List (Nat × mx_I) := [(65, 2, 2, 1, []), (66, 70, 68, 2, [6]), (69, 70, 69, 3, [6]), (72, 4, 0, 1, []), (73, 51, 2, 3, []), (76, 2, 2, 1, []), (77, 4, 0, 1, []), (78, 51, 2, 1, [])]
def mt_28_5 : List (Nat × mx_I) := [(81, 70, 69, 3, [6]), (84, 83, 0, 0, [])]
def mt_28 : List (List (Nat × mx_I)) := [mt_28_0, mt_28_1, mt_28_2, mt_28_3, mt_28_4, mt_28_5]
def mt_29_0 : List (Nat × mx_I) := [(0, 4, 0, 1, []), (1, 51, 2, 0, []), (4, 51, 0, 4, []), (7, 2, 1, 1, []), (8, 70, 68, 2, [6]), (11, 2, 2, 1, []), (12, 43, 29, 0, []), (15, 4, 0, 1, [])]
def mt_29_1 : List (Nat × mx_I) := [(16, 51, 2, 0, []), (19, 51, 0, 5, []), (22, 2, 1, 1, []), (23, 70, 68, 2, [6]), (26, 48, 40, 0, []), (29, 4, 0, 1, []), (30, 51, 2, 0, [])]
def mt_29_2 : List (Nat × mx_I) := [(33, 51, 0, 4, []), (36, 2, 1, 1, []), (37, 70, 68, 2, [6]), (40, 5, 3, 1, []), (41, 4, 0, 1, []), (42, 51, 2, 0, []), (45, 51, 0, 3, [])]
def mt_29_3 : List (Nat × mx_I) := [(48, 2, 1, 1, []), (49, 0, 3, 1, []), (50, 70, 69, 3, [6]), (53, 4, 0, 1, []), (54, 51, 2, 0, []), (57, 51, 0, 4, []), (60, 2, 1, 1, []), (61, 2, 3, 1, []), (62, 70, 69, 3, [6])]
def mt_29_4 : List (Nat × mx_I) := [(65, 4, 0, 1, []), (66, 51, 2, 0, []), (69, 51, 0, 5, []), (72, 2, 1, 1, []), (73, 2, 2, 1, []), (74, 70, 69, 3, [6]), (77, 83, 0, 0, [])]
def mt_29 : List (List (Nat × mx_I)) := [mt_29_0, mt_29_1, mt_29_2, mt_29_3, mt_29_4]
def mt_30_0 : List (Nat × mx_I) := [(0, 4, 0, 1, []), (1, 51, 2, 4, []), (4, 2, 1, 1, []), (5, 0, 60, 2, []), (7, 11, 0, 0, []), (8, 2, 2, 1, []), (9, 9, 0, 0, []), (10, 70, 68, 2, [6]), (13, 0, 4294967295, 1, []), (14, 42, 21, 0, [])]
def mt_30_1 : List (Nat × mx_I) := [(17, 0, 1, 1, []), (18, 48, 22, 0, []), (21, 0, 0, 1, []), (22, 80, 2, 0, [])]
def mt_30 : List (List (Nat × mx_I)) := [mt_30_0, mt_30_1]
def mt_31_0 : List (Nat × mx_I) := [(0, 4, 0, 1, []), (1, 2, 1, 1, []), (2, 70, 25, 2, [2]), (5, 37, 10, 0, []), (8, 0, 0, 1, []), (9, 80, 2, 0, []), (10, 0, 0, 1, []), (11, 5, 2, 1, []), (12, 2, 2, 1, []), (13, 4, 0, 1, []), (14, 51, 2, 0, [])]
def mt_31_1 : List (Nat × mx_I) := [(17, 51, 0, 3, []), (20, 70, 65, 1, [6]), (23, 45, 62, 0, []), (26, 4, 0, 1, []), (27, 2, 1, 1, []), (28, 2, 2, 1, []), (29, 70, 30, 3, [2])]
def mt_31_2 : List (Nat × mx_I) := [(32, 36, 56, 0, []), (35, 4, 0, 1, []), (36, 51, 2, 3, []), (39, 2, 2, 1, []), (40, 70, 68, 2, [6]), (43, 4, 0, 1, []), (44, 51, 2, 2, []), (47, 2, 1, 1, [])]
def mt_31_3 : List (Nat × mx_I) := [(48, 70, 68, 2, [6]), (51, 42, 56, 0, []), (54, 0, 0, 1, []), (55, 80, 2, 0, []), (56, 8, 2, 1, []), (59, 48, 12, 0, []), (62, 0, 1, 1, []), (63, 80, 2, 0, [])]
def mt_31 : List (List (Nat × mx_I)) := [mt_31_0, mt_31_1, mt_31_2, mt_31_3]
def mt_32_0 : List (Nat × mx_I) := [(0, 0, 0, 1, []), (1, 5, 2, 1, []), (2, 0, 0, 1, []), (3, 5, 3, 1, []), (4, 2, 3, 1, []), (5, 4, 0, 1, []), (6, 51, 2, 0, []), (9, 51, 0, 3, []), (12, 70, 65, 1, [6]), (15, 45, 111, 0, [])]
def mt_32_1 : List (Nat × mx_I) := [(18, 4, 0, 1, []), (19, 2, 1, 1, []), (20, 2, 3, 1, []), (21, 70, 30, 3, [2]), (24, 37, 30, 0, []), (27, 48, 105, 0, []), (30, 4, 0, 1, []), (31, 51, 2, 0, [])]
def mt_32_2 : List (Nat × mx_I) := [(34, 51, 0, 3, []), (37, 2, 3, 1, []), (38, 4, 0, 1, []), (39, 51, 2, 4, []), (42, 2, 1, 1, []), (43, 0, 60, 2, []), (45, 11, 0, 0, []), (46, 2, 3, 1, []), (47, 9, 0, 0, [])]
def mt_32_3 : List (Nat × mx_I) := [(48, 70, 68, 2, [6]), (51, 70, 69, 3, [6]), (54, 4, 0, 1, []), (55, 51, 2, 0, []), (58, 51, 0, 4, []), (61, 2, 3, 1, []), (62, 4, 0, 1, []), (63, 51, 2, 5, [])]
def mt_32_4 : List (Nat × mx_I) := [(66, 2, 1, 1, []), (67, 0, 60, 2, []), (69, 11, 0, 0, []), (70, 2, 3, 1, []), (71, 9, 0, 0, []), (72, 70, 68, 2, [6]), (75, 70, 69, 3, [6]), (78, 4, 0, 1, []), (79, 51, 2, 0, [])]
def mt_32_5 : List (Nat × mx_I) := [(82, 51, 0, 5, []), (85, 2, 3, 1, []), (86, 4, 0, 1, []), (87, 51, 2, 6, []), (90, 2, 1, 1, []), (91, 0, 60, 2, []), (93, 11, 0, 0, []), (94, 2, 3, 1, []), (95, 9, 0, 0, [])]
def mt_32_6 : List (Nat × mx_I) := [(96, 70, 68, 2, [6]), (99, 70, 69, 3, [6]), (102, 8, 2, 1, []), (105, 8, 3, 1, []), (108, 48, 4, 0, []), (111, 4, 0, 1, [])]
def mt_32_7 : List (Nat × mx_I) := [(112, 51, 2, 2, []), (115, 2, 1, 1, []), (116, 0, 0, 1, []), (117, 70, 69, 3, [6]), (120, 2, 2, 1, []), (121, 80, 0, 0, [])]
def mt_32 : List (List (Nat × mx_I)) := [mt_32_0, mt_32_1, mt_32_2, mt_32_3, mt_32_4, mt_32_5, mt_32_6, mt_32_7]
def mt_33_0 : List (Nat × mx_I) := [(0, 4, 0, 1, []), (1, 63, 0, 0, []), (4, 4, 0, 1, []), (5, 61, 6, 0, []), (8, 33, 0, 0, []), (9, 0, 6, 2, []), (11, 70, 64, 2, [98]), (14, 54, 3, 1, [])]
def mt_33_1 : List (Nat × mx_I) := [(17, 4, 0, 1, []), (18, 61, 6, 0, []), (21, 33, 0, 0, []), (22, 0, 6, 2, []), (24, 70, 64, 2, [98]), (27, 54, 3, 2, []), (30, 4, 0, 1, []), (31, 61, 6, 0, [])]
def mt_33_2 : List (Nat × mx_I) := [(34, 33, 0, 0, []), (35, 0, 12, 2, []), (37, 70, 64, 2, [98]), (40, 54, 3, 3, []), (43, 4, 0, 1, []), (44, 4, 1, 1, []), (45, 54, 3, 0, [])]
def mt_33_3 : List (Nat × mx_I) := [(48, 83, 0, 0, [])]
def mt_33 : List (List (Nat × mx_I)) := [mt_33_0, mt_33_1, mt_33_2, mt_33_3]
def mt_34_0 : List (Nat × mx_I) := [(0, 4, 0, 1, []), (1, 51, 3, 1, []), (4, 70, 75, 1, [6]), (7, 4, 0, 1, []), (8, 51, 3, 2, []), (11, 70, 75, 1, [6]), (14, 0, 0, 1, []), (15, 80, 0, 0, [])]
def mt_34 : List (List (Nat × mx_I)) := [mt_34_0]
def mt_35_0 : List (Nat × mx_I) := [(0, 0, 0, 1, []), (1, 5, 2, 1, []), (2, 2, 2, 1, []), (3, 4, 0, 1, []), (4, 51, 3, 1, []), (7, 70, 65, 1, [6]), (10, 45, 45, 0, []), (13, 4, 0, 1, []), (14, 51, 3, 1, [])]
def mt_35_1 : List (Nat × mx_I) := [(17, 2, 2, 1, []), (18, 70, 68, 2, [6]), (21, 2, 1, 1, []), (22, 42, 37, 0, []), (25, 4, 0, 1, []), (26, 51, 3, 2, []), (29, 2, 2, 1, []), (30, 70, 68, 2, [6])]
def mt_35_2 : List (Nat × mx_I) := [(33, 2, 1, 1, []), (34, 43, 39, 0, []), (37, 0, 1, 1, []), (38, 80, 2, 0, []), (39, 8, 2, 1, []), (42, 48, 2, 0, []), (45, 0, 0, 1, []), (46, 80, 2, 0, [])]
def mt_35 : List (List (Nat × mx_I)) := [mt_35_0, mt_35_1, mt_35_2]
def mt_36_0 : List (Nat × mx_I) := [(0, 4, 0, 1, []), (1, 51, 3, 2, []), (4, 2, 2, 1, []), (5, 70, 71, 2, [6]), (8, 34, 0, 0, []), (9, 4, 0, 1, []), (10, 51, 3, 1, []), (13, 2, 1, 1, []), (14, 70, 71, 2, [6])]
def mt_36_1 : List (Nat × mx_I) := [(17, 80, 0, 0, [])]
def mt_36 : List (List (Nat × mx_I)) := [mt_36_0, mt_36_1]
def mt_37_0 : List (Nat × mx_I) := [(0, 4, 0, 1, []), (1, 2, 1, 1, []), (2, 70, 38, 2, [3]), (5, 4, 0, 1, []), (6, 0, 4294967295, 1, []), (7, 53, 3, 4, []), (10, 4, 0, 1, []), (11, 0, 4294967295, 1, []), (12, 53, 3, 5, []), (15, 0, 0, 1, [])]
def mt_37_1 : List (Nat × mx_I) := [(16, 5, 2, 1, []), (17, 2, 2, 1, []), (18, 0, 1, 1, []), (19, 4, 0, 1, []), (20, 51, 3, 1, []), (23, 70, 65, 1, [6]), (26, 17, 0, 0, []), (27, 45, 76, 0, []), (30, 4, 0, 1, []), (31, 2, 2, 1, [])]
def mt_37_2 : List (Nat × mx_I) := [(32, 70, 39, 2, [3]), (35, 5, 3, 1, []), (36, 2, 3, 1, []), (37, 0, 4294967295, 1, []), (38, 42, 70, 0, []), (41, 4, 0, 1, []), (42, 51, 3, 4, []), (45, 0, 4294967295, 1, []), (46, 42, 60, 0, [])]
def mt_37_3 : List (Nat × mx_I) := [(49, 2, 3, 1, []), (50, 4, 0, 1, []), (51, 51, 3, 5, []), (54, 44, 60, 0, []), (57, 48, 70, 0, []), (60, 4, 0, 1, []), (61, 2, 2, 1, []), (62, 53, 3, 4, [])]
def mt_37_4 : List (Nat × mx_I) := [(65, 4, 0, 1, []), (66, 2, 3, 1, []), (67, 53, 3, 5, []), (70, 8, 2, 1, []), (73, 48, 17, 0, []), (76, 83, 0, 0, [])]
def mt_37 : List (List (Nat × mx_I)) := [mt_37_0, mt_37_1, mt_37_2, mt_37_3, mt_37_4]
def mt_38_0 : List (Nat × mx_I) := [(0, 4, 0, 1, []), (1, 51, 3, 3, []), (4, 0, 4294967295, 1, []), (5, 70, 76, 2, [6]), (8, 0, 0, 1, []), (9, 5, 2, 1, []), (10, 2, 2, 1, []), (11, 4, 0, 1, []), (12, 51, 3, 0, []), (15, 51, 0, 7, [])]
def mt_38_1 : List (Nat × mx_I) := [(18, 70, 65, 1, [6]), (21, 45, 98, 0, []), (24, 4, 0, 1, []), (25, 51, 3, 0, []), (28, 51, 0, 7, []), (31, 2, 2, 1, [])]
def mt_38_2 : List (Nat × mx_I) := [(32, 70, 68, 2, [6]), (35, 5, 3, 1, []), (36, 4, 0, 1, []), (37, 51, 3, 0, []), (40, 51, 0, 6, []), (43, 2, 3, 1, []), (44, 70, 68, 2, [6]), (47, 2, 1, 1, [])]
def mt_38_3 : List (Nat × mx_I) := [(48, 44, 54, 0, []), (51, 48, 98, 0, []), (54, 4, 0, 1, []), (55, 51, 3, 3, []), (58, 4, 0, 1, []), (59, 51, 3, 0, []), (62, 51, 0, 4, [])]
def mt_38_4 : List (Nat × mx_I) := [(65, 2, 3, 1, []), (66, 70, 68, 2, [6]), (69, 0, 1, 1, []), (70, 70, 69, 3, [6]), (73, 4, 0, 1, []), (74, 51, 3, 3, []), (77, 4, 0, 1, []), (78, 51, 3, 0, [])]
def mt_38_5 : List (Nat × mx_I) := [(81, 51, 0, 5, []), (84, 2, 3, 1, []), (85, 70, 68, 2, [6]), (88, 0, 0, 1, []), (89, 70, 69, 3, [6]), (92, 8, 2, 1, []), (95, 48, 10, 0, [])]
def mt_38_6 : List (Nat × mx_I) := [(98, 83, 0, 0, [])]
def mt_38 : List (List (Nat × mx_I)) := [mt_38_0, mt_38_1, mt_38_2, mt_38_3, mt_38_4, mt_38_5, mt_38_6]
def mt_39_0 : List (Nat × mx_I) := [(0, 0, 0, 1, []), (1, 5, 2, 1, []), (2, 0, 0, 1, []), (3, 5, 3, 1, []), (4, 0, 0, 1, []), (5, 5, 4, 2, []), (7, 2, 4, 2, []), (9, 4, 0, 1, []), (10, 51, 3, 1, []), (13, 70, 65, 1, [6])]
def mt_39_1 : List (Nat × mx_I) := [(16, 45, 159, 0, []), (19, 2, 1, 1, []), (20, 2, 4, 2, []), (22, 18, 0, 0, []), (23, 0, 1, 1, []), (24, 12, 0, 0, []), (25, 0, 1, 1, []), (26, 43, 33, 0, []), (29, 0, 1, 1, []), (30, 48, 34, 0, [])]
def mt_39_2 : List (Nat × mx_I) := [(33, 0, 0, 1, []), (34, 5, 5, 2, []), (36, 2, 5, 2, []), (38, 36, 53, 0, []), (41, 4, 0, 1, []), (42, 51, 3, 2, []), (45, 2, 4, 2, []), (47, 70, 68, 2, [6])]
def mt_39_3 : List (Nat × mx_I) := [(50, 48, 62, 0, []), (53, 4, 0, 1, []), (54, 51, 3, 1, []), (57, 2, 4, 2, []), (59, 70, 68, 2, [6]), (62, 5, 6, 2, [])]
def mt_39_4 : List (Nat × mx_I) := [(64, 2, 5, 2, []), (66, 36, 81, 0, []), (69, 4, 0, 1, []), (70, 51, 3, 1, []), (73, 2, 4, 2, []), (75, 70, 68, 2, [6]), (78, 48, 90, 0, [])]
def mt_39_5 : List (Nat × mx_I) := [(81, 4, 0, 1, []), (82, 51, 3, 2, []), (85, 2, 4, 2, []), (87, 70, 68, 2, [6]), (90, 5, 7, 2, []), (92, 0, 1, 1, []), (93, 4, 0, 1, []), (94, 51, 3, 0, [])]
def mt_39_6 : List (Nat × mx_I) := [(97, 51, 0, 2, []), (100, 2, 6, 2, []), (102, 70, 68, 2, [6]), (105, 17, 0, 0, []), (106, 5, 8, 2, []), (108, 2, 3, 1, []), (109, 2, 8, 2, []), (111, 12, 0, 0, [])]
def mt_39_7 : List (Nat × mx_I) := [(112, 36, 117, 0, []), (115, 0, 4294967295, 1, []), (116, 80, 0, 0, []), (117, 2, 3, 1, []), (118, 2, 8, 2, []), (120, 13, 0, 0, []), (121, 5, 3, 1, []), (122, 4, 0, 1, []), (123, 51, 3, 3, []), (126, 2, 6, 2, [])]
def mt_39_8 : List (Nat × mx_I) := [(128, 70, 68, 2, [6]), (131, 0, 1, 1, []), (132, 43, 138, 0, []), (135, 8, 2, 1, []), (138, 4, 0, 1, []), (139, 51, 3, 3, []), (142, 2, 7, 2, [])]
def mt_39_9 : List (Nat × mx_I) := [(144, 70, 68, 2, [6]), (147, 37, 153, 0, []), (150, 8, 2, 1, []), (153, 8, 4, 1, []), (156, 48, 7, 0, []), (159, 2, 2, 1, [])]
def mt_39_10 : List (Nat × mx_I) := [(160, 80, 0, 0, [])]
def mt_39 : List (List (Nat × mx_I)) := [mt_39_0, mt_39_1, mt_39_2, mt_39_3, mt_39_4, mt_39_5, mt_39_6, mt_39_7, mt_39_8, mt_39_9, mt_39_10]
def mt_40_0 : List (Nat × mx_I) := [(0, 4, 0, 1, []), (1, 63, 0, 0, []), (4, 4, 0, 1, []), (5, 61, 6, 0, []), (8, 33, 0, 0, []), (9, 0, 12, 2, []), (11, 70, 64, 2, [98]), (14, 54, 4, 2, [])]
def mt_40_1 : List (Nat × mx_I) := [(17, 4, 0, 1, []), (18, 4, 1, 1, []), (19, 54, 4, 0, []), (22, 4, 0, 1, []), (23, 4, 2, 1, []), (24, 54, 4, 1, []), (27, 83, 0, 0, [])]
def mt_40 : List (List (Nat × mx_I)) := [mt_40_0, mt_40_1]
def mt_41_0 : List (Nat × mx_I) := [(0, 4, 0, 1, []), (1, 51, 4, 1, []), (4, 4, 0, 1, []), (5, 51, 4, 0, []), (8, 51, 0, 0, []), (11, 70, 98, 2, [9]), (14, 4, 0, 1, []), (15, 70, 43, 1, [4])]
def mt_41_1 : List (Nat × mx_I) := [(18, 0, 0, 1, []), (19, 5, 4, 2, []), (21, 0, 0, 1, []), (22, 5, 5, 2, []), (24, 0, 0, 1, []), (25, 5, 6, 2, []), (27, 2, 6, 2, []), (29, 4, 0, 1, []), (30, 51, 4, 0, [])]
def mt_41_2 : List (Nat × mx_I) := [(33, 51, 0, 1, []), (36, 70, 65, 1, [6]), (39, 45, 81, 0, []), (42, 4, 0, 1, []), (43, 51, 4, 0, []), (46, 2, 1, 1, []), (47, 2, 6, 2, [])]
def mt_41_3 : List (Nat × mx_I) := [(49, 70, 4, 3, [0]), (52, 37, 58, 0, []), (55, 48, 75, 0, []), (58, 8, 4, 1, []), (61, 2, 5, 2, []), (63, 4, 0, 1, [])]
def mt_41_4 : List (Nat × mx_I) := [(64, 51, 4, 2, []), (67, 2, 6, 2, []), (69, 70, 68, 2, [6]), (72, 9, 0, 0, []), (73, 5, 5, 2, []), (75, 8, 6, 1, []), (78, 48, 27, 0, [])]
def mt_41_5 : List (Nat × mx_I) := [(81, 1, 0, 1, []), (82, 6, 6, 2, []), (84, 2, 2, 1, []), (85, 28, 0, 0, []), (86, 6, 8, 2, []), (88, 0, 0, 1, []), (89, 5, 10, 2, []), (91, 2, 10, 2, []), (93, 4, 0, 1, []), (94, 51, 4, 0, [])]
def mt_41_6 : List (Nat × mx_I) := [(97, 51, 0, 1, []), (100, 70, 65, 1, [6]), (103, 45, 176, 0, []), (106, 4, 0, 1, []), (107, 51, 4, 0, []), (110, 2, 1, 1, []), (111, 2, 10, 2, [])]
def mt_41_7 : List (Nat × mx_I) := [(113, 70, 4, 3, [0]), (116, 37, 122, 0, []), (119, 48, 170, 0, []), (122, 2, 2, 1, []), (123, 2, 4, 2, []), (125, 2, 4, 2, []), (127, 4, 0, 1, [])]
def mt_41_8 : List (Nat × mx_I) := [(128, 51, 4, 1, []), (131, 2, 10, 2, []), (133, 70, 104, 2, [9]), (136, 10, 0, 0, []), (137, 4, 0, 1, []), (138, 51, 4, 2, []), (141, 2, 10, 2, []), (143, 70, 68, 2, [6])]
def mt_41_9 : List (Nat × mx_I) := [(146, 2, 5, 2, []), (148, 70, 42, 5, []), (151, 6, 11, 2, []), (153, 3, 8, 2, []), (155, 3, 11, 2, []), (157, 20, 0, 0, []), (158, 6, 8, 2, [])]
def mt_41_10 : List (Nat × mx_I) := [(160, 2, 10, 2, []), (162, 2, 3, 1, []), (163, 43, 170, 0, []), (166, 3, 11, 2, []), (168, 6, 6, 2, []), (170, 8, 10, 1, []), (173, 48, 91, 0, [])]
def mt_41_11 : List (Nat × mx_I) := [(176, 4, 0, 1, []), (177, 51, 4, 1, []), (180, 2, 3, 1, []), (181, 70, 104, 2, [9]), (184, 37, 195, 0, []), (187, 3, 6, 2, []), (189, 3, 8, 2, []), (191, 19, 0, 0, [])]
def mt_41_12 : List (Nat × mx_I) := [(192, 48, 197, 0, []), (195, 3, 6, 2, []), (197, 81, 0, 0, [])]
def mt_41 : List (List (Nat × mx_I)) := [mt_41_0, mt_41_1, mt_41_2, mt_41_3, mt_41_4, mt_41_5, mt_41_6, mt_41_7, mt_41_8, mt_41_9, mt_41_10, mt_41_11, mt_41_12]
def mt_42_0 : List (Nat × mx_I) := [(0, 2, 1, 1, []), (1, 0, 1, 1, []), (2, 45, 7, 0, []), (5, 1, 0, 1, []), (6, 81, 0, 0, []), (7, 2, 0, 1, []), (8, 0, 3, 1, []), (9, 14, 0, 0, []), (10, 28, 0, 0, []), (11, 6, 5, 2, []), (13, 2, 0, 1, []), (14, 28, 0, 0, []), (15, 1, 2, 3, [])]
def mt_42_1 : List (Nat × mx_I) := [(18, 3, 5, 2, []), (20, 21, 0, 0, []), (21, 20, 0, 0, []), (22, 6, 7, 2, []), (24, 3, 5, 2, []), (26, 2, 2, 1, []), (27, 28, 0, 0, []), (28, 21, 0, 0, []), (29, 0, 1, 1, []), (30, 2, 1, 1, []), (31, 2, 1, 1, [])]
def mt_42_2 : List (Nat × mx_I) := [(32, 0, 1, 1, []), (33, 9, 0, 0, []), (34, 11, 0, 0, []), (35, 0, 2, 1, []), (36, 14, 0, 0, []), (37, 65, 0, 0, []), (40, 28, 0, 0, []), (41, 22, 0, 0, []), (42, 6, 9, 2, []), (44, 2, 4, 2, []), (46, 41, 61, 0, [])]
def mt_42_3 : List (Nat × mx_I) := [(49, 3, 7, 2, []), (51, 2, 3, 1, []), (52, 28, 0, 0, []), (53, 21, 0, 0, []), (54, 2, 4, 2, []), (56, 28, 0, 0, []), (57, 22, 0, 0, []), (58, 48, 66, 0, []), (61, 3, 7, 2, []), (63, 2, 1, 1, [])]
def mt_42_4 : List (Nat × mx_I) := [(64, 28, 0, 0, []), (65, 22, 0, 0, []), (66, 6, 11, 2, []), (68, 3, 5, 2, []), (70, 2, 1, 1, []), (71, 28, 0, 0, []), (72, 22, 0, 0, []), (73, 3, 9, 2, []), (75, 19, 0, 0, []), (76, 3, 11, 2, []), (78, 19, 0, 0, []), (79, 81, 0, 0, [])]
def mt_42 : List (List (Nat × mx_I)) := [mt_42_0, mt_42_1, mt_42_2, mt_42_3, mt_42_4]
def mt_43_0 : List (Nat × mx_I) := [(0, 4, 0, 1, []), (1, 51, 4, 2, []), (4, 0, 0, 1, []), (5, 70, 76, 2, [6]), (8, 0, 0, 1, []), (9, 5, 1, 1, []), (10, 2, 1, 1, []), (11, 4, 0, 1, []), (12, 51, 4, 0, []), (15, 51, 0, 3, [])]
def mt_43_1 : List (Nat × mx_I) := [(18, 70, 65, 1, [6]), (21, 45, 128, 0, []), (24, 4, 0, 1, []), (25, 51, 4, 0, []), (28, 51, 0, 11, []), (31, 2, 1, 1, [])]
def mt_43_2 : List (Nat × mx_I) := [(32, 70, 68, 2, [6]), (35, 39, 41, 0, []), (38, 48, 122, 0, []), (41, 55, 7, 0, []), (44, 4, 0, 1, []), (45, 51, 4, 0, [])]
def mt_43_3 : List (Nat × mx_I) := [(48, 51, 0, 3, []), (51, 2, 1, 1, []), (52, 70, 68, 2, [6]), (55, 70, 161, 2, []), (58, 5, 2, 1, []), (59, 2, 2, 1, []), (60, 55, 8, 0, []), (63, 4, 0, 1, [])]
def mt_43_4 : List (Nat × mx_I) := [(64, 51, 4, 0, []), (67, 51, 0, 3, []), (70, 2, 1, 1, []), (71, 70, 68, 2, [6]), (74, 70, 161, 2, []), (77, 11, 0, 0, []), (78, 0, 100, 2, [])]
def mt_43_5 : List (Nat × mx_I) := [(80, 14, 0, 0, []), (81, 5, 3, 1, []), (82, 4, 0, 1, []), (83, 51, 4, 2, []), (86, 4, 0, 1, []), (87, 51, 4, 0, []), (90, 51, 0, 4, []), (93, 2, 1, 1, []), (94, 70, 68, 2, [6])]
def mt_43_6 : List (Nat × mx_I) := [(97, 2, 3, 1, []), (98, 70, 70, 3, [6]), (101, 4, 0, 1, []), (102, 51, 4, 2, []), (105, 4, 0, 1, []), (106, 51, 4, 0, []), (109, 51, 0, 5, [])]
def mt_43_7 : List (Nat × mx_I) := [(112, 2, 1, 1, []), (113, 70, 68, 2, [6]), (116, 2, 2, 1, []), (117, 2, 3, 1, []), (118, 10, 0, 0, []), (119, 70, 70, 3, [6]), (122, 8, 1, 1, []), (125, 48, 10, 0, [])]
def mt_43_8 : List (Nat × mx_I) := [(128, 83, 0, 0, [])]
def mt_43 : List (List (Nat × mx_I)) := [mt_43_0, mt_43_1, mt_43_2, mt_43_3, mt_43_4, mt_43_5, mt_43_6, mt_43_7, mt_43_8]
def mt_44_0 : List (Nat × mx_I) := [(0, 4, 0, 1, []), (1, 63, 0, 0, []), (4, 4, 0, 1, []), (5, 61, 6, 0, []), (8, 33, 0, 0, []), (9, 0, 160, 3, []), (12, 70, 64, 2, [98]), (15, 54, 5, 1, [])]
def mt_44_1 : List (Nat × mx_I) := [(18, 4, 0, 1, []), (19, 61, 6, 0, []), (22, 33, 0, 0, []), (23, 0, 161, 3, []), (26, 70, 64, 2, [98]), (29, 54, 5, 2, [])]
def mt_44_2 : List (Nat × mx_I) := [(32, 4, 0, 1, []), (33, 61, 6, 0, []), (36, 33, 0, 0, []), (37, 0, 161, 3, []), (40, 70, 64, 2, [98]), (43, 54, 5, 3, []), (46, 4, 0, 1, []), (47, 61, 6, 0, [])]
def mt_44_3 : List (Nat × mx_I) := [(50, 33, 0, 0, []), (51, 0, 161, 3, []), (54, 70, 64, 2, [98]), (57, 54, 5, 4, []), (60, 4, 0, 1, []), (61, 4, 1, 1, []), (62, 54, 5, 0, [])]
def mt_44_4 : List (Nat × mx_I) := [(65, 83, 0, 0, [])]
def mt_44 : List (List (Nat × mx_I)) := [mt_44_0, mt_44_1, mt_44_2, mt_44_3, mt_44_4]
def mt_45_0 : List (Nat × mx_I) := [(0, 4, 0, 1, []), (1, 70, 46, 1, [5]), (4, 4, 0, 1, []), (5, 51, 5, 0, []), (8, 70, 107, 1, [10]), (11, 4, 0, 1, []), (12, 0, 0, 1, []), (13, 53, 5, 5, [])]
def mt_45_1 : List (Nat × mx_I) := [(16, 0, 1, 1, []), (17, 5, 1, 1, []), (18, 0, 0, 1, []), (19, 5, 2, 1, []), (20, 2, 2, 1, []), (21, 0, 4, 1, []), (22, 45, 41, 0, []), (25, 2, 1, 1, []), (26, 36, 41, 0, []), (29, 4, 0, 1, []), (30, 2, 2, 1, []), (31, 70, 59, 2, [5])]
def mt_45_2 : List (Nat × mx_I) := [(34, 5, 1, 1, []), (35, 8, 2, 1, []), (38, 48, 20, 0, []), (41, 4, 0, 1, []), (42, 51, 5, 1, []), (45, 70, 75, 1, [6])]
def mt_45_3 : List (Nat × mx_I) := [(48, 2, 1, 1, []), (49, 36, 66, 0, []), (52, 4, 0, 1, []), (53, 51, 5, 2, []), (56, 4, 0, 1, []), (57, 51, 5, 5, []), (60, 70, 68, 2, [6]), (63, 36, 78, 0, [])]
def mt_45_4 : List (Nat × mx_I) := [(66, 4, 0, 1, []), (67, 51, 5, 3, []), (70, 4, 0, 1, []), (71, 51, 5, 5, []), (74, 70, 68, 2, [6]), (77, 80, 0, 0, []), (78, 4, 0, 1, []), (79, 51, 5, 0, [])]
def mt_45_5 : List (Nat × mx_I) := [(82, 33, 0, 0, []), (83, 51, 10, 0, []), (86, 0, 1, 1, []), (87, 9, 0, 0, []), (88, 53, 10, 0, []), (91, 0, 4294967295, 1, []), (92, 80, 0, 0, [])]
def mt_45 : List (List (Nat × mx_I)) := [mt_45_0, mt_45_1, mt_45_2, mt_45_3, mt_45_4, mt_45_5]
def mt_46_0 : List (Nat × mx_I) := [(0, 4, 0, 1, []), (1, 51, 5, 2, []), (4, 70, 75, 1, [6]), (7, 4, 0, 1, []), (8, 51, 5, 3, []), (11, 70, 75, 1, [6]), (14, 4, 0, 1, []), (15, 51, 5, 4, [])]
def mt_46_1 : List (Nat × mx_I) := [(18, 70, 75, 1, [6]), (21, 0, 0, 1, []), (22, 5, 1, 1, []), (23, 0, 1, 1, []), (24, 5, 2, 1, []), (25, 0, 0, 1, []), (26, 5, 3, 1, []), (27, 2, 3, 1, []), (28, 0, 160, 3, []), (31, 46, 218, 0, [])]
def mt_46_2 : List (Nat × mx_I) := [(34, 2, 2, 1, []), (35, 36, 218, 0, []), (38, 4, 0, 1, []), (39, 2, 1, 1, []), (40, 70, 48, 2, [5]), (43, 5, 1, 1, []), (44, 4, 0, 1, []), (45, 51, 5, 1, [])]
def mt_46_3 : List (Nat × mx_I) := [(48, 2, 1, 1, []), (49, 70, 68, 2, [6]), (52, 5, 4, 2, []), (54, 2, 1, 1, []), (55, 0, 1, 1, []), (56, 9, 0, 0, []), (57, 5, 5, 2, []), (59, 2, 1, 1, []), (60, 4, 0, 1, []), (61, 51, 5, 1, [])]
def mt_46_4 : List (Nat × mx_I) := [(64, 70, 65, 1, [6]), (67, 44, 80, 0, []), (70, 4, 0, 1, []), (71, 0, 0, 1, []), (72, 2, 1, 1, []), (73, 0, 0, 1, []), (74, 70, 47, 4, [5]), (77, 48, 174, 0, [])]
def mt_46_5 : List (Nat × mx_I) := [(80, 2, 4, 2, []), (82, 70, 55, 1, []), (85, 36, 123, 0, []), (88, 4, 0, 1, []), (89, 2, 1, 1, []), (90, 70, 49, 2, [5]), (93, 5, 5, 2, []), (95, 4, 0, 1, [])]
def mt_46_6 : List (Nat × mx_I) := [(96, 2, 5, 2, []), (98, 2, 1, 1, []), (99, 10, 0, 0, []), (100, 0, 4, 1, []), (101, 47, 108, 0, []), (104, 0, 1, 1, []), (105, 48, 109, 0, []), (108, 0, 2, 1, []), (109, 2, 1, 1, []), (110, 4, 0, 1, []), (111, 2, 1, 1, [])]
def mt_46_7 : List (Nat × mx_I) := [(112, 2, 5, 2, []), (114, 70, 51, 3, [5]), (117, 70, 47, 4, [5]), (120, 48, 174, 0, []), (123, 2, 4, 2, []), (125, 70, 56, 1, [])]
def mt_46_8 : List (Nat × mx_I) := [(128, 36, 154, 0, []), (131, 4, 0, 1, []), (132, 2, 1, 1, []), (133, 70, 50, 2, [5]), (136, 5, 5, 2, []), (138, 4, 0, 1, []), (139, 4, 0, 1, []), (140, 2, 1, 1, []), (141, 2, 5, 2, []), (143, 70, 52, 3, [5])]
def mt_46_9 : List (Nat × mx_I) := [(146, 2, 1, 1, []), (147, 0, 0, 1, []), (148, 70, 47, 4, [5]), (151, 48, 174, 0, []), (154, 4, 0, 1, []), (155, 2, 4, 2, []), (157, 70, 57, 1, [])]
def mt_46_10 : List (Nat × mx_I) := [(160, 36, 168, 0, []), (163, 2, 4, 2, []), (165, 48, 169, 0, []), (168, 0, 1, 1, []), (169, 2, 1, 1, []), (170, 0, 0, 1, []), (171, 70, 47, 4, [5]), (174, 4, 0, 1, []), (175, 51, 5, 2, [])]
def mt_46_11 : List (Nat × mx_I) := [(178, 4, 0, 1, []), (179, 51, 5, 2, []), (182, 70, 65, 1, [6]), (185, 0, 1, 1, []), (186, 10, 0, 0, []), (187, 70, 68, 2, [6]), (190, 5, 6, 2, [])]
def mt_46_12 : List (Nat × mx_I) := [(192, 2, 6, 2, []), (194, 36, 207, 0, []), (197, 2, 6, 2, []), (199, 0, 1, 1, []), (200, 42, 207, 0, []), (203, 0, 1, 1, []), (204, 48, 208, 0, []), (207, 0, 0, 1, [])]
def mt_46_13 : List (Nat × mx_I) := [(208, 5, 2, 1, []), (209, 2, 5, 2, []), (211, 5, 1, 1, []), (212, 8, 3, 1, []), (215, 48, 27, 0, []), (218, 83, 0, 0, [])]
def mt_46 : List (List (Nat × mx_I)) := [mt_46_0, mt_46_1, mt_46_2, mt_46_3, mt_46_4, mt_46_5, mt_46_6, mt_46_7, mt_46_8, mt_46_9, mt_46_10, mt_46_11, mt_46_12, mt_46_13]
def mt_47_0 : List (Nat × mx_I) := [(0, 4, 0, 1, []), (1, 51, 5, 2, []), (4, 2, 1, 1, []), (5, 70, 71, 2, [6]), (8, 34, 0, 0, []), (9, 4, 0, 1, []), (10, 51, 5, 3, []), (13, 2, 2, 1, []), (14, 70, 71, 2, [6])]
def mt_47_1 : List (Nat × mx_I) := [(17, 34, 0, 0, []), (18, 4, 0, 1, []), (19, 51, 5, 4, []), (22, 2, 3, 1, []), (23, 70, 71, 2, [6]), (26, 34, 0, 0, []), (27, 83, 0, 0, [])]
def mt_47 : List (List (Nat × mx_I)) := [mt_47_0, mt_47_1]
def mt_48_0 : List (Nat × mx_I) := [(0, 2, 1, 1, []), (1, 5, 2, 1, []), (2, 2, 2, 1, []), (3, 4, 0, 1, []), (4, 51, 5, 1, []), (7, 70, 65, 1, [6]), (10, 45, 45, 0, []), (13, 4, 0, 1, []), (14, 51, 5, 1, [])]
def mt_48_1 : List (Nat × mx_I) := [(17, 2, 2, 1, []), (18, 70, 68, 2, [6]), (21, 0, 32, 2, []), (23, 42, 39, 0, []), (26, 4, 0, 1, []), (27, 51, 5, 1, []), (30, 2, 2, 1, []), (31, 70, 68, 2, [6])]
def mt_48_2 : List (Nat × mx_I) := [(34, 0, 10, 2, []), (36, 43, 45, 0, []), (39, 8, 2, 1, []), (42, 48, 2, 0, []), (45, 2, 2, 1, []), (46, 80, 0, 0, [])]
def mt_48 : List (List (Nat × mx_I)) := [mt_48_0, mt_48_1, mt_48_2]
def mt_49_0 : List (Nat × mx_I) := [(0, 2, 1, 1, []), (1, 5, 2, 1, []), (2, 2, 2, 1, []), (3, 4, 0, 1, []), (4, 51, 5, 1, []), (7, 70, 65, 1, [6]), (10, 45, 33, 0, []), (13, 4, 0, 1, []), (14, 51, 5, 1, [])]
def mt_49_1 : List (Nat × mx_I) := [(17, 2, 2, 1, []), (18, 70, 68, 2, [6]), (21, 70, 55, 1, []), (24, 36, 33, 0, []), (27, 8, 2, 1, []), (30, 48, 2, 0, [])]
def mt_49_2 : List (Nat × mx_I) := [(33, 2, 2, 1, []), (34, 80, 0, 0, [])]
def mt_49 : List (List (Nat × mx_I)) := [mt_49_0, mt_49_1, mt_49_2]
def mt_50_0 : List (Nat × mx_I) := [(0, 2, 1, 1, []), (1, 5, 2, 1, []), (2, 2, 2, 1, []), (3, 4, 0, 1, []), (4, 51, 5, 1, []), (7, 70, 65, 1, [6]), (10, 45, 33, 0, []), (13, 4, 0, 1, []), (14, 51, 5, 1, [])]
def mt_50_1 : List (Nat × mx_I) := [(17, 2, 2, 1, []), (18, 70, 68, 2, [6]), (21, 70, 56, 1, []), (24, 36, 33, 0, []), (27, 8, 2, 1, []), (30, 48, 2, 0, [])]
def mt_50_2 : List (Nat × mx_I) := [(33, 2, 2, 1, []), (34, 80, 0, 0, [])]
def mt_50 : List (List (Nat × mx_I)) := [mt_50_0, mt_50_1, mt_50_2]
def mt_51_0 : List (Nat × mx_I) := [(0, 0, 0, 1, []), (1, 5, 3, 1, []), (2, 2, 1, 1, []), (3, 5, 4, 2, []), (5, 2, 4, 2, []), (7, 2, 2, 1, []), (8, 45, 35, 0, []), (11, 2, 3, 1, []), (12, 0, 10, 2, []), (14, 11, 0, 0, []), (15, 4, 0, 1, [])]
def mt_51_1 : List (Nat × mx_I) := [(16, 51, 5, 1, []), (19, 2, 4, 2, []), (21, 70, 68, 2, [6]), (24, 9, 0, 0, []), (25, 0, 48, 2, []), (27, 10, 0, 0, []), (28, 5, 3, 1, []), (29, 8, 4, 1, [])]
def mt_51_2 : List (Nat × mx_I) := [(32, 48, 5, 0, []), (35, 2, 3, 1, []), (36, 80, 0, 0, [])]
def mt_51 : List (List (Nat × mx_I)) := [mt_51_0, mt_51_1, mt_51_2]
def mt_52_0 : List (Nat × mx_I) := [(0, 0, 0, 1, []), (1, 5, 3, 1, []), (2, 2, 3, 1, []), (3, 0, 13, 2, []), (5, 45, 33, 0, []), (8, 4, 0, 1, []), (9, 2, 3, 1, []), (10, 70, 54, 1, []), (13, 2, 1, 1, []), (14, 2, 2, 1, []), (15, 70, 53, 4, [5])]
def mt_52_1 : List (Nat × mx_I) := [(18, 36, 27, 0, []), (21, 0, 256, 3, []), (24, 2, 3, 1, []), (25, 9, 0, 0, []), (26, 80, 0, 0, []), (27, 8, 3, 1, []), (30, 48, 2, 0, [])]
def mt_52_2 : List (Nat × mx_I) := [(33, 0, 1, 1, []), (34, 80, 0, 0, [])]
def mt_52 : List (List (Nat × mx_I)) := [mt_52_0, mt_52_1, mt_52_2]
def mt_53_0 : List (Nat × mx_I) := [(0, 4, 1, 1, []), (1, 70, 266, 1, [99]), (4, 2, 3, 1, []), (5, 2, 2, 1, []), (6, 10, 0, 0, []), (7, 42, 12, 0, []), (10, 0, 0, 1, []), (11, 80, 2, 0, []), (12, 0, 0, 1, []), (13, 5, 4, 2, []), (15, 2, 4, 2, [])]
def mt_53_1 : List (Nat × mx_I) := [(17, 4, 1, 1, []), (18, 70, 266, 1, [99]), (21, 45, 52, 0, []), (24, 4, 1, 1, []), (25, 2, 4, 2, []), (27, 70, 267, 2, [99]), (30, 4, 0, 1, []), (31, 51, 5, 1, [])]
def mt_53_2 : List (Nat × mx_I) := [(34, 2, 2, 1, []), (35, 2, 4, 2, []), (37, 9, 0, 0, []), (38, 70, 68, 2, [6]), (41, 42, 46, 0, []), (44, 0, 0, 1, []), (45, 80, 2, 0, []), (46, 8, 4, 1, [])]
def mt_53_3 : List (Nat × mx_I) := [(49, 48, 15, 0, []), (52, 0, 1, 1, []), (53, 80, 2, 0, [])]
def mt_53 : List (List (Nat × mx_I)) := [mt_53_0, mt_53_1, mt_53_2, mt_53_3]
def mt_54_0 : List (Nat × mx_I) := [(0, 2, 0, 1, []), (1, 49, 100, 0, [64, 67, 70, 73, 76, 79, 82, 85, 88, 91, 94, 97])]
def mt_54_1 : List (Nat × mx_I) := []
def mt_54_2 : List (Nat × mx_I) := []
def mt_54_3 : List (Nat × mx_I) := []
def mt_54_4 : List (Nat × mx_I) := [(64, 56, 1, 0, []), (66, 82, 0, 0, []), (67, 56, 2, 0, []), (69, 82, 0, 0, []), (70, 56, 3, 0, []), (72, 82, 0, 0, []), (73, 56, 4, 0, []), (75, 82, 0, 0, []), (76, 56, 5, 0, []), (78, 82, 0, 0, []), (79, 56, 6, 0, [])]
def mt_54_5 : List (Nat × mx_I) := [(81, 82, 0, 0, []), (82, 56, 7, 0, []), (84, 82, 0, 0, []), (85, 56, 8, 0, []), (87, 82, 0, 0, []), (88, 56, 9, 0, []), (90, 82, 0, 0, []), (91, 56, 10, 0, []), (93, 82, 0, 0, []), (94, 56, 11, 0, [])]
def mt_54_6 : List (Nat × mx_I) := [(96, 82, 0, 0, []), (97, 56, 12, 0, []), (99, 82, 0, 0, []), (100, 56, 13, 0, []), (102, 82, 0, 0, [])]
def mt_54 : List (List (Nat × mx_I)) := [mt_54_0, mt_54_1, mt_54_2, mt_54_3, mt_54_4, mt_54_5, mt_54_6]
def mt_55_0 : List (Nat × mx_I) := [(0, 2, 0, 1, []), (1, 0, 48, 2, []), (3, 44, 16, 0, []), (6, 2, 0, 1, []), (7, 0, 57, 2, []), (9, 46, 16, 0, []), (12, 0, 1, 1, []), (13, 48, 17, 0, [])]
def mt_55_1 : List (Nat × mx_I) := [(16, 0, 0, 1, []), (17, 80, 2, 0, [])]
def mt_55 : List (List (Nat × mx_I)) := [mt_55_0, mt_55_1]
def mt_56_0 : List (Nat × mx_I) := [(0, 2, 0, 1, []), (1, 0, 97, 2, []), (3, 44, 16, 0, []), (6, 2, 0, 1, []), (7, 0, 122, 2, []), (9, 46, 16, 0, []), (12, 0, 1, 1, []), (13, 48, 17, 0, [])]
def mt_56_1 : List (Nat × mx_I) := [(16, 0, 0, 1, []), (17, 80, 2, 0, [])]
def mt_56 : List (List (Nat × mx_I)) := [mt_56_0, mt_56_1]
def mt_57_0 : List (Nat × mx_I) := [(0, 2, 0, 1, []), (1, 0, 40, 2, []), (3, 42, 48, 0, []), (6, 2, 0, 1, []), (7, 0, 41, 2, []), (9, 42, 48, 0, []), (12, 2, 0, 1, []), (13, 0, 59, 2, []), (15, 42, 48, 0, [])]
def mt_57_1 : List (Nat × mx_I) := [(18, 2, 0, 1, []), (19, 0, 43, 2, []), (21, 42, 48, 0, []), (24, 2, 0, 1, []), (25, 0, 45, 2, []), (27, 42, 48, 0, []), (30, 2, 0, 1, []), (31, 0, 42, 2, [])]
def mt_57_2 : List (Nat × mx_I) := [(33, 42, 48, 0, []), (36, 2, 0, 1, []), (37, 0, 60, 2, []), (39, 42, 48, 0, []), (42, 2, 0, 1, []), (43, 0, 61, 2, []), (45, 43, 52, 0, [])]
def mt_57_3 : List (Nat × mx_I) := [(48, 0, 1, 1, []), (49, 48, 53, 0, []), (52, 0, 0, 1, []), (53, 80, 2, 0, [])]
def mt_57 : List (List (Nat × mx_I)) := [mt_57_0, mt_57_1, mt_57_2, mt_57_3]
def mt_58_0 : List (Nat × mx_I) := [(0, 4, 0, 1, []), (1, 51, 5, 2, []), (4, 4, 0, 1, []), (5, 51, 5, 5, []), (8, 70, 68, 2, [6]), (11, 2, 1, 1, []), (12, 42, 17, 0, []), (15, 0, 0, 1, [])]
def mt_58_1 : List (Nat × mx_I) := [(16, 80, 2, 0, []), (17, 4, 0, 1, []), (18, 33, 0, 0, []), (19, 51, 5, 5, []), (22, 0, 1, 1, []), (23, 9, 0, 0, []), (24, 53, 5, 5, []), (27, 0, 1, 1, []), (28, 80, 2, 0, [])]
def mt_58 : List (List (Nat × mx_I)) := [mt_58_0, mt_58_1]
def mt_59_0 : List (Nat × mx_I) := [(0, 4, 0, 1, []), (1, 0, 262, 3, []), (4, 2, 1, 1, []), (5, 9, 0, 0, []), (6, 70, 58, 2, [5]), (9, 37, 14, 0, []), (12, 0, 0, 1, []), (13, 80, 2, 0, []), (14, 4, 0, 1, []), (15, 51, 5, 0, [])]
def mt_59_1 : List (Nat × mx_I) := [(18, 2, 1, 1, []), (19, 70, 108, 2, [10]), (22, 4, 0, 1, []), (23, 0, 0, 1, []), (24, 0, 0, 1, []), (25, 70, 60, 3, [5]), (28, 37, 33, 0, []), (31, 0, 0, 1, [])]
def mt_59_2 : List (Nat × mx_I) := [(32, 80, 2, 0, []), (33, 4, 0, 1, []), (34, 51, 5, 0, []), (37, 2, 1, 1, []), (38, 70, 109, 2, [10]), (41, 4, 0, 1, []), (42, 0, 59, 2, []), (44, 70, 58, 2, [5]), (47, 80, 2, 0, [])]
def mt_59 : List (List (Nat × mx_I)) := [mt_59_0, mt_59_1, mt_59_2]
def mt_60_0 : List (Nat × mx_I) := [(0, 2, 2, 1, []), (1, 0, 5, 1, []), (2, 47, 7, 0, []), (5, 0, 0, 1, []), (6, 80, 2, 0, []), (7, 2, 1, 1, []), (8, 0, 5, 1, []), (9, 44, 18, 0, []), (12, 4, 0, 1, []), (13, 2, 2, 1, []), (14, 70, 63, 2, [5])]
def mt_60_1 : List (Nat × mx_I) := [(17, 80, 2, 0, []), (18, 2, 1, 1, []), (19, 0, 2, 1, []), (20, 43, 46, 0, []), (23, 4, 0, 1, []), (24, 51, 5, 2, []), (27, 4, 0, 1, []), (28, 51, 5, 5, []), (31, 70, 68, 2, [6])]
def mt_60_2 : List (Nat × mx_I) := [(34, 0, 268, 3, []), (37, 43, 46, 0, []), (40, 4, 0, 1, []), (41, 2, 2, 1, []), (42, 70, 62, 2, [5]), (45, 80, 2, 0, []), (46, 4, 0, 1, []), (47, 2, 1, 1, [])]
def mt_60_3 : List (Nat × mx_I) := [(48, 0, 1, 1, []), (49, 9, 0, 0, []), (50, 2, 2, 1, []), (51, 70, 60, 3, [5]), (54, 37, 59, 0, []), (57, 0, 0, 1, []), (58, 80, 2, 0, []), (59, 0, 0, 1, []), (60, 5, 3, 1, []), (61, 2, 3, 1, []), (62, 0, 160, 3, [])]
def mt_60_4 : List (Nat × mx_I) := [(65, 45, 138, 0, []), (68, 2, 1, 1, []), (69, 2, 3, 1, []), (70, 4, 0, 1, []), (71, 51, 5, 2, []), (74, 4, 0, 1, []), (75, 51, 5, 5, []), (78, 70, 68, 2, [6])]
def mt_60_5 : List (Nat × mx_I) := [(81, 70, 61, 3, []), (84, 36, 138, 0, []), (87, 4, 0, 1, []), (88, 51, 5, 2, []), (91, 4, 0, 1, []), (92, 51, 5, 5, []), (95, 70, 68, 2, [6])]
def mt_60_6 : List (Nat × mx_I) := [(98, 5, 4, 2, []), (100, 4, 0, 1, []), (101, 33, 0, 0, []), (102, 51, 5, 5, []), (105, 0, 1, 1, []), (106, 9, 0, 0, []), (107, 53, 5, 5, []), (110, 4, 0, 1, []), (111, 2, 1, 1, [])]
def mt_60_7 : List (Nat × mx_I) := [(112, 0, 1, 1, []), (113, 9, 0, 0, []), (114, 2, 2, 1, []), (115, 70, 60, 3, [5]), (118, 37, 123, 0, []), (121, 0, 0, 1, []), (122, 80, 2, 0, []), (123, 4, 0, 1, []), (124, 51, 5, 0, []), (127, 2, 4, 2, [])]
def mt_60_8 : List (Nat × mx_I) := [(129, 70, 111, 2, [10]), (132, 8, 3, 1, []), (135, 48, 61, 0, []), (138, 0, 1, 1, []), (139, 80, 2, 0, [])]
def mt_60 : List (List (Nat × mx_I)) := [mt_60_0, mt_60_1, mt_60_2, mt_60_3, mt_60_4, mt_60_5, mt_60_6, mt_60_7, mt_60_8]
def mt_61_0 : List (Nat × mx_I) := [(0, 2, 0, 1, []), (1, 49, 114, 0, [36, 49, 62, 84, 102])]
def mt_61_1 : List (Nat × mx_I) := []
def mt_61_2 : List (Nat × mx_I) := [(36, 2, 2, 1, []), (37, 0, 266, 3, []), (40, 43, 47, 0, []), (43, 0, 1, 1, []), (44, 48, 48, 0, []), (47, 0, 0, 1, [])]
def mt_61_3 : List (Nat × mx_I) := [(48, 80, 2, 0, []), (49, 2, 2, 1, []), (50, 0, 267, 3, []), (53, 43, 60, 0, []), (56, 0, 1, 1, []), (57, 48, 61, 0, []), (60, 0, 0, 1, []), (61, 80, 2, 0, []), (62, 2, 1, 1, []), (63, 37, 82, 0, [])]
def mt_61_4 : List (Nat × mx_I) := [(66, 2, 2, 1, []), (67, 0, 60, 2, []), (69, 42, 78, 0, []), (72, 2, 2, 1, []), (73, 0, 61, 2, []), (75, 43, 82, 0, []), (78, 0, 1, 1, []), (79, 48, 83, 0, [])]
def mt_61_5 : List (Nat × mx_I) := [(82, 0, 0, 1, []), (83, 80, 2, 0, []), (84, 2, 2, 1, []), (85, 0, 43, 2, []), (87, 42, 96, 0, []), (90, 2, 2, 1, []), (91, 0, 45, 2, []), (93, 43, 100, 0, [])]
def mt_61_6 : List (Nat × mx_I) := [(96, 0, 1, 1, []), (97, 48, 101, 0, []), (100, 0, 0, 1, []), (101, 80, 2, 0, []), (102, 2, 2, 1, []), (103, 0, 42, 2, []), (105, 43, 112, 0, []), (108, 0, 1, 1, []), (109, 48, 113, 0, [])]
def mt_61_7 : List (Nat × mx_I) := [(112, 0, 0, 1, []), (113, 80, 2, 0, []), (114, 0, 0, 1, []), (115, 80, 2, 0, [])]
def mt_61 : List (List (Nat × mx_I)) := [mt_61_0, mt_61_1, mt_61_2, mt_61_3, mt_61_4, mt_61_5, mt_61_6, mt_61_7]
def mt_62_0 : List (Nat × mx_I) := [(0, 2, 1, 1, []), (1, 0, 5, 1, []), (2, 45, 15, 0, []), (5, 4, 0, 1, []), (6, 0, 268, 3, []), (9, 70, 58, 2, [5]), (12, 37, 17, 0, []), (15, 0, 0, 1, [])]
def mt_62_1 : List (Nat × mx_I) := [(16, 80, 2, 0, []), (17, 4, 0, 1, []), (18, 0, 2, 1, []), (19, 2, 1, 1, []), (20, 0, 1, 1, []), (21, 9, 0, 0, []), (22, 70, 60, 3, [5]), (25, 37, 30, 0, []), (28, 0, 0, 1, []), (29, 80, 2, 0, []), (30, 4, 0, 1, []), (31, 51, 5, 0, [])]
def mt_62_2 : List (Nat × mx_I) := [(34, 0, 268, 3, []), (37, 70, 111, 2, [10]), (40, 0, 1, 1, []), (41, 80, 2, 0, [])]
def mt_62 : List (List (Nat × mx_I)) := [mt_62_0, mt_62_1, mt_62_2]
def mt_63_0 : List (Nat × mx_I) := [(0, 4, 0, 1, []), (1, 51, 5, 2, []), (4, 4, 0, 1, []), (5, 51, 5, 5, []), (8, 70, 68, 2, [6]), (11, 5, 2, 1, []), (12, 2, 2, 1, []), (13, 0, 2, 1, []), (14, 43, 47, 0, [])]
def mt_63_1 : List (Nat × mx_I) := [(17, 4, 0, 1, []), (18, 51, 5, 0, []), (21, 4, 0, 1, []), (22, 51, 5, 4, []), (25, 4, 0, 1, []), (26, 51, 5, 5, []), (29, 70, 68, 2, [6])]
def mt_63_2 : List (Nat × mx_I) := [(32, 70, 110, 2, [10]), (35, 4, 0, 1, []), (36, 33, 0, 0, []), (37, 51, 5, 5, []), (40, 0, 1, 1, []), (41, 9, 0, 0, []), (42, 53, 5, 5, []), (45, 0, 1, 1, []), (46, 80, 2, 0, []), (47, 2, 2, 1, [])]
def mt_63_3 : List (Nat × mx_I) := [(48, 0, 256, 3, []), (51, 44, 81, 0, []), (54, 2, 2, 1, []), (55, 0, 262, 3, []), (58, 45, 81, 0, []), (61, 4, 0, 1, []), (62, 51, 5, 0, [])]
def mt_63_4 : List (Nat × mx_I) := [(65, 2, 2, 1, []), (66, 70, 111, 2, [10]), (69, 4, 0, 1, []), (70, 33, 0, 0, []), (71, 51, 5, 5, []), (74, 0, 1, 1, []), (75, 9, 0, 0, []), (76, 53, 5, 5, []), (79, 0, 1, 1, [])]
def mt_63_5 : List (Nat × mx_I) := [(80, 80, 2, 0, []), (81, 2, 1, 1, []), (82, 0, 5, 1, []), (83, 44, 88, 0, []), (86, 0, 0, 1, []), (87, 80, 2, 0, []), (88, 4, 0, 1, []), (89, 0, 40, 2, []), (91, 70, 58, 2, [5]), (94, 36, 123, 0, [])]
def mt_63_6 : List (Nat × mx_I) := [(97, 4, 0, 1, []), (98, 0, 0, 1, []), (99, 2, 1, 1, []), (100, 0, 1, 1, []), (101, 9, 0, 0, []), (102, 70, 60, 3, [5]), (105, 36, 121, 0, []), (108, 4, 0, 1, []), (109, 0, 41, 2, []), (111, 70, 58, 2, [5])]
def mt_63_7 : List (Nat × mx_I) := [(114, 36, 121, 0, []), (117, 0, 1, 1, []), (118, 48, 122, 0, []), (121, 0, 0, 1, []), (122, 80, 2, 0, []), (123, 4, 0, 1, []), (124, 0, 45, 2, []), (126, 70, 58, 2, [5])]
def mt_63_8 : List (Nat × mx_I) := [(129, 36, 143, 0, []), (132, 4, 0, 1, []), (133, 0, 5, 1, []), (134, 2, 1, 1, []), (135, 0, 1, 1, []), (136, 9, 0, 0, []), (137, 70, 60, 3, [5]), (140, 37, 145, 0, []), (143, 0, 0, 1, [])]
def mt_63_9 : List (Nat × mx_I) := [(144, 80, 2, 0, []), (145, 4, 0, 1, []), (146, 51, 5, 0, []), (149, 0, 3, 1, []), (150, 70, 111, 2, [10]), (153, 0, 1, 1, []), (154, 80, 2, 0, [])]
def mt_63 : List (List (Nat × mx_I)) := [mt_63_0, mt_63_1, mt_63_2, mt_63_3, mt_63_4, mt_63_5, mt_63_6, mt_63_7, mt_63_8, mt_63_9]
def mt_64_0 : List (Nat × mx_I) := [(0, 4, 0, 1, []), (1, 63, 0, 0, []), (4, 4, 0, 1, []), (5, 2, 1, 1, []), (6, 0, 0, 1, []), (7, 65, 0, 0, []), (10, 62, 0, 0, []), (12, 54, 6, 0, []), (15, 83, 0, 0, [])]
def mt_64 : List (List (Nat × mx_I)) := [mt_64_0]
def mt_65_0 : List (Nat × mx_I) := [(0, 4, 0, 1, []), (1, 51, 6, 1, []), (4, 80, 0, 0, [])]
def mt_65 : List (List (Nat × mx_I)) := [mt_65_0]
def mt_66_0 : List (Nat × mx_I) := [(0, 4, 0, 1, []), (1, 51, 6, 1, []), (4, 4, 0, 1, []), (5, 51, 6, 0, []), (8, 57, 0, 0, []), (9, 44, 16, 0, []), (12, 0, 1, 1, []), (13, 48, 17, 0, [])]
def mt_66_1 : List (Nat × mx_I) := [(16, 0, 0, 1, []), (17, 80, 2, 0, [])]
def mt_66 : List (List (Nat × mx_I)) := [mt_66_0, mt_66_1]
def mt_67_0 : List (Nat × mx_I) := [(0, 2, 1, 1, []), (1, 38, 16, 0, []), (4, 2, 1, 1, []), (5, 4, 0, 1, []), (6, 51, 6, 1, []), (9, 45, 16, 0, []), (12, 0, 1, 1, []), (13, 48, 17, 0, [])]
def mt_67_1 : List (Nat × mx_I) := [(16, 0, 0, 1, []), (17, 80, 2, 0, [])]
def mt_67 : List (List (Nat × mx_I)) := [mt_67_0, mt_67_1]
def mt_68_0 : List (Nat × mx_I) := [(0, 2, 1, 1, []), (1, 38, 22, 0, []), (4, 2, 1, 1, []), (5, 4, 0, 1, []), (6, 51, 6, 0, []), (9, 57, 0, 0, []), (10, 45, 22, 0, []), (13, 4, 0, 1, []), (14, 51, 6, 0, [])]
def mt_68_1 : List (Nat × mx_I) := [(17, 2, 1, 1, []), (18, 58, 0, 0, []), (19, 48, 23, 0, []), (22, 0, 0, 1, []), (23, 80, 0, 0, [])]
def mt_68 : List (List (Nat × mx_I)) := [mt_68_0, mt_68_1]
def mt_69_0 : List (Nat × mx_I) := [(0, 2, 1, 1, []), (1, 38, 20, 0, []), (4, 2, 1, 1, []), (5, 4, 0, 1, []), (6, 51, 6, 0, []), (9, 57, 0, 0, []), (10, 45, 20, 0, []), (13, 4, 0, 1, []), (14, 51, 6, 0, [])]
def mt_69_1 : List (Nat × mx_I) := [(17, 2, 1, 1, []), (18, 2, 2, 1, []), (19, 59, 0, 0, []), (20, 83, 0, 0, [])]
def mt_69 : List (List (Nat × mx_I)) := [mt_69_0, mt_69_1]
def mt_70_0 : List (Nat × mx_I) := [(0, 2, 1, 1, []), (1, 38, 23, 0, []), (4, 2, 1, 1, []), (5, 4, 0, 1, []), (6, 51, 6, 0, []), (9, 57, 0, 0, []), (10, 45, 23, 0, []), (13, 4, 0, 1, []), (14, 51, 6, 0, [])]
def mt_70_1 : List (Nat × mx_I) := [(17, 2, 1, 1, []), (18, 35, 0, 0, []), (19, 58, 0, 0, []), (20, 2, 2, 1, []), (21, 9, 0, 0, []), (22, 59, 0, 0, []), (23, 83, 0, 0, [])]
def mt_70 : List (List (Nat × mx_I)) := [mt_70_0, mt_70_1]
def mt_71_0 : List (Nat × mx_I) := [(0, 4, 0, 1, []), (1, 51, 6, 1, []), (4, 38, 39, 0, []), (7, 4, 0, 1, []), (8, 51, 6, 1, []), (11, 4, 0, 1, []), (12, 51, 6, 0, []), (15, 57, 0, 0, [])]
def mt_71_1 : List (Nat × mx_I) := [(16, 45, 39, 0, []), (19, 4, 0, 1, []), (20, 51, 6, 0, []), (23, 4, 0, 1, []), (24, 51, 6, 1, []), (27, 2, 1, 1, []), (28, 59, 0, 0, []), (29, 4, 0, 1, []), (30, 33, 0, 0, []), (31, 51, 6, 1, [])]
def mt_71_2 : List (Nat × mx_I) := [(34, 0, 1, 1, []), (35, 9, 0, 0, []), (36, 53, 6, 1, []), (39, 4, 0, 1, []), (40, 51, 6, 1, []), (43, 80, 0, 0, [])]
def mt_71 : List (List (Nat × mx_I)) := [mt_71_0, mt_71_1, mt_71_2]
def mt_72_0 : List (Nat × mx_I) := [(0, 4, 0, 1, []), (1, 51, 6, 1, []), (4, 41, 19, 0, []), (7, 4, 0, 1, []), (8, 51, 6, 1, []), (11, 4, 0, 1, []), (12, 51, 6, 0, []), (15, 57, 0, 0, [])]
def mt_72_1 : List (Nat × mx_I) := [(16, 47, 21, 0, []), (19, 0, 0, 1, []), (20, 80, 0, 0, []), (21, 4, 0, 1, []), (22, 33, 0, 0, []), (23, 51, 6, 1, []), (26, 0, 1, 1, []), (27, 10, 0, 0, []), (28, 53, 6, 1, []), (31, 4, 0, 1, [])]
def mt_72_2 : List (Nat × mx_I) := [(32, 51, 6, 0, []), (35, 4, 0, 1, []), (36, 51, 6, 1, []), (39, 58, 0, 0, []), (40, 80, 0, 0, [])]
def mt_72 : List (List (Nat × mx_I)) := [mt_72_0, mt_72_1, mt_72_2]
def mt_73_0 : List (Nat × mx_I) := [(0, 4, 0, 1, []), (1, 51, 6, 1, []), (4, 4, 0, 1, []), (5, 51, 6, 0, []), (8, 57, 0, 0, []), (9, 45, 24, 0, []), (12, 2, 1, 1, []), (13, 38, 24, 0, [])]
def mt_73_1 : List (Nat × mx_I) := [(16, 2, 1, 1, []), (17, 4, 0, 1, []), (18, 51, 6, 1, []), (21, 47, 25, 0, []), (24, 83, 0, 0, []), (25, 4, 0, 1, []), (26, 51, 6, 0, []), (29, 2, 1, 1, []), (30, 4, 0, 1, []), (31, 51, 6, 0, [])]
def mt_73_2 : List (Nat × mx_I) := [(34, 2, 1, 1, []), (35, 0, 1, 1, []), (36, 9, 0, 0, []), (37, 4, 0, 1, []), (38, 51, 6, 1, []), (41, 2, 1, 1, []), (42, 10, 0, 0, []), (43, 64, 0, 0, []), (46, 4, 0, 1, []), (47, 51, 6, 0, [])]
def mt_73_3 : List (Nat × mx_I) := [(50, 2, 1, 1, []), (51, 2, 2, 1, []), (52, 59, 0, 0, []), (53, 4, 0, 1, []), (54, 33, 0, 0, []), (55, 51, 6, 1, []), (58, 0, 1, 1, []), (59, 9, 0, 0, []), (60, 53, 6, 1, []), (63, 83, 0, 0, [])]
def mt_73 : List (List (Nat × mx_I)) := [mt_73_0, mt_73_1, mt_73_2, mt_73_3]
def mt_74_0 : List (Nat × mx_I) := [(0, 2, 1, 1, []), (1, 38, 34, 0, []), (4, 2, 2, 1, []), (5, 38, 34, 0, []), (8, 2, 3, 1, []), (9, 38, 34, 0, []), (12, 2, 3, 1, []), (13, 4, 0, 1, []), (14, 51, 6, 0, [])]
def mt_74_1 : List (Nat × mx_I) := [(17, 57, 0, 0, []), (18, 2, 1, 1, []), (19, 10, 0, 0, []), (20, 46, 34, 0, []), (23, 2, 3, 1, []), (24, 4, 0, 1, []), (25, 51, 6, 0, []), (28, 57, 0, 0, []), (29, 2, 2, 1, []), (30, 10, 0, 0, []), (31, 47, 35, 0, [])]
def mt_74_2 : List (Nat × mx_I) := [(34, 83, 0, 0, []), (35, 4, 0, 1, []), (36, 51, 6, 0, []), (39, 2, 1, 1, []), (40, 4, 0, 1, []), (41, 51, 6, 0, []), (44, 2, 2, 1, []), (45, 2, 3, 1, []), (46, 64, 0, 0, [])]
def mt_74_3 : List (Nat × mx_I) := [(49, 83, 0, 0, [])]
def mt_74 : List (List (Nat × mx_I)) := [mt_74_0, mt_74_1, mt_74_2, mt_74_3]
def mt_75_0 : List (Nat × mx_I) := [(0, 4, 0, 1, []), (1, 0, 0, 1, []), (2, 53, 6, 1, []), (5, 83, 0, 0, [])]
def mt_75 : List (List (Nat × mx_I)) := [mt_75_0]
def mt_76_0 : List (Nat × mx_I) := [(0, 4, 0, 1, []), (1, 51, 6, 0, []), (4, 2, 1, 1, []), (5, 70, 273, 2, []), (8, 83, 0, 0, [])]
def mt_76 : List (List (Nat × mx_I)) := [mt_76_0]
def mt_77_0 : List (Nat × mx_I) := [(0, 4, 0, 1, []), (1, 63, 0, 0, []), (4, 4, 0, 1, []), (5, 61, 6, 0, []), (8, 33, 0, 0, []), (9, 0, 4, 1, []), (10, 70, 64, 2, [98]), (13, 54, 7, 0, [])]
def mt_77_1 : List (Nat × mx_I) := [(16, 4, 0, 1, []), (17, 61, 6, 0, []), (20, 33, 0, 0, []), (21, 0, 4, 1, []), (22, 70, 64, 2, [98]), (25, 54, 7, 1, []), (28, 4, 0, 1, []), (29, 61, 6, 0, [])]
def mt_77_2 : List (Nat × mx_I) := [(32, 33, 0, 0, []), (33, 0, 160, 3, []), (36, 70, 64, 2, [98]), (39, 54, 7, 2, []), (42, 83, 0, 0, [])]
def mt_77 : List (List (Nat × mx_I)) := [mt_77_0, mt_77_1, mt_77_2]
def mt_78_0 : List (Nat × mx_I) := [(0, 4, 0, 1, []), (1, 51, 7, 0, []), (4, 2, 1, 1, []), (5, 0, 0, 1, []), (6, 70, 69, 3, [6]), (9, 0, 1, 1, []), (10, 80, 0, 0, [])]
def mt_78 : List (List (Nat × mx_I)) := [mt_78_0]
def mt_79_0 : List (Nat × mx_I) := [(0, 4, 0, 1, []), (1, 51, 7, 0, []), (4, 2, 1, 1, []), (5, 2, 2, 1, []), (6, 0, 1, 1, []), (7, 9, 0, 0, []), (8, 70, 69, 3, [6]), (11, 4, 0, 1, []), (12, 51, 7, 1, []), (15, 2, 1, 1, [])]
def mt_79_1 : List (Nat × mx_I) := [(16, 2, 3, 1, []), (17, 70, 69, 3, [6]), (20, 0, 0, 1, []), (21, 5, 4, 2, []), (23, 2, 4, 2, []), (25, 0, 40, 2, []), (27, 45, 51, 0, []), (30, 4, 0, 1, []), (31, 51, 7, 2, [])]
def mt_79_2 : List (Nat × mx_I) := [(34, 2, 1, 1, []), (35, 0, 40, 2, []), (37, 11, 0, 0, []), (38, 2, 4, 2, []), (40, 9, 0, 0, []), (41, 0, 0, 1, []), (42, 70, 69, 3, [6]), (45, 8, 4, 1, [])]
def mt_79_3 : List (Nat × mx_I) := [(48, 48, 23, 0, []), (51, 0, 1, 1, []), (52, 80, 0, 0, [])]
def mt_79 : List (List (Nat × mx_I)) := [mt_79_0, mt_79_1, mt_79_2, mt_79_3]
def mt_80_0 : List (Nat × mx_I) := [(0, 4, 0, 1, []), (1, 51, 7, 0, []), (4, 2, 1, 1, []), (5, 70, 68, 2, [6]), (8, 37, 15, 0, []), (11, 0, 1, 1, []), (12, 48, 16, 0, []), (15, 0, 0, 1, [])]
def mt_80_1 : List (Nat × mx_I) := [(16, 80, 2, 0, [])]
def mt_80 : List (List (Nat × mx_I)) := [mt_80_0, mt_80_1]
def mt_81_0 : List (Nat × mx_I) := [(0, 4, 0, 1, []), (1, 51, 7, 0, []), (4, 2, 1, 1, []), (5, 70, 68, 2, [6]), (8, 0, 1, 1, []), (9, 10, 0, 0, []), (10, 80, 0, 0, [])]
def mt_81 : List (List (Nat × mx_I)) := [mt_81_0]
def mt_82_0 : List (Nat × mx_I) := [(0, 2, 2, 1, []), (1, 38, 38, 0, []), (4, 2, 3, 1, []), (5, 38, 38, 0, []), (8, 2, 2, 1, []), (9, 4, 0, 1, []), (10, 51, 7, 1, []), (13, 2, 1, 1, []), (14, 70, 68, 2, [6])]
def mt_82_1 : List (Nat × mx_I) := [(17, 46, 38, 0, []), (20, 2, 3, 1, []), (21, 4, 0, 1, []), (22, 51, 7, 1, []), (25, 2, 1, 1, []), (26, 70, 68, 2, [6]), (29, 2, 2, 1, []), (30, 10, 0, 0, []), (31, 46, 38, 0, [])]
def mt_82_2 : List (Nat × mx_I) := [(34, 0, 1, 1, []), (35, 48, 39, 0, []), (38, 0, 0, 1, []), (39, 80, 2, 0, [])]
def mt_82 : List (List (Nat × mx_I)) := [mt_82_0, mt_82_1, mt_82_2]
def mt_83_0 : List (Nat × mx_I) := [(0, 4, 0, 1, []), (1, 51, 7, 2, []), (4, 2, 1, 1, []), (5, 0, 40, 2, []), (7, 11, 0, 0, []), (8, 2, 2, 1, []), (9, 9, 0, 0, []), (10, 70, 68, 2, [6]), (13, 80, 0, 0, [])]
def mt_83 : List (List (Nat × mx_I)) := [mt_83_0]
def mt_84_0 : List (Nat × mx_I) := [(0, 4, 0, 1, []), (1, 2, 1, 1, []), (2, 70, 81, 2, [7]), (5, 5, 4, 2, []), (7, 4, 0, 1, []), (8, 51, 7, 2, []), (11, 2, 1, 1, []), (12, 0, 40, 2, []), (14, 11, 0, 0, []), (15, 2, 2, 1, [])]
def mt_84_1 : List (Nat × mx_I) := [(16, 9, 0, 0, []), (17, 2, 4, 2, []), (19, 37, 27, 0, []), (22, 2, 3, 1, []), (23, 30, 0, 0, []), (24, 48, 39, 0, []), (27, 2, 4, 2, []), (29, 0, 1, 1, []), (30, 43, 38, 0, [])]
def mt_84_2 : List (Nat × mx_I) := [(33, 2, 3, 1, []), (34, 31, 0, 0, []), (35, 48, 39, 0, []), (38, 2, 3, 1, []), (39, 70, 69, 3, [6]), (42, 0, 1, 1, []), (43, 80, 0, 0, [])]
def mt_84 : List (List (Nat × mx_I)) := [mt_84_0, mt_84_1, mt_84_2]
def mt_85_0 : List (Nat × mx_I) := [(0, 4, 0, 1, []), (1, 51, 7, 2, []), (4, 2, 1, 1, []), (5, 0, 40, 2, []), (7, 11, 0, 0, []), (8, 2, 2, 1, []), (9, 9, 0, 0, []), (10, 2, 3, 1, []), (11, 0, 40, 2, []), (13, 11, 0, 0, []), (14, 2, 4, 2, [])]
def mt_85_1 : List (Nat × mx_I) := [(16, 9, 0, 0, []), (17, 2, 5, 2, []), (19, 70, 74, 4, [6]), (22, 2, 5, 2, []), (24, 80, 0, 0, [])]
def mt_85 : List (List (Nat × mx_I)) := [mt_85_0, mt_85_1]
def mt_86_0 : List (Nat × mx_I) := [(0, 4, 0, 1, []), (1, 63, 0, 0, []), (4, 4, 0, 1, []), (5, 61, 6, 0, []), (8, 33, 0, 0, []), (9, 0, 40, 2, []), (11, 70, 64, 2, [98]), (14, 54, 8, 3, [])]
def mt_86_1 : List (Nat × mx_I) := [(17, 4, 0, 1, []), (18, 61, 6, 0, []), (21, 33, 0, 0, []), (22, 0, 40, 2, []), (24, 70, 64, 2, [98]), (27, 54, 8, 4, []), (30, 4, 0, 1, []), (31, 61, 6, 0, [])]
def mt_86_2 : List (Nat × mx_I) := [(34, 33, 0, 0, []), (35, 0, 40, 2, []), (37, 70, 64, 2, [98]), (40, 54, 8, 5, []), (43, 4, 0, 1, []), (44, 61, 6, 0, []), (47, 33, 0, 0, [])]
def mt_86_3 : List (Nat × mx_I) := [(48, 0, 40, 2, []), (50, 70, 64, 2, [98]), (53, 54, 8, 6, []), (56, 4, 0, 1, []), (57, 61, 6, 0, []), (60, 33, 0, 0, []), (61, 0, 40, 2, []), (63, 70, 64, 2, [98])]
def mt_86_4 : List (Nat × mx_I) := [(66, 54, 8, 7, []), (69, 4, 0, 1, []), (70, 61, 6, 0, []), (73, 33, 0, 0, []), (74, 0, 40, 2, []), (76, 70, 64, 2, [98]), (79, 54, 8, 8, [])]
def mt_86_5 : List (Nat × mx_I) := [(82, 4, 0, 1, []), (83, 61, 6, 0, []), (86, 33, 0, 0, []), (87, 0, 60, 2, []), (89, 70, 64, 2, [98]), (92, 54, 8, 9, []), (95, 4, 0, 1, [])]
def mt_86_6 : List (Nat × mx_I) := [(96, 61, 6, 0, []), (99, 33, 0, 0, []), (100, 0, 60, 2, []), (102, 70, 64, 2, [98]), (105, 54, 8, 10, []), (108, 4, 0, 1, []), (109, 61, 6, 0, [])]
def mt_86_7 : List (Nat × mx_I) := [(112, 33, 0, 0, []), (113, 0, 60, 2, []), (115, 70, 64, 2, [98]), (118, 54, 8, 11, []), (121, 4, 0, 1, []), (122, 61, 6, 0, []), (125, 33, 0, 0, []), (126, 0, 60, 2, [])]
def mt_86_8 : List (Nat × mx_I) := [(128, 70, 64, 2, [98]), (131, 54, 8, 12, []), (134, 4, 0, 1, []), (135, 61, 6, 0, []), (138, 33, 0, 0, []), (139, 0, 60, 2, []), (141, 70, 64, 2, [98])]
def mt_86_9 : List (Nat × mx_I) := [(144, 54, 8, 13, []), (147, 4, 0, 1, []), (148, 4, 1, 1, []), (149, 54, 8, 0, []), (152, 4, 0, 1, []), (153, 4, 2, 1, []), (154, 54, 8, 1, []), (157, 83, 0, 0, [])]
def mt_86 : List (List (Nat × mx_I)) := [mt_86_0, mt_86_1, mt_86_2, mt_86_3, mt_86_4, mt_86_5, mt_86_6, mt_86_7, mt_86_8, mt_86_9]
def mt_87_0 : List (Nat × mx_I) := [(0, 2, 1, 1, []), (1, 38, 16, 0, []), (4, 2, 1, 1, []), (5, 4, 0, 1, []), (6, 51, 8, 2, []), (9, 45, 16, 0, []), (12, 0, 1, 1, []), (13, 48, 17, 0, [])]
def mt_87_1 : List (Nat × mx_I) := [(16, 0, 0, 1, []), (17, 80, 2, 0, [])]
def mt_87 : List (List (Nat × mx_I)) := [mt_87_0, mt_87_1]
def mt_88_0 : List (Nat × mx_I) := [(0, 0, 4294967295, 1, []), (1, 5, 3, 1, []), (2, 0, 4294967295, 1, []), (3, 5, 4, 2, []), (5, 0, 0, 1, []), (6, 5, 5, 2, []), (8, 2, 5, 2, []), (10, 4, 0, 1, []), (11, 51, 8, 3, []), (14, 70, 65, 1, [6])]
def mt_88_1 : List (Nat × mx_I) := [(17, 45, 77, 0, []), (20, 4, 0, 1, []), (21, 51, 8, 5, []), (24, 2, 5, 2, []), (26, 70, 68, 2, [6]), (29, 5, 6, 2, []), (31, 4, 0, 1, [])]
def mt_88_2 : List (Nat × mx_I) := [(32, 51, 8, 3, []), (35, 2, 5, 2, []), (37, 70, 68, 2, [6]), (40, 2, 1, 1, []), (41, 43, 71, 0, []), (44, 2, 6, 2, []), (46, 2, 2, 1, []), (47, 46, 71, 0, [])]
def mt_88_3 : List (Nat × mx_I) := [(50, 2, 6, 2, []), (52, 2, 4, 2, []), (54, 44, 71, 0, []), (57, 2, 6, 2, []), (59, 5, 4, 2, []), (61, 4, 0, 1, []), (62, 51, 8, 4, [])]
def mt_88_4 : List (Nat × mx_I) := [(65, 2, 5, 2, []), (67, 70, 68, 2, [6]), (70, 5, 3, 1, []), (71, 8, 5, 1, []), (74, 48, 8, 0, []), (77, 2, 3, 1, []), (78, 80, 0, 0, [])]
def mt_88 : List (List (Nat × mx_I)) := [mt_88_0, mt_88_1, mt_88_2, mt_88_3, mt_88_4]
def mt_89_0 : List (Nat × mx_I) := [(0, 0, 0, 1, []), (1, 5, 2, 1, []), (2, 0, 0, 1, []), (3, 5, 3, 1, []), (4, 2, 3, 1, []), (5, 2, 1, 1, []), (6, 46, 48, 0, []), (9, 2, 3, 1, []), (10, 4, 0, 1, []), (11, 51, 8, 6, []), (14, 70, 65, 1, [6])]
def mt_89_1 : List (Nat × mx_I) := [(17, 45, 48, 0, []), (20, 4, 0, 1, []), (21, 51, 8, 6, []), (24, 2, 3, 1, []), (25, 70, 68, 2, [6]), (28, 4, 0, 1, []), (29, 51, 8, 6, [])]
def mt_89_2 : List (Nat × mx_I) := [(32, 2, 1, 1, []), (33, 70, 68, 2, [6]), (36, 43, 42, 0, []), (39, 8, 2, 1, []), (42, 8, 3, 1, []), (45, 48, 4, 0, [])]
def mt_89_3 : List (Nat × mx_I) := [(48, 2, 2, 1, []), (49, 80, 0, 0, [])]
def mt_89 : List (List (Nat × mx_I)) := [mt_89_0, mt_89_1, mt_89_2, mt_89_3]
def mt_90_0 : List (Nat × mx_I) := [(0, 4, 0, 1, []), (1, 51, 8, 1, []), (4, 4, 0, 1, []), (5, 51, 8, 0, []), (8, 51, 0, 6, []), (11, 4, 0, 1, []), (12, 51, 8, 7, []), (15, 2, 1, 1, [])]
def mt_90_1 : List (Nat × mx_I) := [(16, 70, 68, 2, [6]), (19, 70, 68, 2, [6]), (22, 2, 2, 1, []), (23, 4, 0, 1, []), (24, 51, 8, 8, []), (27, 2, 1, 1, []), (28, 70, 68, 2, [6]), (31, 70, 115, 4, [10])]
def mt_90_2 : List (Nat × mx_I) := [(34, 5, 3, 1, []), (35, 0, 0, 1, []), (36, 0, 5, 1, []), (37, 2, 3, 1, []), (38, 66, 0, 0, []), (41, 65, 0, 0, []), (44, 80, 0, 0, [])]
def mt_90 : List (List (Nat × mx_I)) := [mt_90_0, mt_90_1, mt_90_2]
def mt_91_0 : List (Nat × mx_I) := [(0, 4, 0, 1, []), (1, 51, 8, 11, []), (4, 0, 4294967295, 1, []), (5, 70, 76, 2, [6]), (8, 0, 0, 1, []), (9, 5, 2, 1, []), (10, 0, 0, 1, []), (11, 5, 3, 1, []), (12, 2, 3, 1, []), (13, 4, 0, 1, []), (14, 51, 8, 6, [])]
def mt_91_1 : List (Nat × mx_I) := [(17, 70, 65, 1, [6]), (20, 45, 58, 0, []), (23, 4, 0, 1, []), (24, 51, 8, 6, []), (27, 2, 3, 1, []), (28, 70, 68, 2, [6]), (31, 2, 1, 1, [])]
def mt_91_2 : List (Nat × mx_I) := [(32, 42, 38, 0, []), (35, 48, 52, 0, []), (38, 8, 2, 1, []), (41, 4, 0, 1, []), (42, 2, 3, 1, []), (43, 4, 0, 1, []), (44, 2, 3, 1, []), (45, 2, 2, 1, []), (46, 70, 90, 3, [8])]
def mt_91_3 : List (Nat × mx_I) := [(49, 70, 92, 3, [8]), (52, 8, 3, 1, []), (55, 48, 12, 0, []), (58, 83, 0, 0, [])]
def mt_91 : List (List (Nat × mx_I)) := [mt_91_0, mt_91_1, mt_91_2, mt_91_3]
def mt_92_0 : List (Nat × mx_I) := [(0, 4, 0, 1, []), (1, 51, 8, 0, []), (4, 51, 0, 6, []), (7, 4, 0, 1, []), (8, 51, 8, 7, []), (11, 2, 1, 1, []), (12, 70, 68, 2, [6]), (15, 70, 68, 2, [6])]
def mt_92_1 : List (Nat × mx_I) := [(18, 5, 3, 1, []), (19, 4, 0, 1, []), (20, 4, 0, 1, []), (21, 51, 8, 6, []), (24, 2, 1, 1, []), (25, 70, 68, 2, [6]), (28, 2, 3, 1, []), (29, 70, 88, 3, [8])]
def mt_92_2 : List (Nat × mx_I) := [(32, 5, 4, 2, []), (34, 2, 4, 2, []), (36, 0, 4294967295, 1, []), (37, 43, 44, 0, []), (40, 0, 0, 1, []), (41, 48, 45, 0, []), (44, 2, 2, 1, []), (45, 5, 5, 2, []), (47, 0, 0, 1, [])]
def mt_92_3 : List (Nat × mx_I) := [(48, 5, 6, 2, []), (50, 2, 6, 2, []), (52, 4, 0, 1, []), (53, 51, 8, 0, []), (56, 51, 0, 7, []), (59, 70, 65, 1, [6]), (62, 45, 164, 0, [])]
def mt_92_4 : List (Nat × mx_I) := [(65, 2, 5, 2, []), (67, 41, 164, 0, []), (70, 4, 0, 1, []), (71, 51, 8, 0, []), (74, 51, 0, 7, []), (77, 2, 6, 2, []), (79, 70, 68, 2, [6])]
def mt_92_5 : List (Nat × mx_I) := [(82, 5, 7, 2, []), (84, 4, 0, 1, []), (85, 51, 8, 0, []), (88, 51, 0, 6, []), (91, 2, 7, 2, []), (93, 70, 68, 2, [6])]
def mt_92_6 : List (Nat × mx_I) := [(96, 2, 3, 1, []), (97, 47, 158, 0, []), (100, 4, 0, 1, []), (101, 51, 8, 0, []), (104, 2, 7, 2, []), (106, 2, 4, 2, []), (108, 70, 5, 3, [0]), (111, 37, 117, 0, [])]
def mt_92_7 : List (Nat × mx_I) := [(114, 48, 158, 0, []), (117, 4, 0, 1, []), (118, 51, 8, 0, []), (121, 2, 7, 2, []), (123, 70, 7, 2, [0]), (126, 36, 158, 0, [])]
def mt_92_8 : List (Nat × mx_I) := [(129, 4, 0, 1, []), (130, 51, 8, 11, []), (133, 2, 7, 2, []), (135, 70, 68, 2, [6]), (138, 0, 4294967295, 1, []), (139, 42, 145, 0, []), (142, 48, 158, 0, [])]
def mt_92_9 : List (Nat × mx_I) := [(145, 4, 0, 1, []), (146, 51, 8, 11, []), (149, 2, 7, 2, []), (151, 2, 1, 1, []), (152, 70, 69, 3, [6]), (155, 8, 5, 4294967295, []), (158, 8, 6, 1, [])]
def mt_92_10 : List (Nat × mx_I) := [(161, 48, 50, 0, []), (164, 83, 0, 0, [])]
def mt_92 : List (List (Nat × mx_I)) := [mt_92_0, mt_92_1, mt_92_2, mt_92_3, mt_92_4, mt_92_5, mt_92_6, mt_92_7, mt_92_8, mt_92_9, mt_92_10]
def mt_93_0 : List (Nat × mx_I) := [(0, 4, 0, 1, []), (1, 4, 0, 1, []), (2, 51, 8, 6, []), (5, 2, 1, 1, []), (6, 70, 68, 2, [6]), (9, 70, 91, 2, [8]), (12, 0, 0, 1, []), (13, 5, 3, 1, []), (14, 0, 0, 1, []), (15, 5, 4, 2, [])]
def mt_93_1 : List (Nat × mx_I) := [(17, 2, 4, 2, []), (19, 4, 0, 1, []), (20, 51, 8, 0, []), (23, 51, 0, 7, []), (26, 70, 65, 1, [6]), (29, 45, 79, 0, [])]
def mt_93_2 : List (Nat × mx_I) := [(32, 4, 0, 1, []), (33, 51, 8, 0, []), (36, 51, 0, 7, []), (39, 2, 4, 2, []), (41, 70, 68, 2, [6]), (44, 5, 5, 2, []), (46, 4, 0, 1, []), (47, 51, 8, 11, [])]
def mt_93_3 : List (Nat × mx_I) := [(50, 2, 5, 2, []), (52, 70, 68, 2, [6]), (55, 2, 1, 1, []), (56, 42, 62, 0, []), (59, 48, 73, 0, []), (62, 2, 3, 1, []), (63, 2, 2, 1, [])]
def mt_93_4 : List (Nat × mx_I) := [(64, 43, 70, 0, []), (67, 2, 5, 2, []), (69, 80, 0, 0, []), (70, 8, 3, 1, []), (73, 8, 4, 1, []), (76, 48, 17, 0, []), (79, 0, 4294967295, 1, [])]
def mt_93_5 : List (Nat × mx_I) := [(80, 80, 0, 0, [])]
def mt_93 : List (List (Nat × mx_I)) := [mt_93_0, mt_93_1, mt_93_2, mt_93_3, mt_93_4, mt_93_5]
def mt_94_0 : List (Nat × mx_I) := [(0, 4, 0, 1, []), (1, 2, 1, 1, []), (2, 4, 0, 1, []), (3, 51, 8, 0, []), (6, 51, 0, 6, []), (9, 2, 2, 1, []), (10, 70, 68, 2, [6]), (13, 70, 88, 3, [8])]
def mt_94_1 : List (Nat × mx_I) := [(16, 5, 3, 1, []), (17, 2, 3, 1, []), (18, 0, 4294967295, 1, []), (19, 42, 50, 0, []), (22, 4, 0, 1, []), (23, 51, 8, 0, []), (26, 2, 2, 1, []), (27, 2, 3, 1, []), (28, 70, 5, 3, [0]), (31, 36, 50, 0, [])]
def mt_94_2 : List (Nat × mx_I) := [(34, 4, 0, 1, []), (35, 51, 8, 11, []), (38, 2, 2, 1, []), (39, 70, 68, 2, [6]), (42, 0, 4294967295, 1, []), (43, 43, 50, 0, []), (46, 0, 1, 1, []), (47, 48, 51, 0, [])]
def mt_94_3 : List (Nat × mx_I) := [(50, 0, 0, 1, []), (51, 80, 2, 0, [])]
def mt_94 : List (List (Nat × mx_I)) := [mt_94_0, mt_94_1, mt_94_2, mt_94_3]
def mt_95_0 : List (Nat × mx_I) := [(0, 0, 0, 1, []), (1, 5, 3, 1, []), (2, 2, 3, 1, []), (3, 4, 0, 1, []), (4, 51, 8, 9, []), (7, 70, 65, 1, [6]), (10, 45, 45, 0, []), (13, 4, 0, 1, []), (14, 51, 8, 9, [])]
def mt_95_1 : List (Nat × mx_I) := [(17, 2, 3, 1, []), (18, 70, 68, 2, [6]), (21, 2, 1, 1, []), (22, 43, 39, 0, []), (25, 4, 0, 1, []), (26, 51, 8, 10, []), (29, 2, 3, 1, []), (30, 70, 68, 2, [6])]
def mt_95_2 : List (Nat × mx_I) := [(33, 2, 2, 1, []), (34, 43, 39, 0, []), (37, 0, 1, 1, []), (38, 80, 2, 0, []), (39, 8, 3, 1, []), (42, 48, 2, 0, []), (45, 0, 0, 1, []), (46, 80, 2, 0, [])]
def mt_95 : List (List (Nat × mx_I)) := [mt_95_0, mt_95_1, mt_95_2]
def mt_96_0 : List (Nat × mx_I) := [(0, 4, 0, 1, []), (1, 51, 8, 12, []), (4, 0, 0, 1, []), (5, 70, 76, 2, [6]), (8, 0, 0, 1, []), (9, 5, 1, 1, []), (10, 2, 1, 1, []), (11, 4, 0, 1, []), (12, 51, 8, 2, []), (15, 45, 87, 0, [])]
def mt_96_1 : List (Nat × mx_I) := [(18, 4, 0, 1, []), (19, 2, 1, 1, []), (20, 70, 91, 2, [8]), (23, 0, 0, 1, []), (24, 5, 2, 1, []), (25, 2, 2, 1, []), (26, 4, 0, 1, []), (27, 51, 8, 9, []), (30, 70, 65, 1, [6])]
def mt_96_2 : List (Nat × mx_I) := [(33, 45, 81, 0, []), (36, 4, 0, 1, []), (37, 51, 8, 10, []), (40, 2, 2, 1, []), (41, 70, 68, 2, [6]), (44, 5, 3, 1, []), (45, 4, 0, 1, []), (46, 51, 8, 9, [])]
def mt_96_3 : List (Nat × mx_I) := [(49, 2, 2, 1, []), (50, 70, 68, 2, [6]), (53, 2, 1, 1, []), (54, 43, 75, 0, []), (57, 4, 0, 1, []), (58, 2, 1, 1, []), (59, 2, 3, 1, []), (60, 70, 94, 3, [8]), (63, 37, 75, 0, [])]
def mt_96_4 : List (Nat × mx_I) := [(66, 4, 0, 1, []), (67, 51, 8, 12, []), (70, 2, 3, 1, []), (71, 0, 1, 1, []), (72, 70, 69, 3, [6]), (75, 8, 2, 1, []), (78, 48, 25, 0, [])]
def mt_96_5 : List (Nat × mx_I) := [(81, 8, 1, 1, []), (84, 48, 10, 0, []), (87, 4, 0, 1, []), (88, 51, 8, 13, []), (91, 70, 75, 1, [6]), (94, 0, 0, 1, []), (95, 5, 1, 1, [])]
def mt_96_6 : List (Nat × mx_I) := [(96, 2, 1, 1, []), (97, 4, 0, 1, []), (98, 51, 8, 0, []), (101, 51, 0, 3, []), (104, 70, 65, 1, [6]), (107, 45, 137, 0, []), (110, 4, 0, 1, []), (111, 51, 8, 12, [])]
def mt_96_7 : List (Nat × mx_I) := [(114, 2, 1, 1, []), (115, 70, 68, 2, [6]), (118, 0, 1, 1, []), (119, 43, 131, 0, []), (122, 4, 0, 1, []), (123, 51, 8, 13, []), (126, 2, 1, 1, []), (127, 70, 71, 2, [6])]
def mt_96_8 : List (Nat × mx_I) := [(130, 34, 0, 0, []), (131, 8, 1, 1, []), (134, 48, 96, 0, []), (137, 83, 0, 0, [])]
def mt_96 : List (List (Nat × mx_I)) := [mt_96_0, mt_96_1, mt_96_2, mt_96_3, mt_96_4, mt_96_5, mt_96_6, mt_96_7, mt_96_8]
def mt_97_0 : List (Nat × mx_I) := [(0, 4, 0, 1, []), (1, 63, 0, 0, []), (4, 4, 0, 1, []), (5, 61, 6, 0, []), (8, 33, 0, 0, []), (9, 0, 30, 2, []), (11, 70, 64, 2, [98]), (14, 54, 9, 2, [])]
def mt_97_1 : List (Nat × mx_I) := [(17, 4, 0, 1, []), (18, 61, 6, 0, []), (21, 33, 0, 0, []), (22, 0, 30, 2, []), (24, 70, 64, 2, [98]), (27, 54, 9, 3, []), (30, 4, 0, 1, []), (31, 61, 6, 0, [])]
def mt_97_2 : List (Nat × mx_I) := [(34, 33, 0, 0, []), (35, 0, 30, 2, []), (37, 70, 64, 2, [98]), (40, 54, 9, 4, []), (43, 4, 0, 1, []), (44, 0, 12, 2, []), (46, 62, 3, 0, [])]
def mt_97_3 : List (Nat × mx_I) := [(48, 54, 9, 5, []), (51, 4, 0, 1, []), (52, 61, 6, 0, []), (55, 33, 0, 0, []), (56, 0, 12, 2, []), (58, 70, 64, 2, [98]), (61, 54, 9, 6, [])]
def mt_97_4 : List (Nat × mx_I) := [(64, 4, 0, 1, []), (65, 61, 6, 0, []), (68, 33, 0, 0, []), (69, 0, 12, 2, []), (71, 70, 64, 2, [98]), (74, 54, 9, 7, []), (77, 4, 0, 1, []), (78, 61, 6, 0, [])]
def mt_97_5 : List (Nat × mx_I) := [(81, 33, 0, 0, []), (82, 0, 12, 2, []), (84, 70, 64, 2, [98]), (87, 54, 9, 8, []), (90, 4, 0, 1, []), (91, 61, 6, 0, []), (94, 33, 0, 0, []), (95, 0, 12, 2, [])]
def mt_97_6 : List (Nat × mx_I) := [(97, 70, 64, 2, [98]), (100, 54, 9, 9, []), (103, 4, 0, 1, []), (104, 61, 6, 0, []), (107, 33, 0, 0, []), (108, 0, 12, 2, []), (110, 70, 64, 2, [98])]
def mt_97_7 : List (Nat × mx_I) := [(113, 54, 9, 10, []), (116, 4, 0, 1, []), (117, 4, 1, 1, []), (118, 54, 9, 0, []), (121, 4, 0, 1, []), (122, 4, 2, 1, []), (123, 54, 9, 1, []), (126, 83, 0, 0, [])]
def mt_97 : List (List (Nat × mx_I)) := [mt_97_0, mt_97_1, mt_97_2, mt_97_3, mt_97_4, mt_97_5, mt_97_6, mt_97_7]
def mt_98_0 : List (Nat × mx_I) := [(0, 4, 0, 1, []), (1, 51, 9, 5, []), (4, 1, 0, 1, []), (5, 70, 272, 2, []), (8, 4, 0, 1, []), (9, 51, 9, 6, []), (12, 0, 0, 1, []), (13, 70, 76, 2, [6])]
def mt_98_1 : List (Nat × mx_I) := [(16, 4, 0, 1, []), (17, 51, 9, 7, []), (20, 0, 0, 1, []), (21, 70, 76, 2, [6]), (24, 4, 0, 1, []), (25, 51, 9, 8, []), (28, 0, 0, 1, []), (29, 70, 76, 2, [6])]
def mt_98_2 : List (Nat × mx_I) := [(32, 4, 0, 1, []), (33, 51, 9, 10, []), (36, 0, 0, 1, []), (37, 70, 76, 2, [6]), (40, 4, 0, 1, []), (41, 2, 1, 1, []), (42, 53, 9, 11, []), (45, 4, 0, 1, []), (46, 51, 9, 0, [])]
def mt_98_3 : List (Nat × mx_I) := [(49, 2, 1, 1, []), (50, 70, 11, 2, [0]), (53, 0, 0, 1, []), (54, 5, 2, 1, []), (55, 2, 2, 1, []), (56, 4, 0, 1, []), (57, 51, 9, 0, []), (60, 51, 0, 3, []), (63, 70, 65, 1, [6])]
def mt_98_4 : List (Nat × mx_I) := [(66, 45, 168, 0, []), (69, 4, 0, 1, []), (70, 51, 9, 0, []), (73, 51, 0, 11, []), (76, 2, 2, 1, []), (77, 70, 68, 2, [6])]
def mt_98_5 : List (Nat × mx_I) := [(80, 5, 3, 1, []), (81, 2, 3, 1, []), (82, 38, 162, 0, []), (85, 4, 0, 1, []), (86, 51, 9, 0, []), (89, 51, 0, 6, []), (92, 2, 2, 1, []), (93, 70, 68, 2, [6])]
def mt_98_6 : List (Nat × mx_I) := [(96, 2, 1, 1, []), (97, 46, 162, 0, []), (100, 4, 0, 1, []), (101, 51, 9, 0, []), (104, 2, 2, 1, []), (105, 70, 6, 2, [0]), (108, 37, 114, 0, []), (111, 48, 162, 0, [])]
def mt_98_7 : List (Nat × mx_I) := [(114, 4, 0, 1, []), (115, 2, 2, 1, []), (116, 4, 0, 1, []), (117, 51, 9, 0, []), (120, 51, 0, 4, []), (123, 2, 2, 1, []), (124, 70, 68, 2, [6]), (127, 2, 3, 1, [])]
def mt_98_8 : List (Nat × mx_I) := [(128, 0, 100, 2, []), (130, 14, 0, 0, []), (131, 2, 3, 1, []), (132, 0, 100, 2, []), (134, 15, 0, 0, []), (135, 70, 99, 5, [9]), (138, 4, 0, 1, []), (139, 2, 2, 1, []), (140, 4, 0, 1, []), (141, 51, 9, 0, [])]
def mt_98_9 : List (Nat × mx_I) := [(144, 51, 0, 5, []), (147, 2, 2, 1, []), (148, 70, 68, 2, [6]), (151, 2, 3, 1, []), (152, 0, 100, 2, []), (154, 15, 0, 0, []), (155, 2, 3, 1, []), (156, 0, 100, 2, []), (158, 14, 0, 0, []), (159, 70, 99, 5, [9])]
def mt_98_10 : List (Nat × mx_I) := [(162, 8, 2, 1, []), (165, 48, 55, 0, []), (168, 0, 0, 1, []), (169, 5, 2, 1, []), (170, 2, 2, 1, []), (171, 4, 0, 1, []), (172, 51, 9, 2, []), (175, 70, 65, 1, [6])]
def mt_98_11 : List (Nat × mx_I) := [(178, 45, 221, 0, []), (181, 4, 0, 1, []), (182, 51, 9, 4, []), (185, 2, 2, 1, []), (186, 70, 68, 2, [6]), (189, 2, 1, 1, []), (190, 46, 215, 0, [])]
def mt_98_12 : List (Nat × mx_I) := [(193, 4, 0, 1, []), (194, 4, 0, 1, []), (195, 51, 9, 2, []), (198, 2, 2, 1, []), (199, 70, 68, 2, [6]), (202, 4, 0, 1, []), (203, 51, 9, 3, []), (206, 2, 2, 1, []), (207, 70, 68, 2, [6])]
def mt_98_13 : List (Nat × mx_I) := [(210, 16, 0, 0, []), (211, 28, 0, 0, []), (212, 70, 100, 3, [9]), (215, 8, 2, 1, []), (218, 48, 170, 0, []), (221, 83, 0, 0, [])]
def mt_98 : List (List (Nat × mx_I)) := [mt_98_0, mt_98_1, mt_98_2, mt_98_3, mt_98_4, mt_98_5, mt_98_6, mt_98_7, mt_98_8, mt_98_9, mt_98_10, mt_98_11, mt_98_12, mt_98_13]
def mt_99_0 : List (Nat × mx_I) := [(0, 4, 0, 1, []), (1, 2, 2, 1, []), (2, 2, 3, 1, []), (3, 2, 4, 2, []), (5, 10, 0, 0, []), (6, 2, 3, 1, []), (7, 2, 3, 1, []), (8, 2, 4, 2, []), (10, 47, 17, 0, []), (13, 0, 1, 1, []), (14, 48, 18, 0, [])]
def mt_99_1 : List (Nat × mx_I) := [(17, 0, 0, 1, []), (18, 70, 101, 5, [9]), (21, 2, 3, 1, []), (22, 2, 4, 2, []), (24, 45, 28, 0, []), (27, 83, 0, 0, []), (28, 4, 0, 1, []), (29, 51, 9, 0, [])]
def mt_99_2 : List (Nat × mx_I) := [(32, 51, 0, 3, []), (35, 2, 1, 1, []), (36, 70, 68, 2, [6]), (39, 5, 5, 2, []), (41, 4, 0, 1, []), (42, 51, 9, 0, []), (45, 2, 1, 1, []), (46, 70, 8, 2, [0])]
def mt_99_3 : List (Nat × mx_I) := [(49, 5, 6, 2, []), (51, 2, 3, 1, []), (52, 2, 4, 2, []), (54, 47, 61, 0, []), (57, 0, 0, 1, []), (58, 48, 62, 0, []), (61, 0, 1, 1, []), (62, 5, 7, 2, [])]
def mt_99_4 : List (Nat × mx_I) := [(64, 4, 0, 1, []), (65, 2, 2, 1, []), (66, 4, 0, 1, []), (67, 51, 9, 1, []), (70, 2, 7, 2, []), (72, 4, 0, 1, []), (73, 51, 9, 0, []), (76, 51, 0, 6, []), (79, 2, 1, 1, [])]
def mt_99_5 : List (Nat × mx_I) := [(80, 70, 68, 2, [6]), (83, 2, 3, 1, []), (84, 2, 4, 2, []), (86, 10, 0, 0, []), (87, 2, 3, 1, []), (88, 2, 5, 2, []), (90, 2, 6, 2, []), (92, 70, 113, 7, [10]), (95, 28, 0, 0, [])]
def mt_99_6 : List (Nat × mx_I) := [(96, 70, 100, 3, [9]), (99, 83, 0, 0, [])]
def mt_99 : List (List (Nat × mx_I)) := [mt_99_0, mt_99_1, mt_99_2, mt_99_3, mt_99_4, mt_99_5, mt_99_6]
def mt_100_0 : List (Nat × mx_I) := [(0, 2, 1, 1, []), (1, 38, 23, 0, []), (4, 2, 1, 1, []), (5, 4, 0, 1, []), (6, 51, 9, 5, []), (9, 57, 0, 0, []), (10, 45, 23, 0, []), (13, 4, 0, 1, []), (14, 51, 9, 5, [])]
def mt_100_1 : List (Nat × mx_I) := [(17, 2, 1, 1, []), (18, 35, 0, 0, []), (19, 58, 3, 0, []), (20, 3, 2, 1, []), (21, 19, 0, 0, []), (22, 60, 0, 0, []), (23, 83, 0, 0, [])]
def mt_100 : List (List (Nat × mx_I)) := [mt_100_0, mt_100_1]
def mt_101_0 : List (Nat × mx_I) := [(0, 4, 0, 1, []), (1, 51, 9, 6, []), (4, 2, 1, 1, []), (5, 2, 2, 1, []), (6, 70, 70, 3, [6]), (9, 4, 0, 1, []), (10, 51, 9, 7, []), (13, 2, 1, 1, []), (14, 2, 3, 1, []), (15, 70, 70, 3, [6])]
def mt_101_1 : List (Nat × mx_I) := [(18, 4, 0, 1, []), (19, 51, 9, 8, []), (22, 2, 1, 1, []), (23, 2, 4, 2, []), (25, 70, 70, 3, [6]), (28, 4, 0, 1, []), (29, 51, 9, 10, [])]
def mt_101_2 : List (Nat × mx_I) := [(32, 2, 1, 1, []), (33, 0, 0, 1, []), (34, 70, 69, 3, [6]), (37, 83, 0, 0, [])]
def mt_101 : List (List (Nat × mx_I)) := [mt_101_0, mt_101_1, mt_101_2]
def mt_102_0 : List (Nat × mx_I) := [(0, 2, 1, 1, []), (1, 38, 22, 0, []), (4, 2, 1, 1, []), (5, 4, 0, 1, []), (6, 51, 9, 5, []), (9, 57, 0, 0, []), (10, 45, 22, 0, []), (13, 4, 0, 1, []), (14, 51, 9, 5, [])]
def mt_102_1 : List (Nat × mx_I) := [(17, 2, 1, 1, []), (18, 58, 3, 0, []), (19, 48, 23, 0, []), (22, 1, 0, 1, []), (23, 81, 0, 0, [])]
def mt_102 : List (List (Nat × mx_I)) := [mt_102_0, mt_102_1]
def mt_103_0 : List (Nat × mx_I) := [(0, 4, 0, 1, []), (1, 51, 9, 10, []), (4, 2, 1, 1, []), (5, 70, 68, 2, [6]), (8, 37, 54, 0, []), (11, 4, 0, 1, []), (12, 51, 9, 9, []), (15, 2, 1, 1, [])]
def mt_103_1 : List (Nat × mx_I) := [(16, 4, 0, 1, []), (17, 51, 9, 1, []), (20, 4, 0, 1, []), (21, 51, 9, 11, []), (24, 4, 0, 1, []), (25, 51, 9, 6, []), (28, 2, 1, 1, []), (29, 70, 68, 2, [6])]
def mt_103_2 : List (Nat × mx_I) := [(32, 4, 0, 1, []), (33, 51, 9, 7, []), (36, 2, 1, 1, []), (37, 70, 68, 2, [6]), (40, 4, 0, 1, []), (41, 51, 9, 8, []), (44, 2, 1, 1, []), (45, 70, 68, 2, [6])]
def mt_103_3 : List (Nat × mx_I) := [(48, 70, 114, 5, [10]), (51, 70, 69, 3, [6]), (54, 4, 0, 1, []), (55, 51, 9, 10, []), (58, 2, 1, 1, []), (59, 0, 1, 1, []), (60, 70, 69, 3, [6]), (63, 4, 0, 1, [])]
def mt_103_4 : List (Nat × mx_I) := [(64, 51, 9, 9, []), (67, 2, 1, 1, []), (68, 70, 68, 2, [6]), (71, 80, 0, 0, [])]
def mt_103 : List (List (Nat × mx_I)) := [mt_103_0, mt_103_1, mt_103_2, mt_103_3, mt_103_4]
def mt_104_0 : List (Nat × mx_I) := [(0, 4, 0, 1, []), (1, 51, 9, 0, []), (4, 51, 0, 1, []), (7, 2, 1, 1, []), (8, 70, 68, 2, [6]), (11, 5, 2, 1, []), (12, 0, 0, 1, []), (13, 5, 3, 1, []), (14, 0, 0, 1, []), (15, 5, 4, 2, [])]
def mt_104_1 : List (Nat × mx_I) := [(17, 2, 4, 2, []), (19, 4, 0, 1, []), (20, 51, 9, 0, []), (23, 51, 0, 1, []), (26, 70, 65, 1, [6]), (29, 45, 123, 0, [])]
def mt_104_2 : List (Nat × mx_I) := [(32, 2, 4, 2, []), (34, 2, 1, 1, []), (35, 42, 117, 0, []), (38, 4, 0, 1, []), (39, 51, 9, 0, []), (42, 51, 0, 1, []), (45, 2, 4, 2, []), (47, 70, 68, 2, [6])]
def mt_104_3 : List (Nat × mx_I) := [(50, 2, 2, 1, []), (51, 42, 57, 0, []), (54, 48, 117, 0, []), (57, 4, 0, 1, []), (58, 2, 4, 2, []), (60, 70, 102, 2, [9]), (63, 4, 0, 1, [])]
def mt_104_4 : List (Nat × mx_I) := [(64, 2, 1, 1, []), (65, 70, 102, 2, [9]), (68, 20, 0, 0, []), (69, 6, 5, 2, []), (71, 3, 5, 2, []), (73, 1, 0, 1, []), (74, 27, 0, 0, []), (75, 37, 94, 0, []), (78, 4, 0, 1, []), (79, 2, 4, 2, [])]
def mt_104_5 : List (Nat × mx_I) := [(81, 70, 103, 2, [9]), (84, 28, 0, 0, []), (85, 4, 0, 1, []), (86, 2, 1, 1, []), (87, 70, 103, 2, [9]), (90, 28, 0, 0, []), (91, 20, 0, 0, []), (92, 6, 5, 2, []), (94, 3, 5, 2, [])]
def mt_104_6 : List (Nat × mx_I) := [(96, 1, 0, 1, []), (97, 27, 0, 0, []), (98, 40, 114, 0, []), (101, 3, 5, 2, []), (103, 1, 0, 1, []), (104, 27, 0, 0, []), (105, 37, 117, 0, []), (108, 2, 4, 2, []), (110, 2, 1, 1, []), (111, 45, 117, 0, [])]
def mt_104_7 : List (Nat × mx_I) := [(114, 8, 3, 1, []), (117, 8, 4, 1, []), (120, 48, 17, 0, []), (123, 2, 3, 1, []), (124, 80, 0, 0, [])]
def mt_104 : List (List (Nat × mx_I)) := [mt_104_0, mt_104_1, mt_104_2, mt_104_3, mt_104_4, mt_104_5, mt_104_6, mt_104_7]
def mt_105_0 : List (Nat × mx_I) := [(0, 0, 0, 1, []), (1, 5, 3, 1, []), (2, 2, 3, 1, []), (3, 4, 0, 1, []), (4, 51, 9, 0, []), (7, 51, 0, 1, []), (10, 70, 65, 1, [6]), (13, 45, 48, 0, [])]
def mt_105_1 : List (Nat × mx_I) := [(16, 4, 0, 1, []), (17, 51, 9, 0, []), (20, 51, 0, 1, []), (23, 2, 3, 1, []), (24, 70, 68, 2, [6]), (27, 2, 1, 1, []), (28, 43, 42, 0, []), (31, 4, 0, 1, [])]
def mt_105_2 : List (Nat × mx_I) := [(32, 2, 3, 1, []), (33, 70, 104, 2, [9]), (36, 2, 2, 1, []), (37, 43, 42, 0, []), (40, 2, 3, 1, []), (41, 80, 0, 0, []), (42, 8, 3, 1, []), (45, 48, 2, 0, [])]
def mt_105_3 : List (Nat × mx_I) := [(48, 0, 4294967295, 1, []), (49, 80, 0, 0, [])]
def mt_105 : List (List (Nat × mx_I)) := [mt_105_0, mt_105_1, mt_105_2, mt_105_3]
def mt_106_0 : List (Nat × mx_I) := [(0, 4, 0, 1, []), (1, 63, 0, 0, []), (4, 4, 0, 1, []), (5, 61, 6, 0, []), (8, 33, 0, 0, []), (9, 0, 960, 3, []), (12, 70, 64, 2, [98]), (15, 54, 10, 1, [])]
def mt_106_1 : List (Nat × mx_I) := [(18, 4, 0, 1, []), (19, 61, 6, 0, []), (22, 33, 0, 0, []), (23, 0, 24, 2, []), (25, 70, 64, 2, [98]), (28, 54, 10, 2, []), (31, 4, 0, 1, [])]
def mt_106_2 : List (Nat × mx_I) := [(32, 61, 6, 0, []), (35, 33, 0, 0, []), (36, 0, 24, 2, []), (38, 70, 64, 2, [98]), (41, 54, 10, 3, []), (44, 4, 0, 1, []), (45, 61, 6, 0, [])]
def mt_106_3 : List (Nat × mx_I) := [(48, 33, 0, 0, []), (49, 0, 6, 2, []), (51, 70, 64, 2, [98]), (54, 54, 10, 4, []), (57, 4, 0, 1, []), (58, 61, 6, 0, []), (61, 33, 0, 0, []), (62, 0, 160, 3, [])]
def mt_106_4 : List (Nat × mx_I) := [(65, 70, 64, 2, [98]), (68, 54, 10, 5, []), (71, 4, 0, 1, []), (72, 61, 6, 0, []), (75, 33, 0, 0, []), (76, 0, 20, 2, []), (78, 70, 64, 2, [98])]
def mt_106_5 : List (Nat × mx_I) := [(81, 54, 10, 6, []), (84, 4, 0, 1, []), (85, 61, 6, 0, []), (88, 33, 0, 0, []), (89, 0, 20, 2, []), (91, 70, 64, 2, [98]), (94, 54, 10, 7, [])]
def mt_106_6 : List (Nat × mx_I) := [(97, 83, 0, 0, [])]
def mt_106 : List (List (Nat × mx_I)) := [mt_106_0, mt_106_1, mt_106_2, mt_106_3, mt_106_4, mt_106_5, mt_106_6]
def mt_107_0 : List (Nat × mx_I) := [(0, 4, 0, 1, []), (1, 51, 10, 1, []), (4, 4, 0, 1, []), (5, 51, 10, 0, []), (8, 37, 15, 0, []), (11, 0, 0, 1, []), (12, 48, 30, 0, []), (15, 4, 0, 1, [])]
def mt_107_1 : List (Nat × mx_I) := [(16, 51, 10, 3, []), (19, 4, 0, 1, []), (20, 51, 10, 0, []), (23, 0, 4, 1, []), (24, 11, 0, 0, []), (25, 0, 1, 1, []), (26, 10, 0, 0, []), (27, 70, 68, 2, [6]), (30, 53, 6, 1, [])]
def mt_107_2 : List (Nat × mx_I) := [(33, 83, 0, 0, [])]
def mt_107 : List (List (Nat × mx_I)) := [mt_107_0, mt_107_1, mt_107_2]
def mt_108_0 : List (Nat × mx_I) := [(0, 4, 0, 1, []), (1, 51, 10, 2, []), (4, 4, 0, 1, []), (5, 51, 10, 0, []), (8, 0, 4, 1, []), (9, 11, 0, 0, []), (10, 2, 1, 1, []), (11, 9, 0, 0, []), (12, 4, 0, 1, []), (13, 51, 10, 1, [])]
def mt_108_1 : List (Nat × mx_I) := [(16, 70, 65, 1, [6]), (19, 70, 69, 3, [6]), (22, 83, 0, 0, [])]
def mt_108 : List (List (Nat × mx_I)) := [mt_108_0, mt_108_1]
def mt_109_0 : List (Nat × mx_I) := [(0, 4, 0, 1, []), (1, 51, 10, 3, []), (4, 4, 0, 1, []), (5, 51, 10, 0, []), (8, 0, 4, 1, []), (9, 11, 0, 0, []), (10, 2, 1, 1, []), (11, 9, 0, 0, []), (12, 4, 0, 1, []), (13, 51, 10, 1, [])]
def mt_109_1 : List (Nat × mx_I) := [(16, 70, 65, 1, [6]), (19, 70, 69, 3, [6]), (22, 83, 0, 0, [])]
def mt_109 : List (List (Nat × mx_I)) := [mt_109_0, mt_109_1]
def mt_110_0 : List (Nat × mx_I) := [(0, 4, 0, 1, []), (1, 51, 10, 1, []), (4, 2, 1, 1, []), (5, 70, 71, 2, [6]), (8, 34, 0, 0, []), (9, 83, 0, 0, [])]
def mt_110 : List (List (Nat × mx_I)) := [mt_110_0]
def mt_111_0 : List (Nat × mx_I) := [(0, 4, 0, 1, []), (1, 51, 10, 1, []), (4, 0, 4294967295, 1, []), (5, 2, 1, 1, []), (6, 10, 0, 0, []), (7, 70, 71, 2, [6]), (10, 34, 0, 0, []), (11, 83, 0, 0, [])]
def mt_111 : List (List (Nat × mx_I)) := [mt_111_0]
def mt_112_0 : List (Nat × mx_I) := [(0, 0, 0, 1, []), (1, 5, 2, 1, []), (2, 0, 4294967295, 1, []), (3, 5, 3, 1, []), (4, 0, 0, 1, []), (5, 5, 4, 2, []), (7, 2, 4, 2, []), (9, 4, 0, 1, []), (10, 51, 10, 6, []), (13, 70, 65, 1, [6])]
def mt_112_1 : List (Nat × mx_I) := [(16, 45, 61, 0, []), (19, 4, 0, 1, []), (20, 51, 10, 7, []), (23, 2, 4, 2, []), (25, 70, 68, 2, [6]), (28, 5, 5, 2, []), (30, 2, 5, 2, [])]
def mt_112_2 : List (Nat × mx_I) := [(32, 2, 1, 1, []), (33, 46, 55, 0, []), (36, 2, 5, 2, []), (38, 2, 3, 1, []), (39, 44, 55, 0, []), (42, 2, 5, 2, []), (44, 5, 3, 1, []), (45, 4, 0, 1, []), (46, 51, 10, 6, [])]
def mt_112_3 : List (Nat × mx_I) := [(49, 2, 4, 2, []), (51, 70, 68, 2, [6]), (54, 5, 2, 1, []), (55, 8, 4, 1, []), (58, 48, 7, 0, []), (61, 2, 2, 1, []), (62, 80, 0, 0, [])]
def mt_112 : List (List (Nat × mx_I)) := [mt_112_0, mt_112_1, mt_112_2, mt_112_3]
def mt_113_0 : List (Nat × mx_I) := [(0, 4, 0, 1, []), (1, 51, 10, 4, []), (4, 0, 0, 1, []), (5, 70, 76, 2, [6]), (8, 4, 0, 1, []), (9, 51, 10, 4, []), (12, 0, 0, 1, []), (13, 2, 3, 1, []), (14, 70, 69, 3, [6])]
def mt_113_1 : List (Nat × mx_I) := [(17, 4, 0, 1, []), (18, 51, 10, 4, []), (21, 0, 1, 1, []), (22, 2, 4, 2, []), (24, 70, 69, 3, [6]), (27, 4, 0, 1, []), (28, 51, 10, 4, []), (31, 0, 4, 1, [])]
def mt_113_2 : List (Nat × mx_I) := [(32, 2, 5, 2, []), (34, 70, 69, 3, [6]), (37, 4, 0, 1, []), (38, 51, 10, 4, []), (41, 0, 5, 1, []), (42, 2, 6, 2, []), (44, 70, 69, 3, [6]), (47, 4, 0, 1, [])]
def mt_113_3 : List (Nat × mx_I) := [(48, 4, 0, 1, []), (49, 2, 2, 1, []), (50, 70, 112, 2, [10]), (53, 2, 1, 1, []), (54, 70, 116, 3, [10]), (57, 80, 0, 0, [])]
def mt_113 : List (List (Nat × mx_I)) := [mt_113_0, mt_113_1, mt_113_2, mt_113_3]
def mt_114_0 : List (Nat × mx_I) := [(0, 4, 0, 1, []), (1, 51, 10, 4, []), (4, 0, 0, 1, []), (5, 70, 76, 2, [6]), (8, 4, 0, 1, []), (9, 51, 10, 4, []), (12, 0, 0, 1, []), (13, 2, 2, 1, []), (14, 70, 69, 3, [6])]
def mt_114_1 : List (Nat × mx_I) := [(17, 4, 0, 1, []), (18, 51, 10, 4, []), (21, 0, 1, 1, []), (22, 2, 3, 1, []), (23, 70, 69, 3, [6]), (26, 4, 0, 1, []), (27, 51, 10, 4, []), (30, 0, 2, 1, []), (31, 2, 4, 2, [])]
def mt_114_2 : List (Nat × mx_I) := [(33, 70, 69, 3, [6]), (36, 4, 0, 1, []), (37, 4, 0, 1, []), (38, 2, 1, 1, []), (39, 70, 112, 2, [10]), (42, 0, 2, 1, []), (43, 70, 116, 3, [10]), (46, 80, 0, 0, [])]
def mt_114 : List (List (Nat × mx_I)) := [mt_114_0, mt_114_1, mt_114_2]
def mt_115_0 : List (Nat × mx_I) := [(0, 4, 0, 1, []), (1, 51, 10, 4, []), (4, 0, 0, 1, []), (5, 70, 76, 2, [6]), (8, 4, 0, 1, []), (9, 51, 10, 4, []), (12, 0, 3, 1, []), (13, 2, 2, 1, []), (14, 70, 69, 3, [6])]
def mt_115_1 : List (Nat × mx_I) := [(17, 4, 0, 1, []), (18, 51, 10, 4, []), (21, 0, 4, 1, []), (22, 2, 3, 1, []), (23, 70, 69, 3, [6]), (26, 4, 0, 1, []), (27, 4, 0, 1, []), (28, 2, 1, 1, []), (29, 70, 112, 2, [10])]
def mt_115_2 : List (Nat × mx_I) := [(32, 0, 3, 1, []), (33, 70, 116, 3, [10]), (36, 80, 0, 0, [])]
def mt_115 : List (List (Nat × mx_I)) := [mt_115_0, mt_115_1, mt_115_2]
def mt_116_0 : List (Nat × mx_I) := [(0, 4, 0, 1, []), (1, 51, 10, 2, []), (4, 2, 1, 1, []), (5, 0, 4, 1, []), (6, 11, 0, 0, []), (7, 2, 2, 1, []), (8, 9, 0, 0, []), (9, 70, 68, 2, [6]), (12, 5, 3, 1, []), (13, 4, 0, 1, []), (14, 51, 10, 3, [])]
def mt_116_1 : List (Nat × mx_I) := [(17, 2, 1, 1, []), (18, 0, 4, 1, []), (19, 11, 0, 0, []), (20, 2, 2, 1, []), (21, 9, 0, 0, []), (22, 70, 68, 2, [6]), (25, 5, 4, 2, []), (27, 4, 0, 1, []), (28, 51, 10, 5, []), (31, 70, 75, 1, [6])]
def mt_116_2 : List (Nat × mx_I) := [(34, 2, 3, 1, []), (35, 5, 5, 2, []), (37, 2, 5, 2, []), (39, 2, 4, 2, []), (41, 45, 219, 0, []), (44, 4, 0, 1, []), (45, 51, 10, 1, [])]
def mt_116_3 : List (Nat × mx_I) := [(48, 2, 5, 2, []), (50, 70, 68, 2, [6]), (53, 5, 6, 2, []), (55, 0, 4294967295, 1, []), (56, 2, 6, 2, []), (58, 10, 0, 0, []), (59, 5, 7, 2, []), (61, 2, 6, 2, []), (63, 38, 79, 0, [])]
def mt_116_4 : List (Nat × mx_I) := [(66, 4, 0, 1, []), (67, 51, 10, 5, []), (70, 2, 6, 2, []), (72, 70, 71, 2, [6]), (75, 34, 0, 0, []), (76, 48, 213, 0, []), (79, 2, 7, 2, [])]
def mt_116_5 : List (Nat × mx_I) := [(81, 0, 256, 3, []), (84, 44, 119, 0, []), (87, 2, 7, 2, []), (89, 0, 262, 3, []), (92, 45, 119, 0, []), (95, 4, 0, 1, [])]
def mt_116_6 : List (Nat × mx_I) := [(96, 51, 10, 5, []), (99, 4, 0, 1, []), (100, 51, 10, 4, []), (103, 2, 7, 2, []), (105, 0, 256, 3, []), (108, 10, 0, 0, []), (109, 70, 68, 2, [6])]
def mt_116_7 : List (Nat × mx_I) := [(112, 70, 71, 2, [6]), (115, 34, 0, 0, []), (116, 48, 213, 0, []), (119, 2, 7, 2, []), (121, 0, 3, 1, []), (122, 43, 144, 0, []), (125, 4, 0, 1, []), (126, 51, 10, 5, [])]
def mt_116_8 : List (Nat × mx_I) := [(129, 4, 0, 1, []), (130, 51, 10, 5, []), (133, 70, 72, 1, [6]), (136, 16, 0, 0, []), (137, 70, 71, 2, [6]), (140, 34, 0, 0, []), (141, 48, 213, 0, [])]
def mt_116_9 : List (Nat × mx_I) := [(144, 2, 7, 2, []), (146, 0, 268, 3, []), (149, 43, 178, 0, []), (152, 4, 0, 1, []), (153, 51, 10, 5, []), (156, 4, 0, 1, []), (157, 51, 10, 5, [])]
def mt_116_10 : List (Nat × mx_I) := [(160, 70, 72, 1, [6]), (163, 37, 170, 0, []), (166, 0, 1, 1, []), (167, 48, 171, 0, []), (170, 0, 0, 1, []), (171, 70, 71, 2, [6]), (174, 34, 0, 0, []), (175, 48, 213, 0, [])]
def mt_116_11 : List (Nat × mx_I) := [(178, 4, 0, 1, []), (179, 51, 10, 5, []), (182, 70, 72, 1, [6]), (185, 5, 8, 2, []), (187, 4, 0, 1, []), (188, 51, 10, 5, []), (191, 70, 72, 1, [6])]
def mt_116_12 : List (Nat × mx_I) := [(194, 5, 9, 2, []), (196, 4, 0, 1, []), (197, 51, 10, 5, []), (200, 2, 7, 2, []), (202, 2, 9, 2, []), (204, 2, 8, 2, []), (206, 70, 117, 3, [])]
def mt_116_13 : List (Nat × mx_I) := [(209, 70, 71, 2, [6]), (212, 34, 0, 0, []), (213, 8, 5, 1, []), (216, 48, 37, 0, []), (219, 4, 0, 1, []), (220, 51, 10, 5, []), (223, 70, 72, 1, [6])]
def mt_116_14 : List (Nat × mx_I) := [(226, 80, 0, 0, [])]
def mt_116 : List (List (Nat × mx_I)) := [mt_116_0, mt_116_1, mt_116_2, mt_116_3, mt_116_4, mt_116_5, mt_116_6, mt_116_7, mt_116_8, mt_116_9, mt_116_10, mt_116_11, mt_116_12, mt_116_13, mt_116_14]
def mt_117_0 : List (Nat × mx_I) := [(0, 2, 0, 1, []), (1, 50, 130, 0, [42, 76, 43, 68, 45, 72, 60, 80, 61, 91, 266, 116, 267, 102])]
def mt_117_1 : List (Nat × mx_I) := []
def mt_117_2 : List (Nat × mx_I) := []
def mt_117_3 : List (Nat × mx_I) := []
def mt_117_4 : List (Nat × mx_I) := [(68, 2, 1, 1, []), (69, 2, 2, 1, []), (70, 9, 0, 0, []), (71, 80, 0, 0, []), (72, 2, 1, 1, []), (73, 2, 2, 1, []), (74, 10, 0, 0, []), (75, 80, 0, 0, []), (76, 2, 1, 1, []), (77, 2, 2, 1, []), (78, 11, 0, 0, []), (79, 80, 0, 0, [])]
def mt_117_5 : List (Nat × mx_I) := [(80, 2, 1, 1, []), (81, 2, 2, 1, []), (82, 45, 89, 0, []), (85, 0, 1, 1, []), (86, 48, 90, 0, []), (89, 0, 0, 1, []), (90, 80, 0, 0, []), (91, 2, 1, 1, []), (92, 2, 2, 1, []), (93, 43, 100, 0, [])]
def mt_117_6 : List (Nat × mx_I) := [(96, 0, 1, 1, []), (97, 48, 101, 0, []), (100, 0, 0, 1, []), (101, 80, 0, 0, []), (102, 2, 1, 1, []), (103, 36, 114, 0, []), (106, 2, 2, 1, []), (107, 36, 114, 0, []), (110, 0, 1, 1, []), (111, 48, 115, 0, [])]
def mt_117_7 : List (Nat × mx_I) := [(114, 0, 0, 1, []), (115, 80, 0, 0, []), (116, 2, 1, 1, []), (117, 37, 124, 0, []), (120, 2, 2, 1, []), (121, 36, 128, 0, []), (124, 0, 1, 1, []), (125, 48, 129, 0, [])]
def mt_117_8 : List (Nat × mx_I) := [(128, 0, 0, 1, []), (129, 80, 0, 0, []), (130, 0, 0, 1, []), (131, 80, 0, 0, [])]
def mt_117 : List (List (Nat × mx_I)) := [mt_117_0, mt_117_1, mt_117_2, mt_117_3, mt_117_4, mt_117_5, mt_117_6, mt_117_7, mt_117_8]
def mt_118_0 : List (Nat × mx_I) := [(0, 4, 0, 1, []), (1, 63, 0, 0, []), (4, 4, 0, 1, []), (5, 61, 0, 0, []), (8, 33, 0, 0, []), (9, 70, 0, 1, [98]), (12, 54, 11, 0, []), (15, 4, 0, 1, [])]
def mt_118_1 : List (Nat × mx_I) := [(16, 61, 10, 0, []), (19, 33, 0, 0, []), (20, 70, 106, 1, [98]), (23, 54, 11, 1, []), (26, 4, 0, 1, []), (27, 61, 5, 0, []), (30, 33, 0, 0, []), (31, 4, 0, 1, [])]
def mt_118_2 : List (Nat × mx_I) := [(32, 51, 11, 1, []), (35, 70, 44, 2, [98]), (38, 54, 11, 2, []), (41, 4, 0, 1, []), (42, 61, 9, 0, []), (45, 33, 0, 0, []), (46, 4, 0, 1, []), (47, 51, 11, 0, [])]
def mt_118_3 : List (Nat × mx_I) := [(50, 4, 0, 1, []), (51, 51, 11, 1, []), (54, 70, 97, 3, [98]), (57, 54, 11, 3, []), (60, 4, 0, 1, []), (61, 61, 8, 0, [])]
def mt_118_4 : List (Nat × mx_I) := [(64, 33, 0, 0, []), (65, 4, 0, 1, []), (66, 51, 11, 0, []), (69, 4, 0, 1, []), (70, 51, 11, 1, []), (73, 70, 86, 3, [98]), (76, 54, 11, 4, []), (79, 4, 0, 1, [])]
def mt_118_5 : List (Nat × mx_I) := [(80, 61, 2, 0, []), (83, 33, 0, 0, []), (84, 4, 0, 1, []), (85, 51, 11, 0, []), (88, 70, 24, 2, [98]), (91, 54, 11, 5, []), (94, 4, 0, 1, []), (95, 61, 1, 0, [])]
def mt_118_6 : List (Nat × mx_I) := [(98, 33, 0, 0, []), (99, 4, 0, 1, []), (100, 51, 11, 0, []), (103, 4, 0, 1, []), (104, 51, 11, 1, []), (107, 4, 0, 1, []), (108, 51, 11, 3, []), (111, 70, 12, 4, [98])]
def mt_118_7 : List (Nat × mx_I) := [(114, 54, 11, 6, []), (117, 4, 0, 1, []), (118, 61, 4, 0, []), (121, 33, 0, 0, []), (122, 4, 0, 1, []), (123, 51, 11, 0, []), (126, 4, 0, 1, []), (127, 51, 11, 3, [])]
def mt_118_8 : List (Nat × mx_I) := [(130, 70, 40, 3, [98]), (133, 54, 11, 7, []), (136, 4, 0, 1, []), (137, 61, 3, 0, []), (140, 33, 0, 0, []), (141, 4, 0, 1, []), (142, 51, 11, 0, [])]
def mt_118_9 : List (Nat × mx_I) := [(145, 70, 33, 2, [98]), (148, 54, 11, 8, []), (151, 4, 0, 1, []), (152, 61, 7, 0, []), (155, 33, 0, 0, []), (156, 70, 77, 1, [98]), (159, 54, 11, 9, [])]
def mt_118_10 : List (Nat × mx_I) := [(162, 0, 0, 1, []), (163, 5, 1, 1, []), (164, 2, 1, 1, []), (165, 56, 0, 0, []), (167, 70, 266, 1, [99]), (170, 45, 196, 0, []), (173, 4, 0, 1, []), (174, 51, 11, 2, [])]
def mt_118_11 : List (Nat × mx_I) := [(177, 51, 5, 1, []), (180, 56, 0, 0, []), (182, 2, 1, 1, []), (183, 70, 267, 2, [99]), (186, 70, 71, 2, [6]), (189, 34, 0, 0, []), (190, 8, 1, 1, [])]
def mt_118_12 : List (Nat × mx_I) := [(193, 48, 164, 0, []), (196, 4, 0, 1, []), (197, 51, 11, 2, []), (200, 70, 45, 1, [5]), (203, 34, 0, 0, []), (204, 83, 0, 0, [])]
def mt_118 : List (List (Nat × mx_I)) := [mt_118_0, mt_118_1, mt_118_2, mt_118_3, mt_118_4, mt_118_5, mt_118_6, mt_118_7, mt_118_8, mt_118_9, mt_118_10, mt_118_11, mt_118_12]
def mt_119_0 : List (Nat × mx_I) := [(0, 2, 1, 1, []), (1, 0, 1, 1, []), (2, 44, 11, 0, []), (5, 2, 1, 1, []), (6, 0, 60, 2, []), (8, 47, 14, 0, []), (11, 0, 4294967294, 2, []), (13, 80, 0, 0, []), (14, 4, 0, 1, []), (15, 51, 11, 0, [])]
def mt_119_1 : List (Nat × mx_I) := [(18, 51, 0, 0, []), (21, 2, 1, 1, []), (22, 9, 0, 0, []), (23, 0, 400, 3, []), (26, 44, 32, 0, []), (29, 0, 4294967292, 2, []), (31, 80, 0, 0, [])]
def mt_119_2 : List (Nat × mx_I) := [(32, 4, 0, 1, []), (33, 51, 11, 0, []), (36, 33, 0, 0, []), (37, 51, 0, 0, []), (40, 2, 1, 1, []), (41, 9, 0, 0, []), (42, 53, 0, 0, []), (45, 4, 0, 1, []), (46, 51, 11, 0, [])]
def mt_119_3 : List (Nat × mx_I) := [(49, 51, 0, 0, []), (52, 80, 0, 0, [])]
def mt_119 : List (List (Nat × mx_I)) := [mt_119_0, mt_119_1, mt_119_2, mt_119_3]
def mt_120_0 : List (Nat × mx_I) := [(0, 2, 1, 1, []), (1, 0, 4, 1, []), (2, 70, 160, 2, []), (5, 36, 17, 0, []), (8, 2, 2, 1, []), (9, 0, 8, 2, []), (11, 70, 160, 2, []), (14, 37, 20, 0, [])]
def mt_120_1 : List (Nat × mx_I) := [(17, 0, 4294967294, 2, []), (19, 80, 0, 0, []), (20, 4, 0, 1, []), (21, 51, 11, 0, []), (24, 51, 0, 1, []), (27, 70, 66, 1, [6]), (30, 36, 36, 0, [])]
def mt_120_2 : List (Nat × mx_I) := [(33, 0, 4294967292, 2, []), (35, 80, 0, 0, []), (36, 4, 0, 1, []), (37, 51, 11, 0, []), (40, 51, 0, 2, []), (43, 2, 2, 1, []), (44, 70, 71, 2, [6]), (47, 34, 0, 0, [])]
def mt_120_3 : List (Nat × mx_I) := [(48, 4, 0, 1, []), (49, 51, 11, 0, []), (52, 51, 0, 1, []), (55, 2, 1, 1, []), (56, 70, 71, 2, [6]), (59, 0, 1, 1, []), (60, 10, 0, 0, []), (61, 80, 0, 0, [])]
def mt_120 : List (List (Nat × mx_I)) := [mt_120_0, mt_120_1, mt_120_2, mt_120_3]
def mt_121_0 : List (Nat × mx_I) := [(0, 4, 0, 1, []), (1, 51, 11, 0, []), (4, 2, 1, 1, []), (5, 70, 1, 2, [0]), (8, 36, 19, 0, []), (11, 2, 2, 1, []), (12, 0, 4, 1, []), (13, 70, 160, 2, [])]
def mt_121_1 : List (Nat × mx_I) := [(16, 37, 22, 0, []), (19, 0, 4294967294, 2, []), (21, 80, 0, 0, []), (22, 4, 0, 1, []), (23, 51, 11, 0, []), (26, 51, 0, 1, []), (29, 2, 1, 1, []), (30, 70, 68, 2, [6])]
def mt_121_2 : List (Nat × mx_I) := [(33, 5, 3, 1, []), (34, 4, 0, 1, []), (35, 51, 11, 0, []), (38, 51, 0, 1, []), (41, 2, 1, 1, []), (42, 2, 2, 1, []), (43, 70, 69, 3, [6]), (46, 2, 3, 1, []), (47, 80, 0, 0, [])]
def mt_121 : List (List (Nat × mx_I)) := [mt_121_0, mt_121_1, mt_121_2]
def mt_122_0 : List (Nat × mx_I) := [(0, 2, 1, 1, []), (1, 0, 6, 2, []), (3, 70, 160, 2, []), (6, 36, 31, 0, []), (9, 4, 0, 1, []), (10, 51, 11, 0, []), (13, 2, 2, 1, []), (14, 70, 1, 2, [0])]
def mt_122_1 : List (Nat × mx_I) := [(17, 36, 31, 0, []), (20, 4, 0, 1, []), (21, 51, 11, 0, []), (24, 2, 3, 1, []), (25, 70, 1, 2, [0]), (28, 37, 34, 0, []), (31, 0, 4294967294, 2, [])]
def mt_122_2 : List (Nat × mx_I) := [(33, 80, 0, 0, []), (34, 2, 2, 1, []), (35, 2, 3, 1, []), (36, 42, 50, 0, []), (39, 2, 4, 2, []), (41, 0, 400, 3, []), (44, 70, 160, 2, []), (47, 37, 53, 0, [])]
def mt_122_3 : List (Nat × mx_I) := [(50, 0, 4294967294, 2, []), (52, 80, 0, 0, []), (53, 4, 0, 1, []), (54, 51, 11, 0, []), (57, 51, 0, 3, []), (60, 70, 66, 1, [6]), (63, 36, 69, 0, [])]
def mt_122_4 : List (Nat × mx_I) := [(66, 0, 4294967292, 2, []), (68, 80, 0, 0, []), (69, 4, 0, 1, []), (70, 51, 11, 0, []), (73, 2, 1, 1, []), (74, 2, 2, 1, []), (75, 2, 3, 1, []), (76, 2, 4, 2, []), (78, 70, 9, 5, [0])]
def mt_122_5 : List (Nat × mx_I) := [(81, 80, 0, 0, [])]
def mt_122 : List (List (Nat × mx_I)) := [mt_122_0, mt_122_1, mt_122_2, mt_122_3, mt_122_4, mt_122_5]
def mt_123_0 : List (Nat × mx_I) := [(0, 4, 0, 1, []), (1, 51, 11, 0, []), (4, 2, 1, 1, []), (5, 70, 2, 2, [0]), (8, 37, 14, 0, []), (11, 0, 4294967294, 2, []), (13, 80, 0, 0, []), (14, 4, 0, 1, []), (15, 51, 11, 0, [])]
def mt_123_1 : List (Nat × mx_I) := [(18, 51, 0, 3, []), (21, 2, 1, 1, []), (22, 70, 68, 2, [6]), (25, 5, 3, 1, []), (26, 2, 2, 1, []), (27, 49, 142, 0, [72, 74, 86, 98, 110, 118, 126, 134])]
def mt_123_2 : List (Nat × mx_I) := []
def mt_123_3 : List (Nat × mx_I) := []
def mt_123_4 : List (Nat × mx_I) := [(72, 2, 3, 1, []), (73, 80, 0, 0, []), (74, 4, 0, 1, []), (75, 51, 11, 0, []), (78, 51, 0, 4, [])]
def mt_123_5 : List (Nat × mx_I) := [(81, 2, 1, 1, []), (82, 70, 68, 2, [6]), (85, 80, 0, 0, []), (86, 4, 0, 1, []), (87, 51, 11, 0, []), (90, 51, 0, 5, []), (93, 2, 1, 1, []), (94, 70, 68, 2, [6])]
def mt_123_6 : List (Nat × mx_I) := [(97, 80, 0, 0, []), (98, 4, 0, 1, []), (99, 51, 11, 0, []), (102, 51, 0, 6, []), (105, 2, 1, 1, []), (106, 70, 68, 2, [6]), (109, 80, 0, 0, []), (110, 55, 5, 0, [])]
def mt_123_7 : List (Nat × mx_I) := [(113, 2, 3, 1, []), (114, 70, 161, 2, []), (117, 80, 0, 0, []), (118, 55, 6, 0, []), (121, 2, 3, 1, []), (122, 70, 161, 2, []), (125, 80, 0, 0, []), (126, 55, 7, 0, [])]
def mt_123_8 : List (Nat × mx_I) := [(129, 2, 3, 1, []), (130, 70, 161, 2, []), (133, 80, 0, 0, []), (134, 55, 8, 0, []), (137, 2, 3, 1, []), (138, 70, 161, 2, []), (141, 80, 0, 0, []), (142, 0, 4294967294, 2, [])]
def mt_123_9 : List (Nat × mx_I) := [(144, 80, 0, 0, [])]
def mt_123 : List (List (Nat × mx_I)) := [mt_123_0, mt_123_1, mt_123_2, mt_123_3, mt_123_4, mt_123_5, mt_123_6, mt_123_7, mt_123_8, mt_123_9]
def mt_124_0 : List (Nat × mx_I) := [(0, 4, 0, 1, []), (1, 2, 1, 1, []), (2, 2, 2, 1, []), (3, 2, 3, 1, []), (4, 70, 159, 4, [11]), (7, 80, 0, 0, [])]
def mt_124 : List (List (Nat × mx_I)) := [mt_124_0]
def mt_125_0 : List (Nat × mx_I) := [(0, 4, 0, 1, []), (1, 51, 11, 0, []), (4, 2, 1, 1, []), (5, 70, 2, 2, [0]), (8, 36, 22, 0, []), (11, 4, 0, 1, []), (12, 51, 11, 0, []), (15, 2, 2, 1, [])]
def mt_125_1 : List (Nat × mx_I) := [(16, 70, 3, 2, [0]), (19, 37, 25, 0, []), (22, 0, 4294967294, 2, []), (24, 80, 0, 0, []), (25, 4, 0, 1, []), (26, 51, 11, 0, []), (29, 2, 2, 1, []), (30, 70, 11, 2, [0])]
def mt_125_2 : List (Nat × mx_I) := [(33, 4, 0, 1, []), (34, 51, 11, 0, []), (37, 51, 0, 11, []), (40, 2, 1, 1, []), (41, 70, 68, 2, [6]), (44, 80, 0, 0, [])]
def mt_125 : List (List (Nat × mx_I)) := [mt_125_0, mt_125_1, mt_125_2]
def mt_126_0 : List (Nat × mx_I) := [(0, 2, 1, 1, []), (1, 0, 1, 1, []), (2, 44, 11, 0, []), (5, 2, 1, 1, []), (6, 0, 8, 2, []), (8, 47, 14, 0, []), (11, 0, 4294967294, 2, []), (13, 80, 0, 0, []), (14, 4, 0, 1, []), (15, 51, 11, 2, [])]
def mt_126_1 : List (Nat × mx_I) := [(18, 51, 5, 1, []), (21, 70, 65, 1, [6]), (24, 2, 1, 1, []), (25, 9, 0, 0, []), (26, 0, 160, 3, []), (29, 47, 35, 0, [])]
def mt_126_2 : List (Nat × mx_I) := [(32, 0, 4294967292, 2, []), (34, 80, 0, 0, []), (35, 0, 0, 1, []), (36, 5, 4, 2, []), (38, 2, 4, 2, []), (40, 2, 1, 1, []), (41, 45, 73, 0, []), (44, 4, 0, 1, []), (45, 51, 11, 2, [])]
def mt_126_3 : List (Nat × mx_I) := [(48, 51, 5, 1, []), (51, 3, 2, 1, []), (52, 0, 8, 2, []), (54, 2, 4, 2, []), (56, 11, 0, 0, []), (57, 26, 0, 0, []), (58, 29, 0, 0, []), (59, 0, 255, 3, []), (62, 12, 0, 0, []), (63, 70, 71, 2, [6])]
def mt_126_4 : List (Nat × mx_I) := [(66, 34, 0, 0, []), (67, 8, 4, 1, []), (70, 48, 38, 0, []), (73, 4, 0, 1, []), (74, 51, 11, 2, []), (77, 51, 5, 1, [])]
def mt_126_5 : List (Nat × mx_I) := [(80, 70, 65, 1, [6]), (83, 80, 0, 0, [])]
def mt_126 : List (List (Nat × mx_I)) := [mt_126_0, mt_126_1, mt_126_2, mt_126_3, mt_126_4, mt_126_5]
def mt_127_0 : List (Nat × mx_I) := [(0, 4, 0, 1, []), (1, 51, 11, 1, []), (4, 51, 10, 0, []), (7, 0, 6, 2, []), (9, 44, 15, 0, []), (12, 0, 4294967292, 2, []), (14, 80, 0, 0, []), (15, 4, 0, 1, [])]
def mt_127_1 : List (Nat × mx_I) := [(16, 51, 11, 2, []), (19, 70, 45, 1, [5]), (22, 5, 1, 1, []), (23, 2, 1, 1, []), (24, 38, 34, 0, []), (27, 0, 4294967196, 2, []), (29, 2, 1, 1, []), (30, 10, 0, 0, []), (31, 48, 43, 0, [])]
def mt_127_2 : List (Nat × mx_I) := [(34, 4, 0, 1, []), (35, 51, 11, 1, []), (38, 51, 10, 0, []), (41, 0, 1, 1, []), (42, 10, 0, 0, []), (43, 80, 0, 0, [])]
def mt_127 : List (List (Nat × mx_I)) := [mt_127_0, mt_127_1, mt_127_2]
def mt_128_0 : List (Nat × mx_I) := [(0, 2, 1, 1, []), (1, 4, 0, 1, []), (2, 51, 11, 1, []), (5, 51, 10, 0, []), (8, 70, 160, 2, []), (11, 36, 24, 0, []), (14, 2, 2, 1, []), (15, 0, 400, 3, [])]
def mt_128_1 : List (Nat × mx_I) := [(18, 70, 160, 2, []), (21, 37, 27, 0, []), (24, 0, 4294967294, 2, []), (26, 80, 0, 0, []), (27, 4, 0, 1, []), (28, 51, 11, 1, []), (31, 51, 10, 6, [])]
def mt_128_2 : List (Nat × mx_I) := [(34, 70, 66, 1, [6]), (37, 36, 43, 0, []), (40, 0, 4294967292, 2, []), (42, 80, 0, 0, []), (43, 4, 0, 1, []), (44, 51, 11, 1, []), (47, 51, 10, 6, [])]
def mt_128_3 : List (Nat × mx_I) := [(50, 2, 1, 1, []), (51, 70, 71, 2, [6]), (54, 34, 0, 0, []), (55, 4, 0, 1, []), (56, 51, 11, 1, []), (59, 51, 10, 7, []), (62, 2, 2, 1, []), (63, 70, 71, 2, [6])]
def mt_128_4 : List (Nat × mx_I) := [(66, 80, 0, 0, [])]
def mt_128 : List (List (Nat × mx_I)) := [mt_128_0, mt_128_1, mt_128_2, mt_128_3, mt_128_4]
def mt_129_0 : List (Nat × mx_I) := [(0, 2, 1, 1, []), (1, 0, 400, 3, []), (4, 70, 160, 2, []), (7, 36, 21, 0, []), (10, 4, 0, 1, []), (11, 51, 11, 1, []), (14, 2, 1, 1, []), (15, 70, 112, 2, [10])]
def mt_129_1 : List (Nat × mx_I) := [(18, 48, 23, 0, []), (21, 0, 4294967294, 2, []), (23, 80, 0, 0, [])]
def mt_129 : List (List (Nat × mx_I)) := [mt_129_0, mt_129_1]
def mt_130_0 : List (Nat × mx_I) := [(0, 4, 0, 1, []), (1, 51, 11, 0, []), (4, 2, 1, 1, []), (5, 70, 1, 2, [0]), (8, 36, 32, 0, []), (11, 2, 2, 1, []), (12, 0, 1, 1, []), (13, 44, 32, 0, [])]
def mt_130_1 : List (Nat × mx_I) := [(16, 2, 2, 1, []), (17, 0, 99, 2, []), (19, 46, 32, 0, []), (22, 2, 3, 1, []), (23, 0, 400, 3, []), (26, 70, 160, 2, []), (29, 37, 35, 0, [])]
def mt_130_2 : List (Nat × mx_I) := [(32, 0, 4294967294, 2, []), (34, 80, 0, 0, []), (35, 4, 0, 1, []), (36, 51, 11, 3, []), (39, 51, 9, 2, []), (42, 70, 66, 1, [6]), (45, 36, 51, 0, [])]
def mt_130_3 : List (Nat × mx_I) := [(48, 0, 4294967292, 2, []), (50, 80, 0, 0, []), (51, 4, 0, 1, []), (52, 51, 11, 3, []), (55, 51, 9, 2, []), (58, 2, 1, 1, []), (59, 70, 71, 2, [6]), (62, 34, 0, 0, []), (63, 4, 0, 1, [])]
def mt_130_4 : List (Nat × mx_I) := [(64, 51, 11, 3, []), (67, 51, 9, 3, []), (70, 2, 2, 1, []), (71, 70, 71, 2, [6]), (74, 34, 0, 0, []), (75, 4, 0, 1, []), (76, 51, 11, 3, []), (79, 51, 9, 4, [])]
def mt_130_5 : List (Nat × mx_I) := [(82, 2, 3, 1, []), (83, 70, 71, 2, [6]), (86, 80, 0, 0, [])]
def mt_130 : List (List (Nat × mx_I)) := [mt_130_0, mt_130_1, mt_130_2, mt_130_3, mt_130_4, mt_130_5]
def mt_131_0 : List (Nat × mx_I) := [(0, 4, 0, 1, []), (1, 51, 11, 0, []), (4, 2, 1, 1, []), (5, 70, 1, 2, [0]), (8, 36, 22, 0, []), (11, 4, 0, 1, []), (12, 51, 11, 0, []), (15, 2, 2, 1, [])]
def mt_131_1 : List (Nat × mx_I) := [(16, 70, 3, 2, [0]), (19, 37, 26, 0, []), (22, 1, 13835058055282163712, 3, []), (25, 81, 0, 0, []), (26, 4, 0, 1, []), (27, 51, 11, 3, []), (30, 2, 2, 1, []), (31, 70, 98, 2, [9])]
def mt_131_2 : List (Nat × mx_I) := [(34, 4, 0, 1, []), (35, 51, 11, 3, []), (38, 2, 1, 1, []), (39, 70, 102, 2, [9]), (42, 81, 0, 0, [])]
def mt_131 : List (List (Nat × mx_I)) := [mt_131_0, mt_131_1, mt_131_2]
def mt_132_0 : List (Nat × mx_I) := [(0, 4, 0, 1, []), (1, 51, 11, 0, []), (4, 2, 1, 1, []), (5, 70, 1, 2, [0]), (8, 36, 22, 0, []), (11, 4, 0, 1, []), (12, 51, 11, 0, []), (15, 2, 2, 1, [])]
def mt_132_1 : List (Nat × mx_I) := [(16, 70, 3, 2, [0]), (19, 37, 26, 0, []), (22, 1, 13835058055282163712, 3, []), (25, 81, 0, 0, []), (26, 4, 0, 1, []), (27, 51, 11, 3, []), (30, 2, 2, 1, []), (31, 70, 98, 2, [9])]
def mt_132_2 : List (Nat × mx_I) := [(34, 4, 0, 1, []), (35, 51, 11, 3, []), (38, 2, 1, 1, []), (39, 70, 103, 2, [9]), (42, 28, 0, 0, []), (43, 81, 0, 0, [])]
def mt_132 : List (List (Nat × mx_I)) := [mt_132_0, mt_132_1, mt_132_2]
def mt_133_0 : List (Nat × mx_I) := [(0, 2, 1, 1, []), (1, 0, 4, 1, []), (2, 70, 160, 2, []), (5, 36, 19, 0, []), (8, 4, 0, 1, []), (9, 51, 11, 0, []), (12, 2, 2, 1, []), (13, 70, 3, 2, [0])]
def mt_133_1 : List (Nat × mx_I) := [(16, 37, 22, 0, []), (19, 0, 4294967294, 2, []), (21, 80, 0, 0, []), (22, 4, 0, 1, []), (23, 51, 11, 3, []), (26, 2, 2, 1, []), (27, 70, 98, 2, [9]), (30, 4, 0, 1, []), (31, 51, 11, 3, [])]
def mt_133_2 : List (Nat × mx_I) := [(34, 2, 1, 1, []), (35, 2, 3, 1, []), (36, 70, 105, 3, [9]), (39, 80, 0, 0, [])]
def mt_133 : List (List (Nat × mx_I)) := [mt_133_0, mt_133_1, mt_133_2]
def mt_134_0 : List (Nat × mx_I) := [(0, 4, 0, 1, []), (1, 51, 11, 0, []), (4, 2, 1, 1, []), (5, 70, 1, 2, [0]), (8, 36, 22, 0, []), (11, 4, 0, 1, []), (12, 51, 11, 0, []), (15, 2, 2, 1, [])]
def mt_134_1 : List (Nat × mx_I) := [(16, 70, 3, 2, [0]), (19, 37, 25, 0, []), (22, 0, 4294967294, 2, []), (24, 80, 0, 0, []), (25, 4, 0, 1, []), (26, 51, 11, 3, []), (29, 2, 2, 1, []), (30, 70, 98, 2, [9])]
def mt_134_2 : List (Nat × mx_I) := [(33, 4, 0, 1, []), (34, 51, 11, 3, []), (37, 2, 1, 1, []), (38, 70, 104, 2, [9]), (41, 80, 0, 0, [])]
def mt_134 : List (List (Nat × mx_I)) := [mt_134_0, mt_134_1, mt_134_2]
def mt_135_0 : List (Nat × mx_I) := [(0, 4, 0, 1, []), (1, 51, 11, 4, []), (4, 51, 8, 2, []), (7, 0, 20, 2, []), (9, 44, 15, 0, []), (12, 0, 4294967292, 2, []), (14, 80, 0, 0, []), (15, 4, 0, 1, [])]
def mt_135_1 : List (Nat × mx_I) := [(16, 51, 11, 4, []), (19, 33, 0, 0, []), (20, 51, 8, 2, []), (23, 0, 1, 1, []), (24, 9, 0, 0, []), (25, 53, 8, 2, []), (28, 4, 0, 1, []), (29, 51, 11, 4, [])]
def mt_135_2 : List (Nat × mx_I) := [(32, 51, 8, 2, []), (35, 0, 1, 1, []), (36, 10, 0, 0, []), (37, 80, 0, 0, [])]
def mt_135 : List (List (Nat × mx_I)) := [mt_135_0, mt_135_1, mt_135_2]
def mt_136_0 : List (Nat × mx_I) := [(0, 4, 0, 1, []), (1, 51, 11, 4, []), (4, 2, 1, 1, []), (5, 70, 87, 2, [8]), (8, 36, 32, 0, []), (11, 4, 0, 1, []), (12, 51, 11, 0, []), (15, 2, 2, 1, [])]
def mt_136_1 : List (Nat × mx_I) := [(16, 70, 1, 2, [0]), (19, 36, 32, 0, []), (22, 2, 3, 1, []), (23, 0, 400, 3, []), (26, 70, 160, 2, []), (29, 37, 35, 0, [])]
def mt_136_2 : List (Nat × mx_I) := [(32, 0, 4294967294, 2, []), (34, 80, 0, 0, []), (35, 4, 0, 1, []), (36, 51, 11, 4, []), (39, 51, 8, 3, []), (42, 70, 66, 1, [6]), (45, 36, 51, 0, [])]
def mt_136_3 : List (Nat × mx_I) := [(48, 0, 4294967292, 2, []), (50, 80, 0, 0, []), (51, 4, 0, 1, []), (52, 51, 11, 4, []), (55, 51, 8, 3, []), (58, 2, 1, 1, []), (59, 70, 71, 2, [6]), (62, 34, 0, 0, []), (63, 4, 0, 1, [])]
def mt_136_4 : List (Nat × mx_I) := [(64, 51, 11, 4, []), (67, 51, 8, 4, []), (70, 2, 2, 1, []), (71, 70, 71, 2, [6]), (74, 34, 0, 0, []), (75, 4, 0, 1, []), (76, 51, 11, 4, []), (79, 51, 8, 5, [])]
def mt_136_5 : List (Nat × mx_I) := [(82, 2, 3, 1, []), (83, 70, 71, 2, [6]), (86, 80, 0, 0, [])]
def mt_136 : List (List (Nat × mx_I)) := [mt_136_0, mt_136_1, mt_136_2, mt_136_3, mt_136_4, mt_136_5]
def mt_137_0 : List (Nat × mx_I) := [(0, 4, 0, 1, []), (1, 51, 11, 4, []), (4, 2, 1, 1, []), (5, 70, 87, 2, [8]), (8, 36, 21, 0, []), (11, 2, 2, 1, []), (12, 0, 400, 3, []), (15, 70, 160, 2, [])]
def mt_137_1 : List (Nat × mx_I) := [(18, 37, 24, 0, []), (21, 0, 4294967294, 2, []), (23, 80, 0, 0, []), (24, 4, 0, 1, []), (25, 51, 11, 4, []), (28, 2, 1, 1, []), (29, 2, 2, 1, []), (30, 70, 88, 3, [8])]
def mt_137_2 : List (Nat × mx_I) := [(33, 80, 0, 0, [])]
def mt_137 : List (List (Nat × mx_I)) := [mt_137_0, mt_137_1, mt_137_2]
def mt_138_0 : List (Nat × mx_I) := [(0, 4, 0, 1, []), (1, 51, 11, 4, []), (4, 2, 1, 1, []), (5, 70, 87, 2, [8]), (8, 36, 32, 0, []), (11, 4, 0, 1, []), (12, 51, 11, 0, []), (15, 2, 2, 1, [])]
def mt_138_1 : List (Nat × mx_I) := [(16, 70, 2, 2, [0]), (19, 36, 32, 0, []), (22, 2, 3, 1, []), (23, 0, 1, 1, []), (24, 44, 32, 0, []), (27, 2, 3, 1, []), (28, 0, 2, 1, []), (29, 47, 35, 0, [])]
def mt_138_2 : List (Nat × mx_I) := [(32, 0, 4294967294, 2, []), (34, 80, 0, 0, []), (35, 4, 0, 1, []), (36, 51, 11, 4, []), (39, 51, 8, 6, []), (42, 70, 66, 1, [6]), (45, 36, 51, 0, [])]
def mt_138_3 : List (Nat × mx_I) := [(48, 0, 4294967292, 2, []), (50, 80, 0, 0, []), (51, 4, 0, 1, []), (52, 51, 11, 4, []), (55, 51, 8, 7, []), (58, 2, 2, 1, []), (59, 70, 71, 2, [6]), (62, 34, 0, 0, []), (63, 4, 0, 1, [])]
def mt_138_4 : List (Nat × mx_I) := [(64, 51, 11, 4, []), (67, 51, 8, 8, []), (70, 2, 3, 1, []), (71, 70, 71, 2, [6]), (74, 34, 0, 0, []), (75, 4, 0, 1, []), (76, 51, 11, 4, []), (79, 51, 8, 6, [])]
def mt_138_5 : List (Nat × mx_I) := [(82, 2, 1, 1, []), (83, 70, 71, 2, [6]), (86, 0, 1, 1, []), (87, 10, 0, 0, []), (88, 80, 0, 0, [])]
def mt_138 : List (List (Nat × mx_I)) := [mt_138_0, mt_138_1, mt_138_2, mt_138_3, mt_138_4, mt_138_5]
def mt_139_0 : List (Nat × mx_I) := [(0, 4, 0, 1, []), (1, 51, 11, 4, []), (4, 51, 8, 6, []), (7, 2, 1, 1, []), (8, 70, 67, 2, [6]), (11, 36, 33, 0, []), (14, 4, 0, 1, []), (15, 51, 11, 4, [])]
def mt_139_1 : List (Nat × mx_I) := [(18, 2, 1, 1, []), (19, 4, 0, 1, []), (20, 51, 11, 4, []), (23, 2, 1, 1, []), (24, 70, 89, 2, [8]), (27, 70, 90, 3, [8]), (30, 48, 35, 0, [])]
def mt_139_2 : List (Nat × mx_I) := [(33, 0, 4294967294, 2, []), (35, 80, 0, 0, [])]
def mt_139 : List (List (Nat × mx_I)) := [mt_139_0, mt_139_1, mt_139_2]
def mt_140_0 : List (Nat × mx_I) := [(0, 4, 0, 1, []), (1, 51, 11, 4, []), (4, 51, 8, 6, []), (7, 2, 1, 1, []), (8, 70, 67, 2, [6]), (11, 36, 26, 0, []), (14, 4, 0, 1, []), (15, 51, 11, 4, [])]
def mt_140_1 : List (Nat × mx_I) := [(18, 2, 1, 1, []), (19, 2, 2, 1, []), (20, 70, 93, 3, [8]), (23, 48, 28, 0, []), (26, 0, 4294967294, 2, []), (28, 80, 0, 0, [])]
def mt_140 : List (List (Nat × mx_I)) := [mt_140_0, mt_140_1]
def mt_141_0 : List (Nat × mx_I) := [(0, 4, 0, 1, []), (1, 51, 11, 4, []), (4, 2, 1, 1, []), (5, 70, 87, 2, [8]), (8, 36, 22, 0, []), (11, 4, 0, 1, []), (12, 51, 11, 0, []), (15, 2, 2, 1, [])]
def mt_141_1 : List (Nat × mx_I) := [(16, 70, 2, 2, [0]), (19, 37, 25, 0, []), (22, 0, 4294967294, 2, []), (24, 80, 0, 0, []), (25, 4, 0, 1, []), (26, 51, 11, 4, []), (29, 2, 1, 1, []), (30, 70, 91, 2, [8])]
def mt_141_2 : List (Nat × mx_I) := [(33, 4, 0, 1, []), (34, 51, 11, 4, []), (37, 2, 1, 1, []), (38, 2, 2, 1, []), (39, 70, 94, 3, [8]), (42, 36, 49, 0, []), (45, 0, 1, 1, []), (46, 48, 50, 0, [])]
def mt_141_3 : List (Nat × mx_I) := [(49, 0, 0, 1, []), (50, 80, 0, 0, [])]
def mt_141 : List (List (Nat × mx_I)) := [mt_141_0, mt_141_1, mt_141_2, mt_141_3]
def mt_142_0 : List (Nat × mx_I) := [(0, 4, 0, 1, []), (1, 51, 11, 4, []), (4, 2, 1, 1, []), (5, 70, 87, 2, [8]), (8, 36, 22, 0, []), (11, 4, 0, 1, []), (12, 51, 11, 0, []), (15, 2, 2, 1, [])]
def mt_142_1 : List (Nat × mx_I) := [(16, 70, 2, 2, [0]), (19, 37, 25, 0, []), (22, 0, 4294967294, 2, []), (24, 80, 0, 0, []), (25, 4, 0, 1, []), (26, 51, 11, 4, []), (29, 2, 1, 1, []), (30, 2, 2, 1, []), (31, 70, 95, 3, [8])]
def mt_142_2 : List (Nat × mx_I) := [(34, 36, 40, 0, []), (37, 0, 4294967293, 2, []), (39, 80, 0, 0, []), (40, 4, 0, 1, []), (41, 51, 11, 4, []), (44, 51, 8, 9, []), (47, 70, 66, 1, [6])]
def mt_142_3 : List (Nat × mx_I) := [(50, 36, 56, 0, []), (53, 0, 4294967292, 2, []), (55, 80, 0, 0, []), (56, 4, 0, 1, []), (57, 51, 11, 4, []), (60, 51, 8, 10, []), (63, 2, 2, 1, [])]
def mt_142_4 : List (Nat × mx_I) := [(64, 70, 71, 2, [6]), (67, 34, 0, 0, []), (68, 4, 0, 1, []), (69, 51, 11, 4, []), (72, 51, 8, 9, []), (75, 2, 1, 1, []), (76, 70, 71, 2, [6]), (79, 80, 0, 0, [])]
def mt_142 : List (List (Nat × mx_I)) := [mt_142_0, mt_142_1, mt_142_2, mt_142_3, mt_142_4]
def mt_143_0 : List (Nat × mx_I) := [(0, 4, 0, 1, []), (1, 51, 11, 4, []), (4, 70, 96, 1, [8]), (7, 2, 1, 1, []), (8, 0, 4294967295, 1, []), (9, 43, 23, 0, []), (12, 4, 0, 1, []), (13, 51, 11, 4, [])]
def mt_143_1 : List (Nat × mx_I) := [(16, 51, 8, 13, []), (19, 70, 65, 1, [6]), (22, 80, 0, 0, []), (23, 4, 0, 1, []), (24, 51, 11, 4, []), (27, 51, 8, 13, []), (30, 2, 1, 1, []), (31, 70, 67, 2, [6])]
def mt_143_2 : List (Nat × mx_I) := [(34, 36, 51, 0, []), (37, 4, 0, 1, []), (38, 51, 11, 4, []), (41, 51, 8, 13, []), (44, 2, 1, 1, []), (45, 70, 68, 2, [6])]
def mt_143_3 : List (Nat × mx_I) := [(48, 48, 52, 0, []), (51, 0, 4294967295, 1, []), (52, 80, 0, 0, [])]
def mt_143 : List (List (Nat × mx_I)) := [mt_143_0, mt_143_1, mt_143_2, mt_143_3]
def mt_144_0 : List (Nat × mx_I) := [(0, 4, 0, 1, []), (1, 51, 11, 0, []), (4, 2, 1, 1, []), (5, 70, 1, 2, [0]), (8, 37, 14, 0, []), (11, 0, 4294967294, 2, []), (13, 80, 0, 0, []), (14, 4, 0, 1, []), (15, 51, 11, 5, [])]
def mt_144_1 : List (Nat × mx_I) := [(18, 2, 1, 1, []), (19, 70, 25, 2, [2]), (22, 36, 30, 0, []), (25, 0, 4294967293, 2, []), (27, 48, 38, 0, []), (30, 4, 0, 1, []), (31, 51, 11, 5, [])]
def mt_144_2 : List (Nat × mx_I) := [(34, 2, 1, 1, []), (35, 70, 26, 2, [2]), (38, 80, 0, 0, [])]
def mt_144 : List (List (Nat × mx_I)) := [mt_144_0, mt_144_1, mt_144_2]
def mt_145_0 : List (Nat × mx_I) := [(0, 4, 0, 1, []), (1, 51, 11, 0, []), (4, 2, 1, 1, []), (5, 70, 1, 2, [0]), (8, 37, 14, 0, []), (11, 0, 4294967294, 2, []), (13, 80, 0, 0, []), (14, 4, 0, 1, []), (15, 51, 11, 5, [])]
def mt_145_1 : List (Nat × mx_I) := [(18, 2, 1, 1, []), (19, 70, 31, 2, [2]), (22, 36, 36, 0, []), (25, 4, 0, 1, []), (26, 51, 11, 5, []), (29, 2, 1, 1, []), (30, 70, 32, 2, [2])]
def mt_145_2 : List (Nat × mx_I) := [(33, 48, 38, 0, []), (36, 0, 4294967293, 2, []), (38, 80, 0, 0, [])]
def mt_145 : List (List (Nat × mx_I)) := [mt_145_0, mt_145_1, mt_145_2]
def mt_146_0 : List (Nat × mx_I) := [(0, 2, 1, 1, []), (1, 0, 4, 1, []), (2, 70, 160, 2, []), (5, 36, 19, 0, []), (8, 4, 0, 1, []), (9, 51, 11, 6, []), (12, 2, 1, 1, []), (13, 70, 13, 2, [1])]
def mt_146_1 : List (Nat × mx_I) := [(16, 48, 21, 0, []), (19, 0, 4294967294, 2, []), (21, 80, 0, 0, [])]
def mt_146 : List (List (Nat × mx_I)) := [mt_146_0, mt_146_1]
def mt_147_0 : List (Nat × mx_I) := [(0, 4, 0, 1, []), (1, 51, 11, 0, []), (4, 2, 1, 1, []), (5, 70, 1, 2, [0]), (8, 36, 19, 0, []), (11, 2, 2, 1, []), (12, 0, 2, 1, []), (13, 70, 160, 2, [])]
def mt_147_1 : List (Nat × mx_I) := [(16, 37, 22, 0, []), (19, 0, 4294967294, 2, []), (21, 80, 0, 0, []), (22, 4, 0, 1, []), (23, 51, 11, 6, []), (26, 2, 1, 1, []), (27, 70, 14, 2, [1]), (30, 37, 36, 0, [])]
def mt_147_2 : List (Nat × mx_I) := [(33, 0, 4294967293, 2, []), (35, 80, 0, 0, []), (36, 2, 2, 1, []), (37, 37, 50, 0, []), (40, 4, 0, 1, []), (41, 51, 11, 6, []), (44, 70, 20, 1, [1]), (47, 48, 57, 0, [])]
def mt_147_3 : List (Nat × mx_I) := [(50, 4, 0, 1, []), (51, 51, 11, 6, []), (54, 70, 21, 1, [1]), (57, 80, 0, 0, [])]
def mt_147 : List (List (Nat × mx_I)) := [mt_147_0, mt_147_1, mt_147_2, mt_147_3]
def mt_148_0 : List (Nat × mx_I) := [(0, 4, 0, 1, []), (1, 51, 11, 0, []), (4, 2, 1, 1, []), (5, 70, 1, 2, [0]), (8, 36, 20, 0, []), (11, 2, 2, 1, []), (12, 0, 12, 2, []), (14, 70, 160, 2, [])]
def mt_148_1 : List (Nat × mx_I) := [(17, 37, 23, 0, []), (20, 0, 4294967294, 2, []), (22, 80, 0, 0, []), (23, 4, 0, 1, []), (24, 51, 11, 6, []), (27, 2, 1, 1, []), (28, 70, 14, 2, [1]), (31, 37, 37, 0, [])]
def mt_148_2 : List (Nat × mx_I) := [(34, 0, 4294967293, 2, []), (36, 80, 0, 0, []), (37, 4, 0, 1, []), (38, 51, 11, 6, []), (41, 70, 21, 1, [1]), (44, 2, 2, 1, []), (45, 46, 52, 0, [])]
def mt_148_3 : List (Nat × mx_I) := [(48, 0, 1, 1, []), (49, 48, 53, 0, []), (52, 0, 0, 1, []), (53, 80, 0, 0, [])]
def mt_148 : List (List (Nat × mx_I)) := [mt_148_0, mt_148_1, mt_148_2, mt_148_3]
def mt_149_0 : List (Nat × mx_I) := [(0, 4, 0, 1, []), (1, 51, 11, 0, []), (4, 2, 1, 1, []), (5, 70, 1, 2, [0]), (8, 36, 20, 0, []), (11, 2, 2, 1, []), (12, 0, 12, 2, []), (14, 70, 160, 2, [])]
def mt_149_1 : List (Nat × mx_I) := [(17, 37, 23, 0, []), (20, 0, 4294967294, 2, []), (22, 80, 0, 0, []), (23, 4, 0, 1, []), (24, 51, 11, 6, []), (27, 2, 1, 1, []), (28, 70, 14, 2, [1]), (31, 36, 45, 0, [])]
def mt_149_2 : List (Nat × mx_I) := [(34, 4, 0, 1, []), (35, 51, 11, 6, []), (38, 2, 2, 1, []), (39, 70, 22, 2, [1]), (42, 48, 47, 0, []), (45, 0, 4294967293, 2, []), (47, 80, 0, 0, [])]
def mt_149 : List (List (Nat × mx_I)) := [mt_149_0, mt_149_1, mt_149_2]
def mt_150_0 : List (Nat × mx_I) := [(0, 2, 1, 1, []), (1, 0, 4, 1, []), (2, 70, 160, 2, []), (5, 36, 19, 0, []), (8, 2, 2, 1, []), (9, 38, 19, 0, []), (12, 2, 2, 1, []), (13, 0, 999999, 3, [])]
def mt_150_1 : List (Nat × mx_I) := [(16, 47, 23, 0, []), (19, 1, 13835058055282163712, 3, []), (22, 81, 0, 0, []), (23, 4, 0, 1, []), (24, 51, 11, 0, []), (27, 2, 1, 1, []), (28, 2, 3, 1, []), (29, 70, 4, 3, [0])]
def mt_150_2 : List (Nat × mx_I) := [(32, 36, 48, 0, []), (35, 4, 0, 1, []), (36, 51, 11, 7, []), (39, 2, 1, 1, []), (40, 2, 2, 1, []), (41, 2, 3, 1, []), (42, 70, 41, 4, [4]), (45, 48, 51, 0, [])]
def mt_150_3 : List (Nat × mx_I) := [(48, 1, 13835058055282163712, 3, []), (51, 81, 0, 0, [])]
def mt_150 : List (List (Nat × mx_I)) := [mt_150_0, mt_150_1, mt_150_2, mt_150_3]
def mt_151_0 : List (Nat × mx_I) := [(0, 2, 1, 1, []), (1, 0, 4294967295, 1, []), (2, 43, 13, 0, []), (5, 4, 0, 1, []), (6, 51, 11, 8, []), (9, 70, 34, 1, [3]), (12, 80, 0, 0, []), (13, 2, 1, 1, []), (14, 0, 100, 2, [])]
def mt_151_1 : List (Nat × mx_I) := [(16, 14, 0, 0, []), (17, 5, 2, 1, []), (18, 2, 1, 1, []), (19, 0, 100, 2, []), (21, 15, 0, 0, []), (22, 5, 3, 1, []), (23, 4, 0, 1, []), (24, 51, 11, 0, []), (27, 2, 2, 1, []), (28, 70, 1, 2, [0]), (31, 36, 50, 0, [])]
def mt_151_2 : List (Nat × mx_I) := [(34, 4, 0, 1, []), (35, 51, 11, 0, []), (38, 2, 3, 1, []), (39, 70, 1, 2, [0]), (42, 36, 50, 0, []), (45, 2, 2, 1, []), (46, 2, 3, 1, []), (47, 43, 53, 0, [])]
def mt_151_3 : List (Nat × mx_I) := [(50, 0, 4294967294, 2, []), (52, 80, 0, 0, []), (53, 4, 0, 1, []), (54, 51, 11, 8, []), (57, 2, 2, 1, []), (58, 70, 35, 2, [3]), (61, 37, 75, 0, [])]
def mt_151_4 : List (Nat × mx_I) := [(64, 4, 0, 1, []), (65, 51, 11, 8, []), (68, 2, 3, 1, []), (69, 70, 35, 2, [3]), (72, 36, 78, 0, []), (75, 0, 4294967293, 2, []), (77, 80, 0, 0, []), (78, 4, 0, 1, []), (79, 51, 11, 8, [])]
def mt_151_5 : List (Nat × mx_I) := [(82, 2, 2, 1, []), (83, 2, 3, 1, []), (84, 70, 36, 3, [3]), (87, 80, 0, 0, [])]
def mt_151 : List (List (Nat × mx_I)) := [mt_151_0, mt_151_1, mt_151_2, mt_151_3, mt_151_4, mt_151_5]
def mt_152_0 : List (Nat × mx_I) := [(0, 2, 1, 1, []), (1, 0, 400, 3, []), (4, 70, 160, 2, []), (7, 36, 18, 0, []), (10, 2, 2, 1, []), (11, 0, 2, 1, []), (12, 70, 160, 2, []), (15, 37, 21, 0, [])]
def mt_152_1 : List (Nat × mx_I) := [(18, 0, 4294967294, 2, []), (20, 80, 0, 0, []), (21, 4, 0, 1, []), (22, 51, 11, 8, []), (25, 2, 1, 1, []), (26, 70, 37, 2, [3]), (29, 2, 2, 1, []), (30, 37, 43, 0, [])]
def mt_152_2 : List (Nat × mx_I) := [(33, 4, 0, 1, []), (34, 51, 11, 8, []), (37, 51, 3, 4, []), (40, 48, 50, 0, []), (43, 4, 0, 1, []), (44, 51, 11, 8, []), (47, 51, 3, 5, [])]
def mt_152_3 : List (Nat × mx_I) := [(50, 80, 0, 0, [])]
def mt_152 : List (List (Nat × mx_I)) := [mt_152_0, mt_152_1, mt_152_2, mt_152_3]
def mt_153_0 : List (Nat × mx_I) := [(0, 2, 1, 1, []), (1, 49, 202, 0, [68, 76, 87, 98, 109, 117, 128, 139, 150, 158, 169, 180, 191])]
def mt_153_1 : List (Nat × mx_I) := []
def mt_153_2 : List (Nat × mx_I) := []
def mt_153_3 : List (Nat × mx_I) := []
def mt_153_4 : List (Nat × mx_I) := [(68, 4, 0, 1, []), (69, 51, 11, 0, []), (72, 51, 0, 0, []), (75, 80, 0, 0, []), (76, 4, 0, 1, []), (77, 51, 11, 0, [])]
def mt_153_5 : List (Nat × mx_I) := [(80, 51, 0, 1, []), (83, 70, 65, 1, [6]), (86, 80, 0, 0, []), (87, 4, 0, 1, []), (88, 51, 11, 0, []), (91, 51, 0, 3, []), (94, 70, 65, 1, [6])]
def mt_153_6 : List (Nat × mx_I) := [(97, 80, 0, 0, []), (98, 4, 0, 1, []), (99, 51, 11, 0, []), (102, 51, 0, 8, []), (105, 70, 65, 1, [6]), (108, 80, 0, 0, []), (109, 4, 0, 1, []), (110, 51, 11, 1, [])]
def mt_153_7 : List (Nat × mx_I) := [(113, 51, 10, 0, []), (116, 80, 0, 0, []), (117, 4, 0, 1, []), (118, 51, 11, 2, []), (121, 51, 5, 1, []), (124, 70, 65, 1, [6]), (127, 80, 0, 0, [])]
def mt_153_8 : List (Nat × mx_I) := [(128, 4, 0, 1, []), (129, 51, 11, 1, []), (132, 51, 10, 6, []), (135, 70, 65, 1, [6]), (138, 80, 0, 0, []), (139, 4, 0, 1, []), (140, 51, 11, 3, []), (143, 51, 9, 2, [])]
def mt_153_9 : List (Nat × mx_I) := [(146, 70, 65, 1, [6]), (149, 80, 0, 0, []), (150, 4, 0, 1, []), (151, 51, 11, 4, []), (154, 51, 8, 2, []), (157, 80, 0, 0, []), (158, 4, 0, 1, []), (159, 51, 11, 4, [])]
def mt_153_10 : List (Nat × mx_I) := [(162, 51, 8, 3, []), (165, 70, 65, 1, [6]), (168, 80, 0, 0, []), (169, 4, 0, 1, []), (170, 51, 11, 4, []), (173, 51, 8, 6, [])]
def mt_153_11 : List (Nat × mx_I) := [(176, 70, 65, 1, [6]), (179, 80, 0, 0, []), (180, 4, 0, 1, []), (181, 51, 11, 4, []), (184, 51, 8, 9, []), (187, 70, 65, 1, [6]), (190, 80, 0, 0, []), (191, 4, 0, 1, [])]
def mt_153_12 : List (Nat × mx_I) := [(192, 51, 11, 8, []), (195, 51, 3, 1, []), (198, 70, 65, 1, [6]), (201, 80, 0, 0, []), (202, 0, 4294967294, 2, []), (204, 80, 0, 0, [])]
def mt_153 : List (List (Nat × mx_I)) := [mt_153_0, mt_153_1, mt_153_2, mt_153_3, mt_153_4, mt_153_5, mt_153_6, mt_153_7, mt_153_8, mt_153_9, mt_153_10, mt_153_11, mt_153_12]
def mt_154_0 : List (Nat × mx_I) := [(0, 2, 1, 1, []), (1, 0, 4, 1, []), (2, 70, 160, 2, []), (5, 36, 18, 0, []), (8, 2, 2, 1, []), (9, 0, 4294967295, 1, []), (10, 44, 18, 0, []), (13, 2, 2, 1, []), (14, 0, 3, 1, []), (15, 44, 21, 0, [])]
def mt_154_1 : List (Nat × mx_I) := [(18, 0, 4294967294, 2, []), (20, 80, 0, 0, []), (21, 2, 2, 1, []), (22, 0, 4294967295, 1, []), (23, 43, 35, 0, []), (26, 4, 0, 1, []), (27, 51, 11, 9, []), (30, 2, 1, 1, []), (31, 70, 78, 2, [7])]
def mt_154_2 : List (Nat × mx_I) := [(34, 80, 0, 0, []), (35, 2, 3, 1, []), (36, 0, 40, 2, []), (38, 47, 44, 0, []), (41, 0, 4294967294, 2, []), (43, 80, 0, 0, []), (44, 2, 3, 1, []), (45, 39, 53, 0, [])]
def mt_154_3 : List (Nat × mx_I) := [(48, 0, 4294967282, 2, []), (50, 48, 63, 0, []), (53, 4, 0, 1, []), (54, 51, 11, 9, []), (57, 2, 1, 1, []), (58, 2, 2, 1, []), (59, 2, 3, 1, []), (60, 70, 79, 4, [7]), (63, 80, 0, 0, [])]
def mt_154 : List (List (Nat × mx_I)) := [mt_154_0, mt_154_1, mt_154_2, mt_154_3]
def mt_155_0 : List (Nat × mx_I) := [(0, 2, 1, 1, []), (1, 0, 4, 1, []), (2, 70, 160, 2, []), (5, 37, 11, 0, []), (8, 0, 4294967294, 2, []), (10, 80, 0, 0, []), (11, 4, 0, 1, []), (12, 51, 11, 9, []), (15, 2, 1, 1, [])]
def mt_155_1 : List (Nat × mx_I) := [(16, 70, 80, 2, [7]), (19, 36, 25, 0, []), (22, 0, 4294967285, 2, []), (24, 80, 0, 0, []), (25, 4, 0, 1, []), (26, 51, 11, 9, []), (29, 2, 1, 1, []), (30, 2, 2, 1, []), (31, 0, 1, 1, [])]
def mt_155_2 : List (Nat × mx_I) := [(32, 70, 82, 4, [7]), (35, 36, 51, 0, []), (38, 4, 0, 1, []), (39, 51, 11, 9, []), (42, 2, 1, 1, []), (43, 2, 2, 1, []), (44, 2, 3, 1, []), (45, 70, 84, 4, [7])]
def mt_155_3 : List (Nat × mx_I) := [(48, 48, 53, 0, []), (51, 0, 4294967284, 2, []), (53, 80, 0, 0, [])]
def mt_155 : List (List (Nat × mx_I)) := [mt_155_0, mt_155_1, mt_155_2, mt_155_3]
def mt_156_0 : List (Nat × mx_I) := [(0, 2, 1, 1, []), (1, 0, 4, 1, []), (2, 70, 160, 2, []), (5, 36, 16, 0, []), (8, 2, 3, 1, []), (9, 0, 4, 1, []), (10, 70, 160, 2, []), (13, 37, 19, 0, [])]
def mt_156_1 : List (Nat × mx_I) := [(16, 0, 4294967294, 2, []), (18, 80, 0, 0, []), (19, 4, 0, 1, []), (20, 51, 11, 9, []), (23, 2, 1, 1, []), (24, 70, 80, 2, [7]), (27, 37, 41, 0, []), (30, 4, 0, 1, []), (31, 51, 11, 9, [])]
def mt_156_2 : List (Nat × mx_I) := [(34, 2, 3, 1, []), (35, 70, 80, 2, [7]), (38, 36, 44, 0, []), (41, 0, 4294967285, 2, []), (43, 80, 0, 0, []), (44, 4, 0, 1, []), (45, 51, 11, 9, [])]
def mt_156_3 : List (Nat × mx_I) := [(48, 2, 1, 1, []), (49, 70, 81, 2, [7]), (52, 4, 0, 1, []), (53, 51, 11, 9, []), (56, 2, 3, 1, []), (57, 70, 81, 2, [7]), (60, 42, 66, 0, []), (63, 0, 4294967283, 2, [])]
def mt_156_4 : List (Nat × mx_I) := [(65, 80, 0, 0, []), (66, 4, 0, 1, []), (67, 51, 11, 9, []), (70, 2, 1, 1, []), (71, 2, 2, 1, []), (72, 2, 5, 2, []), (74, 70, 82, 4, [7]), (77, 36, 95, 0, [])]
def mt_156_5 : List (Nat × mx_I) := [(80, 4, 0, 1, []), (81, 51, 11, 9, []), (84, 2, 3, 1, []), (85, 2, 4, 2, []), (87, 2, 5, 2, []), (89, 70, 82, 4, [7]), (92, 37, 98, 0, []), (95, 0, 4294967284, 2, [])]
def mt_156_6 : List (Nat × mx_I) := [(97, 80, 0, 0, []), (98, 4, 0, 1, []), (99, 51, 11, 9, []), (102, 2, 1, 1, []), (103, 2, 2, 1, []), (104, 2, 3, 1, []), (105, 2, 4, 2, []), (107, 2, 5, 2, []), (109, 70, 85, 6, [7])]
def mt_156_7 : List (Nat × mx_I) := [(112, 80, 0, 0, [])]
def mt_156 : List (List (Nat × mx_I)) := [mt_156_0, mt_156_1, mt_156_2, mt_156_3, mt_156_4, mt_156_5, mt_156_6, mt_156_7]
def mt_157_0 : List (Nat × mx_I) := [(0, 2, 1, 1, []), (1, 0, 4, 1, []), (2, 70, 160, 2, []), (5, 36, 26, 0, []), (8, 2, 2, 1, []), (9, 0, 3, 1, []), (10, 70, 160, 2, []), (13, 36, 26, 0, [])]
def mt_157_1 : List (Nat × mx_I) := [(16, 2, 4, 2, []), (18, 0, 14, 2, []), (20, 70, 160, 2, []), (23, 37, 29, 0, []), (26, 0, 4294967294, 2, []), (28, 80, 0, 0, []), (29, 4, 0, 1, []), (30, 51, 11, 9, [])]
def mt_157_2 : List (Nat × mx_I) := [(33, 2, 1, 1, []), (34, 70, 80, 2, [7]), (37, 36, 43, 0, []), (40, 0, 4294967285, 2, []), (42, 80, 0, 0, []), (43, 4, 0, 1, []), (44, 51, 11, 9, []), (47, 2, 1, 1, [])]
def mt_157_3 : List (Nat × mx_I) := [(48, 70, 81, 2, [7]), (51, 2, 2, 1, []), (52, 42, 58, 0, []), (55, 0, 4294967283, 2, []), (57, 80, 0, 0, []), (58, 0, 0, 1, []), (59, 5, 5, 2, []), (61, 2, 3, 1, []), (62, 5, 6, 2, [])]
def mt_157_4 : List (Nat × mx_I) := [(64, 0, 0, 1, []), (65, 5, 7, 2, []), (67, 2, 7, 2, []), (69, 2, 4, 2, []), (71, 45, 148, 0, []), (74, 4, 0, 1, []), (75, 51, 11, 9, []), (78, 2, 1, 1, []), (79, 2, 6, 2, [])]
def mt_157_5 : List (Nat × mx_I) := [(81, 0, 3, 1, []), (82, 70, 82, 4, [7]), (85, 37, 91, 0, []), (88, 0, 4294967284, 2, []), (90, 80, 0, 0, []), (91, 4, 0, 1, []), (92, 4, 0, 1, []), (93, 51, 11, 9, [])]
def mt_157_6 : List (Nat × mx_I) := [(96, 2, 1, 1, []), (97, 2, 6, 2, []), (99, 70, 83, 3, [7]), (102, 4, 0, 1, []), (103, 51, 11, 9, []), (106, 2, 1, 1, []), (107, 2, 6, 2, []), (109, 0, 1, 1, []), (110, 9, 0, 0, []), (111, 70, 83, 3, [7])]
def mt_157_7 : List (Nat × mx_I) := [(114, 4, 0, 1, []), (115, 51, 11, 9, []), (118, 2, 1, 1, []), (119, 2, 6, 2, []), (121, 0, 2, 1, []), (122, 9, 0, 0, []), (123, 70, 83, 3, [7]), (126, 70, 159, 4, [11])]
def mt_157_8 : List (Nat × mx_I) := [(129, 5, 8, 2, []), (131, 2, 8, 2, []), (133, 38, 139, 0, []), (136, 8, 5, 1, []), (139, 8, 6, 3, []), (142, 8, 7, 1, [])]
def mt_157_9 : List (Nat × mx_I) := [(145, 48, 67, 0, []), (148, 2, 5, 2, []), (150, 80, 0, 0, [])]
def mt_157 : List (List (Nat × mx_I)) := [mt_157_0, mt_157_1, mt_157_2, mt_157_3, mt_157_4, mt_157_5, mt_157_6, mt_157_7, mt_157_8, mt_157_9]
def mt_158_0 : List (Nat × mx_I) := [(0, 2, 2, 1, []), (1, 0, 6, 2, []), (3, 70, 160, 2, []), (6, 37, 12, 0, []), (9, 0, 4294967294, 2, []), (11, 80, 0, 0, []), (12, 4, 0, 1, []), (13, 51, 11, 0, [])]
def mt_158_1 : List (Nat × mx_I) := [(16, 2, 1, 1, []), (17, 70, 2, 2, [0]), (20, 37, 26, 0, []), (23, 0, 4294967285, 2, []), (25, 80, 0, 0, []), (26, 4, 0, 1, []), (27, 51, 11, 0, []), (30, 51, 0, 3, [])]
def mt_158_2 : List (Nat × mx_I) := [(33, 2, 1, 1, []), (34, 70, 68, 2, [6]), (37, 2, 2, 1, []), (38, 70, 162, 2, []), (41, 36, 58, 0, []), (44, 4, 0, 1, []), (45, 51, 11, 0, [])]
def mt_158_3 : List (Nat × mx_I) := [(48, 51, 0, 6, []), (51, 2, 1, 1, []), (52, 70, 68, 2, [6]), (55, 48, 60, 0, []), (58, 0, 4294967283, 2, []), (60, 80, 0, 0, [])]
def mt_158 : List (List (Nat × mx_I)) := [mt_158_0, mt_158_1, mt_158_2, mt_158_3]
def mt_159_0 : List (Nat × mx_I) := [(0, 4, 0, 1, []), (1, 51, 11, 0, []), (4, 2, 1, 1, []), (5, 70, 2, 2, [0]), (8, 36, 29, 0, []), (11, 2, 2, 1, []), (12, 0, 31, 2, []), (14, 70, 160, 2, [])]
def mt_159_1 : List (Nat × mx_I) := [(17, 36, 29, 0, []), (20, 2, 3, 1, []), (21, 0, 31, 2, []), (23, 70, 160, 2, []), (26, 37, 32, 0, []), (29, 0, 4294967294, 2, []), (31, 80, 0, 0, [])]
def mt_159_2 : List (Nat × mx_I) := [(32, 4, 0, 1, []), (33, 51, 11, 0, []), (36, 51, 0, 6, []), (39, 2, 1, 1, []), (40, 70, 68, 2, [6]), (43, 4, 0, 1, []), (44, 51, 11, 0, []), (47, 51, 0, 0, [])]
def mt_159_3 : List (Nat × mx_I) := [(50, 47, 56, 0, []), (53, 0, 4294967293, 2, []), (55, 80, 0, 0, []), (56, 4, 0, 1, []), (57, 51, 11, 0, []), (60, 51, 0, 8, []), (63, 70, 66, 1, [6])]
def mt_159_4 : List (Nat × mx_I) := [(66, 36, 72, 0, []), (69, 0, 4294967292, 2, []), (71, 80, 0, 0, []), (72, 4, 0, 1, []), (73, 51, 11, 0, []), (76, 2, 1, 1, []), (77, 2, 2, 1, []), (78, 2, 3, 1, []), (79, 70, 10, 4, [0])]
def mt_159_5 : List (Nat × mx_I) := [(82, 80, 0, 0, [])]
def mt_159 : List (List (Nat × mx_I)) := [mt_159_0, mt_159_1, mt_159_2, mt_159_3, mt_159_4, mt_159_5]
def mt_160_0 : List (Nat × mx_I) := [(0, 2, 0, 1, []), (1, 38, 13, 0, []), (4, 2, 0, 1, []), (5, 2, 1, 1, []), (6, 45, 13, 0, []), (9, 0, 1, 1, []), (10, 48, 14, 0, []), (13, 0, 0, 1, []), (14, 80, 2, 0, [])]
def mt_160 : List (List (Nat × mx_I)) := [mt_160_0]
def mt_161_0 : List (Nat × mx_I) := [(0, 2, 1, 1, []), (1, 38, 16, 0, []), (4, 2, 1, 1, []), (5, 4, 0, 1, []), (6, 57, 0, 0, []), (7, 45, 16, 0, []), (10, 4, 0, 1, []), (11, 2, 1, 1, []), (12, 58, 0, 0, []), (13, 48, 17, 0, [])]
def mt_161_1 : List (Nat × mx_I) := [(16, 0, 0, 1, []), (17, 80, 0, 0, [])]
def mt_161 : List (List (Nat × mx_I)) := [mt_161_0, mt_161_1]
def mt_162_0 : List (Nat × mx_I) := [(0, 2, 0, 1, []), (1, 5, 2, 1, []), (2, 0, 0, 1, []), (3, 5, 3, 1, []), (4, 2, 3, 1, []), (5, 0, 6, 2, []), (7, 45, 35, 0, []), (10, 2, 2, 1, []), (11, 38, 35, 0, []), (14, 2, 2, 1, []), (15, 2, 1, 1, [])]
def mt_162_1 : List (Nat × mx_I) := [(16, 43, 21, 0, []), (19, 0, 1, 1, []), (20, 80, 2, 0, []), (21, 55, 9, 0, []), (24, 2, 2, 1, []), (25, 70, 161, 2, []), (28, 5, 2, 1, []), (29, 8, 3, 1, [])]
def mt_162_2 : List (Nat × mx_I) := [(32, 48, 4, 0, []), (35, 0, 0, 1, []), (36, 80, 2, 0, [])]
def mt_162 : List (List (Nat × mx_I)) := [mt_162_0, mt_162_1, mt_162_2]
def mt_163_0 : List (Nat × mx_I) := [(0, 2, 0, 1, []), (1, 2, 1, 1, []), (2, 44, 14, 0, []), (5, 2, 0, 1, []), (6, 2, 2, 1, []), (7, 46, 14, 0, []), (10, 0, 1, 1, []), (11, 48, 15, 0, []), (14, 0, 0, 1, []), (15, 80, 2, 0, [])]
def mt_163 : List (List (Nat × mx_I)) := [mt_163_0]
def mt_164_0 : List (Nat × mx_I) := [(0, 2, 0, 1, []), (1, 0, 0, 1, []), (2, 0, 399, 3, []), (5, 70, 163, 3, []), (8, 80, 2, 0, [])]
def mt_164 : List (List (Nat × mx_I)) := [mt_164_0]
def mt_165_0 : List (Nat × mx_I) := [(0, 2, 1, 1, []), (1, 0, 1, 1, []), (2, 0, 60, 2, []), (4, 70, 163, 3, []), (7, 37, 13, 0, []), (10, 0, 4294967294, 2, []), (12, 80, 0, 0, []), (13, 4, 0, 1, []), (14, 51, 12, 1, [])]
def mt_165_1 : List (Nat × mx_I) := [(17, 2, 1, 1, []), (18, 9, 0, 0, []), (19, 0, 399, 3, []), (22, 47, 28, 0, []), (25, 0, 4294967292, 2, []), (27, 80, 0, 0, []), (28, 4, 0, 1, []), (29, 33, 0, 0, []), (30, 51, 12, 1, [])]
def mt_165_2 : List (Nat × mx_I) := [(33, 2, 1, 1, []), (34, 9, 0, 0, []), (35, 53, 12, 1, []), (38, 4, 0, 1, []), (39, 51, 12, 1, []), (42, 80, 0, 0, [])]
def mt_165 : List (List (Nat × mx_I)) := [mt_165_0, mt_165_1, mt_165_2]
def mt_166_0 : List (Nat × mx_I) := [(0, 2, 1, 1, []), (1, 0, 0, 1, []), (2, 4, 0, 1, []), (3, 51, 12, 2, []), (6, 0, 1, 1, []), (7, 10, 0, 0, []), (8, 70, 163, 3, []), (11, 80, 2, 0, [])]
def mt_166 : List (List (Nat × mx_I)) := [mt_166_0]
def mt_167_0 : List (Nat × mx_I) := [(0, 2, 0, 1, []), (1, 0, 0, 1, []), (2, 0, 3, 1, []), (3, 70, 163, 3, []), (6, 80, 2, 0, [])]
def mt_167 : List (List (Nat × mx_I)) := [mt_167_0]
def mt_168_0 : List (Nat × mx_I) := [(0, 2, 1, 1, []), (1, 70, 167, 1, []), (4, 36, 17, 0, []), (7, 2, 2, 1, []), (8, 0, 0, 1, []), (9, 0, 7, 2, []), (11, 70, 163, 3, []), (14, 37, 20, 0, [])]
def mt_168_1 : List (Nat × mx_I) := [(17, 0, 4294967294, 2, []), (19, 80, 0, 0, []), (20, 4, 0, 1, []), (21, 51, 12, 2, []), (24, 0, 12, 2, []), (26, 43, 32, 0, []), (29, 0, 4294967292, 2, []), (31, 80, 0, 0, [])]
def mt_168_2 : List (Nat × mx_I) := [(32, 4, 0, 1, []), (33, 51, 12, 3, []), (36, 4, 0, 1, []), (37, 51, 12, 2, []), (40, 2, 1, 1, []), (41, 59, 0, 0, []), (42, 4, 0, 1, []), (43, 51, 12, 4, []), (46, 4, 0, 1, []), (47, 51, 12, 2, [])]
def mt_168_3 : List (Nat × mx_I) := [(50, 2, 2, 1, []), (51, 59, 0, 0, []), (52, 4, 0, 1, []), (53, 33, 0, 0, []), (54, 51, 12, 2, []), (57, 0, 1, 1, []), (58, 9, 0, 0, []), (59, 53, 12, 2, []), (62, 4, 0, 1, []), (63, 51, 12, 2, [])]
def mt_168_4 : List (Nat × mx_I) := [(66, 0, 1, 1, []), (67, 10, 0, 0, []), (68, 80, 0, 0, [])]
def mt_168 : List (List (Nat × mx_I)) := [mt_168_0, mt_168_1, mt_168_2, mt_168_3, mt_168_4]
def mt_169_0 : List (Nat × mx_I) := [(0, 4, 0, 1, []), (1, 2, 1, 1, []), (2, 70, 166, 2, [12]), (5, 36, 15, 0, []), (8, 2, 2, 1, []), (9, 70, 167, 1, []), (12, 37, 18, 0, []), (15, 0, 4294967294, 2, [])]
def mt_169_1 : List (Nat × mx_I) := [(17, 80, 0, 0, []), (18, 4, 0, 1, []), (19, 51, 12, 3, []), (22, 2, 1, 1, []), (23, 58, 0, 0, []), (24, 5, 3, 1, []), (25, 4, 0, 1, []), (26, 51, 12, 3, []), (29, 2, 1, 1, []), (30, 2, 2, 1, []), (31, 59, 0, 0, [])]
def mt_169_2 : List (Nat × mx_I) := [(32, 2, 3, 1, []), (33, 80, 0, 0, [])]
def mt_169 : List (List (Nat × mx_I)) := [mt_169_0, mt_169_1, mt_169_2]
def mt_170_0 : List (Nat × mx_I) := [(0, 2, 1, 1, []), (1, 0, 0, 1, []), (2, 4, 0, 1, []), (3, 51, 12, 5, []), (6, 0, 1, 1, []), (7, 10, 0, 0, []), (8, 70, 163, 3, []), (11, 80, 2, 0, [])]
def mt_170 : List (List (Nat × mx_I)) := [mt_170_0]
def mt_171_0 : List (Nat × mx_I) := [(0, 2, 1, 1, []), (1, 36, 29, 0, []), (4, 2, 0, 1, []), (5, 2, 1, 1, []), (6, 42, 29, 0, []), (9, 2, 1, 1, []), (10, 0, 2, 1, []), (11, 43, 19, 0, []), (14, 2, 0, 1, []), (15, 0, 4, 1, [])]
def mt_171_1 : List (Nat × mx_I) := [(16, 42, 29, 0, []), (19, 2, 1, 1, []), (20, 0, 3, 1, []), (21, 43, 33, 0, []), (24, 2, 0, 1, []), (25, 0, 5, 1, []), (26, 43, 33, 0, []), (29, 0, 1, 1, []), (30, 48, 34, 0, [])]
def mt_171_2 : List (Nat × mx_I) := [(33, 0, 0, 1, []), (34, 80, 2, 0, [])]
def mt_171 : List (List (Nat × mx_I)) := [mt_171_0, mt_171_1, mt_171_2]
def mt_172_0 : List (Nat × mx_I) := [(0, 2, 0, 1, []), (1, 0, 1, 1, []), (2, 42, 14, 0, []), (5, 2, 0, 1, []), (6, 0, 5, 1, []), (7, 42, 14, 0, []), (10, 0, 1, 1, []), (11, 48, 15, 0, []), (14, 0, 0, 1, []), (15, 80, 2, 0, [])]
def mt_172 : List (List (Nat × mx_I)) := [mt_172_0]
def mt_173_0 : List (Nat × mx_I) := [(0, 2, 0, 1, []), (1, 36, 14, 0, []), (4, 2, 0, 1, []), (5, 0, 2, 1, []), (6, 42, 14, 0, []), (9, 2, 0, 1, []), (10, 0, 4, 1, []), (11, 43, 18, 0, []), (14, 0, 1, 1, []), (15, 48, 19, 0, [])]
def mt_173_1 : List (Nat × mx_I) := [(18, 0, 0, 1, []), (19, 80, 2, 0, [])]
def mt_173 : List (List (Nat × mx_I)) := [mt_173_0, mt_173_1]
def mt_174_0 : List (Nat × mx_I) := [(0, 2, 0, 1, []), (1, 49, 52, 0, [36, 40, 44, 52, 48])]
def mt_174_1 : List (Nat × mx_I) := []
def mt_174_2 : List (Nat × mx_I) := [(36, 0, 300, 3, []), (39, 80, 0, 0, []), (40, 0, 150, 3, []), (43, 80, 0, 0, []), (44, 0, 240, 3, []), (47, 80, 0, 0, [])]
def mt_174_3 : List (Nat × mx_I) := [(48, 0, 480, 3, []), (51, 80, 0, 0, []), (52, 0, 0, 1, []), (53, 80, 0, 0, [])]
def mt_174 : List (List (Nat × mx_I)) := [mt_174_0, mt_174_1, mt_174_2, mt_174_3]
def mt_175_0 : List (Nat × mx_I) := [(0, 2, 0, 1, []), (1, 0, 1, 1, []), (2, 43, 10, 0, []), (5, 0, 50, 2, []), (7, 48, 22, 0, []), (10, 2, 0, 1, []), (11, 0, 4, 1, []), (12, 43, 20, 0, []), (15, 0, 80, 2, [])]
def mt_175_1 : List (Nat × mx_I) := [(17, 48, 22, 0, []), (20, 0, 100, 2, []), (22, 80, 0, 0, [])]
def mt_175 : List (List (Nat × mx_I)) := [mt_175_0, mt_175_1]
def mt_176_0 : List (Nat × mx_I) := [(0, 2, 1, 1, []), (1, 0, 0, 1, []), (2, 0, 5, 1, []), (3, 70, 163, 3, []), (6, 36, 38, 0, []), (9, 4, 0, 1, []), (10, 2, 2, 1, []), (11, 70, 166, 2, [12]), (14, 36, 38, 0, [])]
def mt_176_1 : List (Nat × mx_I) := [(17, 4, 0, 1, []), (18, 2, 3, 1, []), (19, 70, 166, 2, [12]), (22, 36, 38, 0, []), (25, 2, 2, 1, []), (26, 2, 3, 1, []), (27, 42, 38, 0, []), (30, 2, 4, 2, [])]
def mt_176_2 : List (Nat × mx_I) := [(32, 70, 164, 1, []), (35, 37, 41, 0, []), (38, 0, 4294967294, 2, []), (40, 80, 0, 0, []), (41, 4, 0, 1, []), (42, 51, 12, 5, []), (45, 0, 60, 2, []), (47, 43, 53, 0, [])]
def mt_176_3 : List (Nat × mx_I) := [(50, 0, 4294967292, 2, []), (52, 80, 0, 0, []), (53, 4, 0, 1, []), (54, 51, 12, 6, []), (57, 4, 0, 1, []), (58, 51, 12, 5, []), (61, 2, 1, 1, []), (62, 59, 0, 0, []), (63, 4, 0, 1, [])]
def mt_176_4 : List (Nat × mx_I) := [(64, 51, 12, 7, []), (67, 4, 0, 1, []), (68, 51, 12, 5, []), (71, 2, 2, 1, []), (72, 59, 0, 0, []), (73, 4, 0, 1, []), (74, 51, 12, 8, []), (77, 4, 0, 1, []), (78, 51, 12, 5, [])]
def mt_176_5 : List (Nat × mx_I) := [(81, 2, 3, 1, []), (82, 59, 0, 0, []), (83, 4, 0, 1, []), (84, 51, 12, 9, []), (87, 4, 0, 1, []), (88, 51, 12, 5, []), (91, 2, 4, 2, []), (93, 59, 0, 0, []), (94, 4, 0, 1, []), (95, 51, 12, 62, [])]
def mt_176_6 : List (Nat × mx_I) := [(98, 4, 0, 1, []), (99, 51, 12, 5, []), (102, 0, 4294967295, 1, []), (103, 59, 0, 0, []), (104, 4, 0, 1, []), (105, 33, 0, 0, []), (106, 51, 12, 5, []), (109, 0, 1, 1, []), (110, 9, 0, 0, []), (111, 53, 12, 5, [])]
def mt_176_7 : List (Nat × mx_I) := [(114, 4, 0, 1, []), (115, 51, 12, 5, []), (118, 0, 1, 1, []), (119, 10, 0, 0, []), (120, 80, 0, 0, [])]
def mt_176 : List (List (Nat × mx_I)) := [mt_176_0, mt_176_1, mt_176_2, mt_176_3, mt_176_4, mt_176_5, mt_176_6, mt_176_7]
def mt_177_0 : List (Nat × mx_I) := [(0, 4, 0, 1, []), (1, 2, 1, 1, []), (2, 70, 170, 2, [12]), (5, 37, 11, 0, []), (8, 0, 4294967294, 2, []), (10, 80, 0, 0, []), (11, 2, 2, 1, []), (12, 49, 144, 0, [60, 67, 74, 81, 88, 106, 124, 134])]
def mt_177_1 : List (Nat × mx_I) := []
def mt_177_2 : List (Nat × mx_I) := []
def mt_177_3 : List (Nat × mx_I) := [(60, 4, 0, 1, []), (61, 51, 12, 6, [])]
def mt_177_4 : List (Nat × mx_I) := [(64, 2, 1, 1, []), (65, 58, 0, 0, []), (66, 80, 0, 0, []), (67, 4, 0, 1, []), (68, 51, 12, 7, []), (71, 2, 1, 1, []), (72, 58, 0, 0, []), (73, 80, 0, 0, []), (74, 4, 0, 1, []), (75, 51, 12, 8, []), (78, 2, 1, 1, []), (79, 58, 0, 0, [])]
def mt_177_5 : List (Nat × mx_I) := [(80, 80, 0, 0, []), (81, 4, 0, 1, []), (82, 51, 12, 9, []), (85, 2, 1, 1, []), (86, 58, 0, 0, []), (87, 80, 0, 0, []), (88, 4, 0, 1, []), (89, 51, 12, 6, []), (92, 2, 1, 1, []), (93, 58, 0, 0, []), (94, 70, 172, 1, [])]
def mt_177_6 : List (Nat × mx_I) := [(97, 36, 104, 0, []), (100, 0, 1, 1, []), (101, 48, 105, 0, []), (104, 0, 0, 1, []), (105, 80, 0, 0, []), (106, 4, 0, 1, []), (107, 51, 12, 6, []), (110, 2, 1, 1, []), (111, 58, 0, 0, [])]
def mt_177_7 : List (Nat × mx_I) := [(112, 70, 173, 1, []), (115, 36, 122, 0, []), (118, 0, 1, 1, []), (119, 48, 123, 0, []), (122, 0, 0, 1, []), (123, 80, 0, 0, []), (124, 4, 0, 1, []), (125, 51, 12, 6, [])]
def mt_177_8 : List (Nat × mx_I) := [(128, 2, 1, 1, []), (129, 58, 0, 0, []), (130, 70, 174, 1, []), (133, 80, 0, 0, []), (134, 4, 0, 1, []), (135, 51, 12, 6, []), (138, 2, 1, 1, []), (139, 58, 0, 0, []), (140, 70, 175, 1, []), (143, 80, 0, 0, [])]
def mt_177_9 : List (Nat × mx_I) := [(144, 0, 4294967294, 2, []), (146, 80, 0, 0, [])]
def mt_177 : List (List (Nat × mx_I)) := [mt_177_0, mt_177_1, mt_177_2, mt_177_3, mt_177_4, mt_177_5, mt_177_6, mt_177_7, mt_177_8, mt_177_9]
def mt_178_0 : List (Nat × mx_I) := [(0, 4, 0, 1, []), (1, 2, 1, 1, []), (2, 70, 170, 2, [12]), (5, 36, 28, 0, []), (8, 2, 2, 1, []), (9, 0, 0, 1, []), (10, 0, 30, 2, []), (12, 70, 163, 3, []), (15, 36, 28, 0, [])]
def mt_178_1 : List (Nat × mx_I) := [(18, 2, 3, 1, []), (19, 0, 0, 1, []), (20, 0, 30, 2, []), (22, 70, 163, 3, []), (25, 37, 31, 0, []), (28, 0, 4294967294, 2, []), (30, 80, 0, 0, []), (31, 4, 0, 1, [])]
def mt_178_2 : List (Nat × mx_I) := [(32, 51, 12, 9, []), (35, 2, 1, 1, []), (36, 58, 0, 0, []), (37, 4, 0, 1, []), (38, 51, 12, 1, []), (41, 47, 47, 0, []), (44, 0, 4294967293, 2, []), (46, 80, 0, 0, []), (47, 4, 0, 1, [])]
def mt_178_3 : List (Nat × mx_I) := [(48, 51, 12, 10, []), (51, 0, 120, 2, []), (53, 43, 59, 0, []), (56, 0, 4294967292, 2, []), (58, 80, 0, 0, []), (59, 4, 0, 1, []), (60, 51, 12, 11, []), (63, 4, 0, 1, [])]
def mt_178_4 : List (Nat × mx_I) := [(64, 51, 12, 10, []), (67, 2, 1, 1, []), (68, 59, 0, 0, []), (69, 4, 0, 1, []), (70, 51, 12, 12, []), (73, 4, 0, 1, []), (74, 51, 12, 10, []), (77, 0, 100, 2, []), (79, 2, 2, 1, [])]
def mt_178_5 : List (Nat × mx_I) := [(80, 11, 0, 0, []), (81, 2, 3, 1, []), (82, 9, 0, 0, []), (83, 59, 0, 0, []), (84, 4, 0, 1, []), (85, 51, 12, 13, []), (88, 4, 0, 1, []), (89, 51, 12, 10, []), (92, 4, 0, 1, []), (93, 51, 12, 1, [])]
def mt_178_6 : List (Nat × mx_I) := [(96, 59, 0, 0, []), (97, 4, 0, 1, []), (98, 33, 0, 0, []), (99, 51, 12, 10, []), (102, 0, 1, 1, []), (103, 9, 0, 0, []), (104, 53, 12, 10, []), (107, 4, 0, 1, []), (108, 51, 12, 10, []), (111, 80, 0, 0, [])]
def mt_178 : List (List (Nat × mx_I)) := [mt_178_0, mt_178_1, mt_178_2, mt_178_3, mt_178_4, mt_178_5, mt_178_6]
def mt_179_0 : List (Nat × mx_I) := [(0, 4, 0, 1, []), (1, 51, 12, 10, []), (4, 0, 1, 1, []), (5, 10, 0, 0, []), (6, 5, 3, 1, []), (7, 2, 3, 1, []), (8, 38, 44, 0, []), (11, 4, 0, 1, []), (12, 51, 12, 11, []), (15, 2, 3, 1, [])]
def mt_179_1 : List (Nat × mx_I) := [(16, 58, 0, 0, []), (17, 2, 1, 1, []), (18, 43, 38, 0, []), (21, 4, 0, 1, []), (22, 51, 12, 13, []), (25, 2, 3, 1, []), (26, 58, 0, 0, []), (27, 2, 2, 1, []), (28, 46, 38, 0, []), (31, 4, 0, 1, [])]
def mt_179_2 : List (Nat × mx_I) := [(32, 51, 12, 12, []), (35, 2, 3, 1, []), (36, 58, 0, 0, []), (37, 80, 0, 0, []), (38, 8, 3, 4294967295, []), (41, 48, 7, 0, []), (44, 4, 0, 1, []), (45, 51, 12, 6, [])]
def mt_179_3 : List (Nat × mx_I) := [(48, 2, 1, 1, []), (49, 58, 0, 0, []), (50, 0, 3, 1, []), (51, 43, 60, 0, []), (54, 0, 300, 3, []), (57, 48, 61, 0, []), (60, 0, 4294967295, 1, []), (61, 80, 0, 0, [])]
def mt_179 : List (List (Nat × mx_I)) := [mt_179_0, mt_179_1, mt_179_2, mt_179_3]
def mt_180_0 : List (Nat × mx_I) := [(0, 4, 0, 1, []), (1, 2, 1, 1, []), (2, 70, 170, 2, [12]), (5, 36, 20, 0, []), (8, 2, 2, 1, []), (9, 0, 0, 1, []), (10, 4, 0, 1, []), (11, 51, 12, 1, []), (14, 70, 163, 3, [])]
def mt_180_1 : List (Nat × mx_I) := [(17, 37, 25, 0, []), (20, 0, 4294967294, 2, []), (22, 48, 31, 0, []), (25, 4, 0, 1, []), (26, 2, 1, 1, []), (27, 2, 2, 1, []), (28, 70, 179, 3, [12]), (31, 80, 0, 0, [])]
def mt_180 : List (List (Nat × mx_I)) := [mt_180_0, mt_180_1]
def mt_181_0 : List (Nat × mx_I) := [(0, 4, 0, 1, []), (1, 63, 0, 0, []), (4, 4, 0, 1, []), (5, 0, 12, 2, []), (7, 62, 0, 0, []), (9, 54, 12, 3, []), (12, 4, 0, 1, []), (13, 0, 12, 2, []), (15, 62, 0, 0, [])]
def mt_181_1 : List (Nat × mx_I) := [(17, 54, 12, 4, []), (20, 4, 0, 1, []), (21, 0, 60, 2, []), (23, 62, 0, 0, []), (25, 54, 12, 6, []), (28, 4, 0, 1, []), (29, 0, 60, 2, []), (31, 62, 0, 0, [])]
def mt_181_2 : List (Nat × mx_I) := [(33, 54, 12, 7, []), (36, 4, 0, 1, []), (37, 0, 60, 2, []), (39, 62, 0, 0, []), (41, 54, 12, 8, []), (44, 4, 0, 1, []), (45, 0, 60, 2, []), (47, 62, 0, 0, [])]
def mt_181_3 : List (Nat × mx_I) := [(49, 54, 12, 9, []), (52, 4, 0, 1, []), (53, 0, 120, 2, []), (55, 62, 0, 0, []), (57, 54, 12, 11, []), (60, 4, 0, 1, []), (61, 0, 120, 2, []), (63, 62, 0, 0, [])]
def mt_181_4 : List (Nat × mx_I) := [(65, 54, 12, 12, []), (68, 4, 0, 1, []), (69, 0, 120, 2, []), (71, 62, 0, 0, []), (73, 54, 12, 13, []), (76, 4, 0, 1, []), (77, 0, 160, 3, [])]
def mt_181_5 : List (Nat × mx_I) := [(80, 62, 1, 0, []), (82, 54, 12, 14, []), (85, 4, 0, 1, []), (86, 0, 28, 2, []), (88, 62, 0, 0, []), (90, 54, 12, 17, []), (93, 4, 0, 1, []), (94, 0, 1190, 3, [])]
def mt_181_6 : List (Nat × mx_I) := [(97, 62, 0, 0, []), (99, 54, 12, 18, []), (102, 4, 0, 1, []), (103, 0, 1190, 3, []), (106, 62, 0, 0, []), (108, 54, 12, 19, []), (111, 4, 0, 1, [])]
def mt_181_7 : List (Nat × mx_I) := [(112, 0, 20, 2, []), (114, 62, 0, 0, []), (116, 54, 12, 28, []), (119, 4, 0, 1, []), (120, 0, 20, 2, []), (122, 62, 0, 0, []), (124, 54, 12, 29, []), (127, 4, 0, 1, [])]
def mt_181_8 : List (Nat × mx_I) := [(128, 0, 6, 2, []), (130, 62, 0, 0, []), (132, 54, 12, 30, []), (135, 4, 0, 1, []), (136, 0, 170, 3, []), (139, 62, 0, 0, []), (141, 54, 12, 31, [])]
def mt_181_9 : List (Nat × mx_I) := [(144, 4, 0, 1, []), (145, 0, 30, 2, []), (147, 62, 0, 0, []), (149, 54, 12, 33, []), (152, 4, 0, 1, []), (153, 0, 30, 2, []), (155, 62, 0, 0, []), (157, 54, 12, 34, [])]
def mt_181_10 : List (Nat × mx_I) := [(160, 4, 0, 1, []), (161, 0, 30, 2, []), (163, 62, 0, 0, []), (165, 54, 12, 35, []), (168, 4, 0, 1, []), (169, 0, 12, 2, []), (171, 62, 0, 0, []), (173, 54, 12, 36, [])]
def mt_181_11 : List (Nat × mx_I) := [(176, 4, 0, 1, []), (177, 0, 12, 2, []), (179, 62, 0, 0, []), (181, 54, 12, 37, []), (184, 4, 0, 1, []), (185, 0, 12, 2, []), (187, 62, 0, 0, []), (189, 54, 12, 38, [])]
def mt_181_12 : List (Nat × mx_I) := [(192, 4, 0, 1, []), (193, 0, 12, 2, []), (195, 62, 3, 0, []), (197, 54, 12, 39, []), (200, 4, 0, 1, []), (201, 0, 12, 2, []), (203, 62, 3, 0, []), (205, 54, 12, 40, [])]
def mt_181_13 : List (Nat × mx_I) := [(208, 4, 0, 1, []), (209, 0, 40, 2, []), (211, 62, 0, 0, []), (213, 54, 12, 43, []), (216, 4, 0, 1, []), (217, 0, 40, 2, []), (219, 62, 0, 0, []), (221, 54, 12, 44, [])]
def mt_181_14 : List (Nat × mx_I) := [(224, 4, 0, 1, []), (225, 0, 40, 2, []), (227, 62, 0, 0, []), (229, 54, 12, 45, []), (232, 4, 0, 1, []), (233, 0, 40, 2, []), (235, 62, 0, 0, []), (237, 54, 12, 47, [])]
def mt_181_15 : List (Nat × mx_I) := [(240, 4, 0, 1, []), (241, 0, 40, 2, []), (243, 62, 0, 0, []), (245, 54, 12, 48, []), (248, 4, 0, 1, []), (249, 0, 40, 2, []), (251, 62, 0, 0, []), (253, 54, 12, 49, [])]
def mt_181_16 : List (Nat × mx_I) := [(256, 4, 0, 1, []), (257, 0, 60, 2, []), (259, 62, 0, 0, []), (261, 54, 12, 51, []), (264, 4, 0, 1, []), (265, 0, 60, 2, []), (267, 62, 0, 0, []), (269, 54, 12, 52, [])]
def mt_181_17 : List (Nat × mx_I) := [(272, 4, 0, 1, []), (273, 0, 200, 3, []), (276, 62, 0, 0, []), (278, 54, 12, 53, []), (281, 4, 0, 1, []), (282, 0, 40, 2, []), (284, 62, 0, 0, []), (286, 54, 12, 54, [])]
def mt_181_18 : List (Nat × mx_I) := [(289, 4, 0, 1, []), (290, 0, 60, 2, []), (292, 62, 2, 0, []), (294, 54, 12, 55, []), (297, 4, 0, 1, []), (298, 0, 12, 2, []), (300, 62, 2, 0, []), (302, 54, 12, 56, [])]
def mt_181_19 : List (Nat × mx_I) := [(305, 4, 0, 1, []), (306, 0, 720, 3, []), (309, 62, 2, 0, []), (311, 54, 12, 57, []), (314, 4, 0, 1, []), (315, 0, 720, 3, []), (318, 62, 0, 0, [])]
def mt_181_20 : List (Nat × mx_I) := [(320, 54, 12, 58, []), (323, 4, 0, 1, []), (324, 0, 720, 3, []), (327, 62, 0, 0, []), (329, 54, 12, 59, []), (332, 4, 0, 1, []), (333, 0, 720, 3, [])]
def mt_181_21 : List (Nat × mx_I) := [(336, 62, 0, 0, []), (338, 54, 12, 60, []), (341, 4, 0, 1, []), (342, 0, 720, 3, []), (345, 62, 0, 0, []), (347, 54, 12, 61, []), (350, 4, 0, 1, []), (351, 0, 60, 2, [])]
def mt_181_22 : List (Nat × mx_I) := [(353, 62, 0, 0, []), (355, 54, 12, 62, []), (358, 4, 0, 1, []), (359, 0, 60, 2, []), (361, 62, 0, 0, []), (363, 54, 12, 64, []), (366, 4, 0, 1, []), (367, 0, 729, 3, [])]
def mt_181_23 : List (Nat × mx_I) := [(370, 62, 0, 0, []), (372, 54, 12, 65, []), (375, 4, 0, 1, []), (376, 0, 729, 3, []), (379, 62, 3, 0, []), (381, 54, 12, 66, [])]
def mt_181_24 : List (Nat × mx_I) := [(384, 4, 0, 1, []), (385, 0, 12, 2, []), (387, 62, 3, 0, []), (389, 54, 12, 67, []), (392, 4, 0, 1, []), (393, 0, 12, 2, []), (395, 62, 0, 0, []), (397, 54, 12, 68, [])]
def mt_181_25 : List (Nat × mx_I) := [(400, 4, 0, 1, []), (401, 0, 12, 2, []), (403, 62, 0, 0, []), (405, 54, 12, 69, []), (408, 4, 0, 1, []), (409, 0, 12, 2, []), (411, 62, 0, 0, []), (413, 54, 12, 70, [])]
def mt_181_26 : List (Nat × mx_I) := [(416, 4, 0, 1, []), (417, 0, 6, 2, []), (419, 62, 0, 0, []), (421, 54, 12, 72, []), (424, 4, 0, 1, []), (425, 0, 6, 2, []), (427, 62, 0, 0, []), (429, 54, 12, 73, [])]
def mt_181_27 : List (Nat × mx_I) := [(432, 4, 0, 1, []), (433, 0, 4, 1, []), (434, 62, 0, 0, []), (436, 54, 12, 74, []), (439, 4, 0, 1, []), (440, 0, 4, 1, []), (441, 62, 0, 0, []), (443, 54, 12, 75, []), (446, 4, 0, 1, []), (447, 0, 160, 3, [])]
def mt_181_28 : List (Nat × mx_I) := [(450, 62, 0, 0, []), (452, 54, 12, 76, []), (455, 4, 0, 1, []), (456, 0, 40, 2, []), (458, 62, 0, 0, []), (460, 54, 12, 77, []), (463, 0, 0, 1, [])]
def mt_181_29 : List (Nat × mx_I) := [(464, 5, 1, 1, []), (465, 2, 1, 1, []), (466, 0, 4, 1, []), (467, 45, 483, 0, []), (470, 4, 0, 1, []), (471, 51, 12, 74, []), (474, 2, 1, 1, []), (475, 0, 4294967295, 1, []), (476, 59, 0, 0, []), (477, 8, 1, 1, [])]
def mt_181_30 : List (Nat × mx_I) := [(480, 48, 465, 0, []), (483, 55, 10, 0, []), (486, 7, 1, 1, []), (487, 0, 0, 1, []), (488, 5, 2, 1, []), (489, 2, 2, 1, []), (490, 4, 1, 1, []), (491, 57, 0, 0, []), (492, 45, 510, 0, []), (495, 4, 0, 1, [])]
def mt_181_31 : List (Nat × mx_I) := [(496, 51, 12, 14, []), (499, 2, 2, 1, []), (500, 4, 1, 1, []), (501, 2, 2, 1, []), (502, 58, 1, 0, []), (503, 59, 1, 0, []), (504, 8, 2, 1, []), (507, 48, 489, 0, []), (510, 4, 0, 1, []), (511, 4, 1, 1, [])]
def mt_181_32 : List (Nat × mx_I) := [(512, 57, 0, 0, []), (513, 53, 12, 15, []), (516, 4, 0, 1, []), (517, 70, 198, 1, [12]), (520, 34, 0, 0, []), (521, 83, 0, 0, [])]
def mt_181 : List (List (Nat × mx_I)) := [mt_181_0, mt_181_1, mt_181_2, mt_181_3, mt_181_4, mt_181_5, mt_181_6, mt_181_7, mt_181_8, mt_181_9, mt_181_10, mt_181_11, mt_181_12, mt_181_13, mt_181_14, mt_181_15, mt_181_16, mt_181_17, mt_181_18, mt_181_19, mt_181_20, mt_181_21, mt_181_22, mt_181_23, mt_181_24, mt_181_25, mt_181_26, mt_181_27, mt_181_28, mt_181_29, mt_181_30, mt_181_31, mt_181_32]
def mt_182_0 : List (Nat × mx_I) := [(0, 2, 1, 1, []), (1, 0, 1, 1, []), (2, 0, 8, 2, []), (4, 70, 163, 3, []), (7, 37, 13, 0, []), (10, 0, 4294967294, 2, []), (12, 80, 0, 0, []), (13, 4, 0, 1, []), (14, 51, 12, 15, [])]
def mt_182_1 : List (Nat × mx_I) := [(17, 2, 1, 1, []), (18, 9, 0, 0, []), (19, 0, 160, 3, []), (22, 47, 28, 0, []), (25, 0, 4294967292, 2, []), (27, 80, 0, 0, []), (28, 0, 0, 1, []), (29, 5, 4, 2, []), (31, 2, 4, 2, [])]
def mt_182_2 : List (Nat × mx_I) := [(33, 2, 1, 1, []), (34, 45, 71, 0, []), (37, 4, 0, 1, []), (38, 51, 12, 14, []), (41, 4, 0, 1, []), (42, 51, 12, 15, []), (45, 3, 2, 1, []), (46, 0, 8, 2, [])]
def mt_182_3 : List (Nat × mx_I) := [(48, 2, 4, 2, []), (50, 11, 0, 0, []), (51, 26, 0, 0, []), (52, 29, 0, 0, []), (53, 30, 0, 0, []), (54, 59, 1, 0, []), (55, 4, 0, 1, []), (56, 33, 0, 0, []), (57, 51, 12, 15, []), (60, 0, 1, 1, []), (61, 9, 0, 0, []), (62, 53, 12, 15, [])]
def mt_182_4 : List (Nat × mx_I) := [(65, 8, 4, 1, []), (68, 48, 31, 0, []), (71, 4, 0, 1, []), (72, 51, 12, 15, []), (75, 80, 0, 0, [])]
def mt_182 : List (List (Nat × mx_I)) := [mt_182_0, mt_182_1, mt_182_2, mt_182_3, mt_182_4]
def mt_183_0 : List (Nat × mx_I) := [(0, 2, 0, 1, []), (1, 0, 97, 2, []), (3, 0, 122, 2, []), (5, 70, 163, 3, []), (8, 80, 2, 0, [])]
def mt_183 : List (List (Nat × mx_I)) := [mt_183_0]
def mt_184_0 : List (Nat × mx_I) := [(0, 2, 0, 1, []), (1, 0, 48, 2, []), (3, 0, 57, 2, []), (5, 70, 163, 3, []), (8, 80, 2, 0, [])]
def mt_184 : List (List (Nat × mx_I)) := [mt_184_0]
def mt_185_0 : List (Nat × mx_I) := [(0, 2, 0, 1, []), (1, 0, 40, 2, []), (3, 42, 48, 0, []), (6, 2, 0, 1, []), (7, 0, 41, 2, []), (9, 42, 48, 0, []), (12, 2, 0, 1, []), (13, 0, 59, 2, []), (15, 42, 48, 0, [])]
def mt_185_1 : List (Nat × mx_I) := [(18, 2, 0, 1, []), (19, 0, 43, 2, []), (21, 42, 48, 0, []), (24, 2, 0, 1, []), (25, 0, 45, 2, []), (27, 42, 48, 0, []), (30, 2, 0, 1, []), (31, 0, 42, 2, [])]
def mt_185_2 : List (Nat × mx_I) := [(33, 42, 48, 0, []), (36, 2, 0, 1, []), (37, 0, 60, 2, []), (39, 42, 48, 0, []), (42, 2, 0, 1, []), (43, 0, 61, 2, []), (45, 43, 52, 0, [])]
def mt_185_3 : List (Nat × mx_I) := [(48, 0, 1, 1, []), (49, 48, 53, 0, []), (52, 0, 0, 1, []), (53, 80, 2, 0, [])]
def mt_185 : List (List (Nat × mx_I)) := [mt_185_0, mt_185_1, mt_185_2, mt_185_3]
def mt_186_0 : List (Nat × mx_I) := [(0, 4, 0, 1, []), (1, 4, 0, 1, []), (2, 51, 12, 21, []), (5, 53, 12, 20, []), (8, 4, 0, 1, []), (9, 51, 12, 20, []), (12, 4, 0, 1, []), (13, 51, 12, 15, [])]
def mt_186_1 : List (Nat × mx_I) := [(16, 45, 60, 0, []), (19, 4, 0, 1, []), (20, 51, 12, 14, []), (23, 4, 0, 1, []), (24, 51, 12, 20, []), (27, 58, 1, 0, []), (28, 0, 32, 2, []), (30, 42, 47, 0, [])]
def mt_186_2 : List (Nat × mx_I) := [(33, 4, 0, 1, []), (34, 51, 12, 14, []), (37, 4, 0, 1, []), (38, 51, 12, 20, []), (41, 58, 1, 0, []), (42, 0, 10, 2, []), (44, 43, 60, 0, []), (47, 4, 0, 1, [])]
def mt_186_3 : List (Nat × mx_I) := [(48, 33, 0, 0, []), (49, 51, 12, 20, []), (52, 0, 1, 1, []), (53, 9, 0, 0, []), (54, 53, 12, 20, []), (57, 48, 8, 0, []), (60, 4, 0, 1, []), (61, 4, 0, 1, []), (62, 51, 12, 20, [])]
def mt_186_4 : List (Nat × mx_I) := [(65, 53, 12, 21, []), (68, 4, 0, 1, []), (69, 51, 12, 20, []), (72, 4, 0, 1, []), (73, 51, 12, 15, []), (76, 43, 85, 0, []), (79, 4, 0, 1, [])]
def mt_186_5 : List (Nat × mx_I) := [(80, 0, 0, 1, []), (81, 53, 12, 22, []), (84, 83, 0, 0, []), (85, 4, 0, 1, []), (86, 51, 12, 14, []), (89, 4, 0, 1, []), (90, 51, 12, 20, []), (93, 58, 1, 0, []), (94, 70, 183, 1, [])]
def mt_186_6 : List (Nat × mx_I) := [(97, 36, 145, 0, []), (100, 4, 0, 1, []), (101, 51, 12, 21, []), (104, 4, 0, 1, []), (105, 51, 12, 15, []), (108, 45, 139, 0, []), (111, 4, 0, 1, [])]
def mt_186_7 : List (Nat × mx_I) := [(112, 51, 12, 14, []), (115, 4, 0, 1, []), (116, 51, 12, 21, []), (119, 58, 1, 0, []), (120, 70, 183, 1, []), (123, 36, 139, 0, []), (126, 4, 0, 1, []), (127, 33, 0, 0, [])]
def mt_186_8 : List (Nat × mx_I) := [(128, 51, 12, 21, []), (131, 0, 1, 1, []), (132, 9, 0, 0, []), (133, 53, 12, 21, []), (136, 48, 100, 0, []), (139, 4, 0, 1, []), (140, 0, 1, 1, []), (141, 53, 12, 22, [])]
def mt_186_9 : List (Nat × mx_I) := [(144, 83, 0, 0, []), (145, 4, 0, 1, []), (146, 51, 12, 14, []), (149, 4, 0, 1, []), (150, 51, 12, 20, []), (153, 58, 1, 0, []), (154, 70, 184, 1, []), (157, 36, 271, 0, [])]
def mt_186_10 : List (Nat × mx_I) := [(160, 4, 0, 1, []), (161, 0, 0, 1, []), (162, 53, 12, 23, []), (165, 4, 0, 1, []), (166, 51, 12, 21, []), (169, 4, 0, 1, []), (170, 51, 12, 15, []), (173, 45, 248, 0, [])]
def mt_186_11 : List (Nat × mx_I) := [(176, 4, 0, 1, []), (177, 51, 12, 14, []), (180, 4, 0, 1, []), (181, 51, 12, 21, []), (184, 58, 1, 0, []), (185, 70, 184, 1, []), (188, 36, 248, 0, []), (191, 4, 0, 1, [])]
def mt_186_12 : List (Nat × mx_I) := [(192, 4, 0, 1, []), (193, 51, 12, 21, []), (196, 4, 0, 1, []), (197, 51, 12, 20, []), (200, 10, 0, 0, []), (201, 0, 5, 1, []), (202, 45, 228, 0, []), (205, 0, 10, 2, []), (207, 4, 0, 1, [])]
def mt_186_13 : List (Nat × mx_I) := [(208, 51, 12, 23, []), (211, 11, 0, 0, []), (212, 4, 0, 1, []), (213, 51, 12, 14, []), (216, 4, 0, 1, []), (217, 51, 12, 21, []), (220, 58, 1, 0, []), (221, 9, 0, 0, []), (222, 0, 48, 2, [])]
def mt_186_14 : List (Nat × mx_I) := [(224, 10, 0, 0, []), (225, 48, 232, 0, []), (228, 4, 0, 1, []), (229, 51, 12, 23, []), (232, 53, 12, 23, []), (235, 4, 0, 1, []), (236, 33, 0, 0, []), (237, 51, 12, 21, [])]
def mt_186_15 : List (Nat × mx_I) := [(240, 0, 1, 1, []), (241, 9, 0, 0, []), (242, 53, 12, 21, []), (245, 48, 165, 0, []), (248, 4, 0, 1, []), (249, 4, 0, 1, []), (250, 51, 12, 21, []), (253, 4, 0, 1, []), (254, 51, 12, 20, [])]
def mt_186_16 : List (Nat × mx_I) := [(257, 10, 0, 0, []), (258, 0, 4, 1, []), (259, 47, 266, 0, []), (262, 0, 4294967295, 1, []), (263, 48, 267, 0, []), (266, 0, 2, 1, []), (267, 53, 12, 22, []), (270, 83, 0, 0, []), (271, 4, 0, 1, [])]
def mt_186_17 : List (Nat × mx_I) := [(272, 33, 0, 0, []), (273, 51, 12, 21, []), (276, 0, 1, 1, []), (277, 9, 0, 0, []), (278, 53, 12, 21, []), (281, 4, 0, 1, []), (282, 4, 0, 1, []), (283, 51, 12, 14, []), (286, 4, 0, 1, []), (287, 51, 12, 20, [])]
def mt_186_18 : List (Nat × mx_I) := [(290, 58, 1, 0, []), (291, 70, 185, 1, []), (294, 36, 309, 0, []), (297, 4, 0, 1, []), (298, 51, 12, 14, []), (301, 4, 0, 1, []), (302, 51, 12, 20, [])]
def mt_186_19 : List (Nat × mx_I) := [(305, 58, 1, 0, []), (306, 48, 310, 0, []), (309, 0, 4294967295, 1, []), (310, 53, 12, 22, []), (313, 83, 0, 0, [])]
def mt_186 : List (List (Nat × mx_I)) := [mt_186_0, mt_186_1, mt_186_2, mt_186_3, mt_186_4, mt_186_5, mt_186_6, mt_186_7, mt_186_8, mt_186_9, mt_186_10, mt_186_11, mt_186_12, mt_186_13, mt_186_14, mt_186_15, mt_186_16, mt_186_17, mt_186_18, mt_186_19]
def mt_187_0 : List (Nat × mx_I) := [(0, 4, 0, 1, []), (1, 51, 12, 22, []), (4, 0, 1, 1, []), (5, 43, 22, 0, []), (8, 4, 0, 1, []), (9, 51, 12, 21, []), (12, 4, 0, 1, []), (13, 51, 12, 20, [])]
def mt_187_1 : List (Nat × mx_I) := [(16, 10, 0, 0, []), (17, 0, 12, 2, []), (19, 47, 24, 0, []), (22, 0, 0, 1, []), (23, 80, 2, 0, []), (24, 1, 0, 1, []), (25, 6, 3, 1, []), (26, 4, 0, 1, []), (27, 51, 12, 20, []), (30, 5, 5, 2, [])]
def mt_187_2 : List (Nat × mx_I) := [(32, 2, 5, 2, []), (34, 4, 0, 1, []), (35, 51, 12, 21, []), (38, 45, 66, 0, []), (41, 1, 27, 3, []), (44, 3, 3, 1, []), (45, 21, 0, 0, []), (46, 4, 0, 1, []), (47, 51, 12, 14, [])]
def mt_187_3 : List (Nat × mx_I) := [(50, 2, 5, 2, []), (52, 58, 1, 0, []), (53, 28, 0, 0, []), (54, 19, 0, 0, []), (55, 1, 96, 3, []), (58, 20, 0, 0, []), (59, 6, 3, 1, []), (60, 8, 5, 1, []), (63, 48, 32, 0, [])]
def mt_187_4 : List (Nat × mx_I) := [(66, 3, 3, 1, []), (67, 3, 1, 1, []), (68, 27, 0, 0, []), (69, 37, 76, 0, []), (72, 0, 1, 1, []), (73, 48, 77, 0, []), (76, 0, 0, 1, []), (77, 80, 2, 0, [])]
def mt_187 : List (List (Nat × mx_I)) := [mt_187_0, mt_187_1, mt_187_2, mt_187_3, mt_187_4]
def mt_188_0 : List (Nat × mx_I) := [(0, 4, 0, 1, []), (1, 51, 12, 24, []), (4, 39, 15, 0, []), (7, 4, 0, 1, []), (8, 4, 0, 1, []), (9, 51, 12, 20, []), (12, 53, 12, 24, []), (15, 83, 0, 0, [])]
def mt_188 : List (List (Nat × mx_I)) := [mt_188_0]
def mt_189_0 : List (Nat × mx_I) := [(0, 4, 0, 1, []), (1, 51, 12, 18, []), (4, 0, 170, 3, []), (7, 4, 0, 1, []), (8, 51, 12, 16, []), (11, 11, 0, 0, []), (12, 4, 0, 1, []), (13, 51, 12, 26, [])]
def mt_189_1 : List (Nat × mx_I) := [(16, 9, 0, 0, []), (17, 2, 1, 1, []), (18, 59, 0, 0, []), (19, 4, 0, 1, []), (20, 51, 12, 19, []), (23, 0, 170, 3, []), (26, 4, 0, 1, []), (27, 51, 12, 16, []), (30, 11, 0, 0, []), (31, 4, 0, 1, [])]
def mt_189_2 : List (Nat × mx_I) := [(32, 51, 12, 26, []), (35, 9, 0, 0, []), (36, 2, 2, 1, []), (37, 59, 0, 0, []), (38, 4, 0, 1, []), (39, 33, 0, 0, []), (40, 51, 12, 26, []), (43, 0, 1, 1, []), (44, 9, 0, 0, []), (45, 53, 12, 26, [])]
def mt_189_3 : List (Nat × mx_I) := [(48, 83, 0, 0, [])]
def mt_189 : List (List (Nat × mx_I)) := [mt_189_0, mt_189_1, mt_189_2, mt_189_3]
def mt_190_0 : List (Nat × mx_I) := [(0, 4, 0, 1, []), (1, 51, 12, 25, []), (4, 0, 5, 1, []), (5, 43, 14, 0, []), (8, 4, 0, 1, []), (9, 70, 188, 1, [12]), (12, 0, 0, 1, []), (13, 80, 2, 0, []), (14, 4, 0, 1, []), (15, 33, 0, 0, [])]
def mt_190_1 : List (Nat × mx_I) := [(16, 51, 12, 25, []), (19, 0, 1, 1, []), (20, 9, 0, 0, []), (21, 53, 12, 25, []), (24, 4, 0, 1, []), (25, 70, 186, 1, [12]), (28, 0, 1, 1, []), (29, 80, 2, 0, [])]
def mt_190 : List (List (Nat × mx_I)) := [mt_190_0, mt_190_1]
def mt_191_0 : List (Nat × mx_I) := [(0, 0, 0, 1, []), (1, 5, 1, 1, []), (2, 2, 1, 1, []), (3, 0, 6, 2, []), (5, 45, 28, 0, []), (8, 4, 0, 1, []), (9, 55, 12, 0, []), (12, 2, 1, 1, []), (13, 58, 3, 0, []), (14, 70, 187, 2, [12])]
def mt_191_1 : List (Nat × mx_I) := [(17, 36, 22, 0, []), (20, 2, 1, 1, []), (21, 80, 0, 0, []), (22, 8, 1, 1, []), (25, 48, 2, 0, []), (28, 0, 4294967295, 1, []), (29, 80, 0, 0, [])]
def mt_191 : List (List (Nat × mx_I)) := [mt_191_0, mt_191_1]
def mt_192_0 : List (Nat × mx_I) := [(0, 4, 0, 1, []), (1, 51, 12, 22, []), (4, 0, 2, 1, []), (5, 43, 24, 0, []), (8, 4, 0, 1, []), (9, 0, 1, 1, []), (10, 4, 0, 1, []), (11, 51, 12, 23, []), (14, 70, 189, 3, [12])]
def mt_192_1 : List (Nat × mx_I) := [(17, 4, 0, 1, []), (18, 70, 186, 1, [12]), (21, 48, 151, 0, []), (24, 4, 0, 1, []), (25, 51, 12, 22, []), (28, 0, 45, 2, []), (30, 43, 64, 0, [])]
def mt_192_2 : List (Nat × mx_I) := [(33, 4, 0, 1, []), (34, 70, 190, 1, [12]), (37, 37, 41, 0, []), (40, 83, 0, 0, []), (41, 4, 0, 1, []), (42, 70, 192, 1, [12]), (45, 4, 0, 1, []), (46, 33, 0, 0, []), (47, 51, 12, 25, [])]
def mt_192_3 : List (Nat × mx_I) := [(50, 0, 1, 1, []), (51, 10, 0, 0, []), (52, 53, 12, 25, []), (55, 4, 0, 1, []), (56, 0, 4, 1, []), (57, 0, 0, 1, []), (58, 70, 189, 3, [12]), (61, 48, 151, 0, [])]
def mt_192_4 : List (Nat × mx_I) := [(64, 4, 0, 1, []), (65, 51, 12, 22, []), (68, 0, 40, 2, []), (70, 43, 124, 0, []), (73, 4, 0, 1, []), (74, 70, 190, 1, [12]), (77, 37, 81, 0, [])]
def mt_192_5 : List (Nat × mx_I) := [(80, 83, 0, 0, []), (81, 4, 0, 1, []), (82, 70, 197, 1, [12]), (85, 4, 0, 1, []), (86, 51, 12, 24, []), (89, 38, 93, 0, []), (92, 83, 0, 0, []), (93, 4, 0, 1, []), (94, 51, 12, 22, [])]
def mt_192_6 : List (Nat × mx_I) := [(97, 0, 41, 2, []), (99, 42, 107, 0, []), (102, 4, 0, 1, []), (103, 70, 188, 1, [12]), (106, 83, 0, 0, []), (107, 4, 0, 1, []), (108, 33, 0, 0, []), (109, 51, 12, 25, [])]
def mt_192_7 : List (Nat × mx_I) := [(112, 0, 1, 1, []), (113, 10, 0, 0, []), (114, 53, 12, 25, []), (117, 4, 0, 1, []), (118, 70, 186, 1, [12]), (121, 48, 151, 0, []), (124, 4, 0, 1, []), (125, 70, 191, 1, [12])]
def mt_192_8 : List (Nat × mx_I) := [(128, 38, 147, 0, []), (131, 4, 0, 1, []), (132, 0, 2, 1, []), (133, 4, 0, 1, []), (134, 70, 191, 1, [12]), (137, 70, 189, 3, [12]), (140, 4, 0, 1, []), (141, 70, 186, 1, [12])]
def mt_192_9 : List (Nat × mx_I) := [(144, 48, 151, 0, []), (147, 4, 0, 1, []), (148, 70, 188, 1, [12]), (151, 83, 0, 0, [])]
def mt_192 : List (List (Nat × mx_I)) := [mt_192_0, mt_192_1, mt_192_2, mt_192_3, mt_192_4, mt_192_5, mt_192_6, mt_192_7, mt_192_8, mt_192_9]
def mt_193_0 : List (Nat × mx_I) := [(0, 4, 0, 1, []), (1, 70, 192, 1, [12]), (4, 4, 0, 1, []), (5, 51, 12, 24, []), (8, 39, 38, 0, []), (11, 4, 0, 1, []), (12, 51, 12, 22, []), (15, 0, 42, 2, [])]
def mt_193_1 : List (Nat × mx_I) := [(17, 43, 38, 0, []), (20, 4, 0, 1, []), (21, 70, 186, 1, [12]), (24, 4, 0, 1, []), (25, 70, 192, 1, [12]), (28, 4, 0, 1, []), (29, 0, 42, 2, []), (31, 0, 0, 1, [])]
def mt_193_2 : List (Nat × mx_I) := [(32, 70, 189, 3, [12]), (35, 48, 4, 0, []), (38, 83, 0, 0, [])]
def mt_193 : List (List (Nat × mx_I)) := [mt_193_0, mt_193_1, mt_193_2]
def mt_194_0 : List (Nat × mx_I) := [(0, 4, 0, 1, []), (1, 70, 193, 1, [12]), (4, 4, 0, 1, []), (5, 51, 12, 24, []), (8, 39, 51, 0, []), (11, 4, 0, 1, []), (12, 51, 12, 22, []), (15, 0, 43, 2, [])]
def mt_194_1 : List (Nat × mx_I) := [(17, 42, 29, 0, []), (20, 4, 0, 1, []), (21, 51, 12, 22, []), (24, 0, 45, 2, []), (26, 43, 51, 0, []), (29, 4, 0, 1, []), (30, 51, 12, 22, [])]
def mt_194_2 : List (Nat × mx_I) := [(33, 5, 1, 1, []), (34, 4, 0, 1, []), (35, 70, 186, 1, [12]), (38, 4, 0, 1, []), (39, 70, 193, 1, [12]), (42, 4, 0, 1, []), (43, 2, 1, 1, []), (44, 0, 0, 1, []), (45, 70, 189, 3, [12])]
def mt_194_3 : List (Nat × mx_I) := [(48, 48, 4, 0, []), (51, 83, 0, 0, [])]
def mt_194 : List (List (Nat × mx_I)) := [mt_194_0, mt_194_1, mt_194_2, mt_194_3]
def mt_195_0 : List (Nat × mx_I) := [(0, 4, 0, 1, []), (1, 1, 10631, 3, []), (4, 70, 187, 2, [12]), (7, 36, 39, 0, []), (10, 4, 0, 1, []), (11, 70, 190, 1, [12]), (14, 37, 18, 0, [])]
def mt_195_1 : List (Nat × mx_I) := [(17, 83, 0, 0, []), (18, 4, 0, 1, []), (19, 70, 195, 1, [12]), (22, 4, 0, 1, []), (23, 33, 0, 0, []), (24, 51, 12, 25, []), (27, 0, 1, 1, []), (28, 10, 0, 0, []), (29, 53, 12, 25, [])]
def mt_195_2 : List (Nat × mx_I) := [(32, 4, 0, 1, []), (33, 0, 3, 1, []), (34, 0, 0, 1, []), (35, 70, 189, 3, [12]), (38, 83, 0, 0, []), (39, 4, 0, 1, []), (40, 70, 194, 1, [12]), (43, 4, 0, 1, []), (44, 51, 12, 22, []), (47, 5, 1, 1, [])]
def mt_195_3 : List (Nat × mx_I) := [(48, 4, 0, 1, []), (49, 51, 12, 24, []), (52, 39, 67, 0, []), (55, 2, 1, 1, []), (56, 0, 60, 2, []), (58, 42, 68, 0, []), (61, 2, 1, 1, []), (62, 0, 61, 2, [])]
def mt_195_4 : List (Nat × mx_I) := [(64, 42, 68, 0, []), (67, 83, 0, 0, []), (68, 4, 0, 1, []), (69, 70, 186, 1, [12]), (72, 4, 0, 1, []), (73, 70, 194, 1, [12]), (76, 4, 0, 1, []), (77, 2, 1, 1, []), (78, 0, 0, 1, []), (79, 70, 189, 3, [12])]
def mt_195_5 : List (Nat × mx_I) := [(82, 83, 0, 0, [])]
def mt_195 : List (List (Nat × mx_I)) := [mt_195_0, mt_195_1, mt_195_2, mt_195_3, mt_195_4, mt_195_5]
def mt_196_0 : List (Nat × mx_I) := [(0, 4, 0, 1, []), (1, 70, 195, 1, [12]), (4, 4, 0, 1, []), (5, 51, 12, 24, []), (8, 39, 38, 0, []), (11, 4, 0, 1, []), (12, 1, 1111, 3, []), (15, 70, 187, 2, [12])]
def mt_196_1 : List (Nat × mx_I) := [(18, 36, 38, 0, []), (21, 4, 0, 1, []), (22, 70, 186, 1, [12]), (25, 4, 0, 1, []), (26, 70, 195, 1, [12]), (29, 4, 0, 1, []), (30, 0, 5, 1, []), (31, 0, 0, 1, [])]
def mt_196_2 : List (Nat × mx_I) := [(32, 70, 189, 3, [12]), (35, 48, 4, 0, []), (38, 83, 0, 0, [])]
def mt_196 : List (List (Nat × mx_I)) := [mt_196_0, mt_196_1, mt_196_2]
def mt_197_0 : List (Nat × mx_I) := [(0, 4, 0, 1, []), (1, 70, 196, 1, [12]), (4, 4, 0, 1, []), (5, 51, 12, 24, []), (8, 39, 39, 0, []), (11, 4, 0, 1, []), (12, 1, 423, 3, []), (15, 70, 187, 2, [12])]
def mt_197_1 : List (Nat × mx_I) := [(18, 36, 39, 0, []), (21, 4, 0, 1, []), (22, 70, 186, 1, [12]), (25, 4, 0, 1, []), (26, 70, 196, 1, [12]), (29, 4, 0, 1, []), (30, 0, 6, 2, [])]
def mt_197_2 : List (Nat × mx_I) := [(32, 0, 0, 1, []), (33, 70, 189, 3, [12]), (36, 48, 4, 0, []), (39, 83, 0, 0, [])]
def mt_197 : List (List (Nat × mx_I)) := [mt_197_0, mt_197_1, mt_197_2]
def mt_198_0 : List (Nat × mx_I) := [(0, 4, 0, 1, []), (1, 0, 4294967295, 1, []), (2, 53, 12, 24, []), (5, 4, 0, 1, []), (6, 0, 0, 1, []), (7, 53, 12, 25, []), (10, 4, 0, 1, []), (11, 0, 0, 1, []), (12, 53, 12, 26, []), (15, 4, 0, 1, [])]
def mt_198_1 : List (Nat × mx_I) := [(16, 0, 0, 1, []), (17, 53, 12, 21, []), (20, 4, 0, 1, []), (21, 70, 186, 1, [12]), (24, 0, 0, 1, []), (25, 5, 1, 1, []), (26, 2, 1, 1, []), (27, 0, 4, 1, []), (28, 45, 118, 0, []), (31, 4, 0, 1, [])]
def mt_198_2 : List (Nat × mx_I) := [(32, 51, 12, 24, []), (35, 39, 118, 0, []), (38, 4, 0, 1, []), (39, 55, 11, 0, []), (42, 2, 1, 1, []), (43, 58, 3, 0, []), (44, 70, 187, 2, [12]), (47, 37, 57, 0, [])]
def mt_198_3 : List (Nat × mx_I) := [(50, 4, 0, 1, []), (51, 70, 188, 1, [12]), (54, 48, 118, 0, []), (57, 4, 0, 1, []), (58, 70, 186, 1, [12]), (61, 4, 0, 1, []), (62, 70, 197, 1, [12])]
def mt_198_4 : List (Nat × mx_I) := [(65, 4, 0, 1, []), (66, 51, 12, 24, []), (69, 38, 75, 0, []), (72, 48, 118, 0, []), (75, 4, 0, 1, []), (76, 51, 12, 22, []), (79, 0, 59, 2, [])]
def mt_198_5 : List (Nat × mx_I) := [(81, 42, 91, 0, []), (84, 4, 0, 1, []), (85, 70, 188, 1, [12]), (88, 48, 95, 0, []), (91, 4, 0, 1, []), (92, 70, 186, 1, [12]), (95, 4, 0, 1, [])]
def mt_198_6 : List (Nat × mx_I) := [(96, 51, 12, 17, []), (99, 0, 4, 1, []), (100, 4, 0, 1, []), (101, 51, 12, 16, []), (104, 11, 0, 0, []), (105, 2, 1, 1, []), (106, 9, 0, 0, []), (107, 4, 0, 1, []), (108, 51, 12, 26, []), (111, 59, 0, 0, [])]
def mt_198_7 : List (Nat × mx_I) := [(112, 8, 1, 1, []), (115, 48, 26, 0, []), (118, 4, 0, 1, []), (119, 51, 12, 24, []), (122, 39, 136, 0, []), (125, 4, 0, 1, []), (126, 51, 12, 22, [])]
def mt_198_8 : List (Nat × mx_I) := [(129, 36, 136, 0, []), (132, 4, 0, 1, []), (133, 70, 188, 1, [12]), (136, 4, 0, 1, []), (137, 0, 0, 1, []), (138, 53, 12, 15, []), (141, 4, 0, 1, []), (142, 51, 12, 24, [])]
def mt_198_9 : List (Nat × mx_I) := [(145, 38, 156, 0, []), (148, 0, 4294967196, 2, []), (150, 4, 0, 1, []), (151, 51, 12, 24, []), (154, 10, 0, 0, []), (155, 80, 0, 0, []), (156, 4, 0, 1, []), (157, 33, 0, 0, []), (158, 51, 12, 16, [])]
def mt_198_10 : List (Nat × mx_I) := [(161, 0, 1, 1, []), (162, 9, 0, 0, []), (163, 53, 12, 16, []), (166, 4, 0, 1, []), (167, 51, 12, 16, []), (170, 0, 1, 1, []), (171, 10, 0, 0, []), (172, 80, 0, 0, [])]
def mt_198 : List (List (Nat × mx_I)) := [mt_198_0, mt_198_1, mt_198_2, mt_198_3, mt_198_4, mt_198_5, mt_198_6, mt_198_7, mt_198_8, mt_198_9, mt_198_10]
def mt_199_0 : List (Nat × mx_I) := [(0, 4, 0, 1, []), (1, 51, 12, 16, []), (4, 0, 6, 2, []), (6, 43, 14, 0, []), (9, 0, 4294967292, 2, []), (11, 48, 18, 0, []), (14, 4, 0, 1, []), (15, 70, 198, 1, [12])]
def mt_199_1 : List (Nat × mx_I) := [(18, 80, 0, 0, [])]
def mt_199 : List (List (Nat × mx_I)) := [mt_199_0, mt_199_1]
def mt_200_0 : List (Nat × mx_I) := [(0, 2, 1, 1, []), (1, 0, 0, 1, []), (2, 4, 0, 1, []), (3, 51, 12, 16, []), (6, 0, 1, 1, []), (7, 10, 0, 0, []), (8, 70, 163, 3, []), (11, 36, 21, 0, []), (14, 2, 2, 1, []), (15, 70, 164, 1, [])]
def mt_200_1 : List (Nat × mx_I) := [(18, 37, 24, 0, []), (21, 0, 4294967294, 2, []), (23, 80, 0, 0, []), (24, 4, 0, 1, []), (25, 51, 12, 27, []), (28, 0, 20, 2, []), (30, 43, 36, 0, [])]
def mt_200_2 : List (Nat × mx_I) := [(33, 0, 4294967292, 2, []), (35, 80, 0, 0, []), (36, 4, 0, 1, []), (37, 51, 12, 28, []), (40, 4, 0, 1, []), (41, 51, 12, 27, []), (44, 2, 1, 1, []), (45, 59, 0, 0, []), (46, 4, 0, 1, []), (47, 51, 12, 29, [])]
def mt_200_3 : List (Nat × mx_I) := [(50, 4, 0, 1, []), (51, 51, 12, 27, []), (54, 2, 2, 1, []), (55, 59, 0, 0, []), (56, 4, 0, 1, []), (57, 33, 0, 0, []), (58, 51, 12, 27, []), (61, 0, 1, 1, []), (62, 9, 0, 0, []), (63, 53, 12, 27, [])]
def mt_200_4 : List (Nat × mx_I) := [(66, 4, 0, 1, []), (67, 51, 12, 27, []), (70, 80, 0, 0, [])]
def mt_200 : List (List (Nat × mx_I)) := [mt_200_0, mt_200_1, mt_200_2, mt_200_3, mt_200_4]
def mt_201_0 : List (Nat × mx_I) := [(0, 0, 4294967295, 1, []), (1, 5, 2, 1, []), (2, 0, 0, 1, []), (3, 5, 3, 1, []), (4, 2, 3, 1, []), (5, 4, 0, 1, []), (6, 51, 12, 27, []), (9, 45, 49, 0, []), (12, 4, 0, 1, []), (13, 51, 12, 29, [])]
def mt_201_1 : List (Nat × mx_I) := [(16, 2, 3, 1, []), (17, 58, 0, 0, []), (18, 2, 1, 1, []), (19, 46, 43, 0, []), (22, 2, 2, 1, []), (23, 38, 41, 0, []), (26, 4, 0, 1, []), (27, 51, 12, 29, []), (30, 2, 3, 1, []), (31, 58, 0, 0, [])]
def mt_201_2 : List (Nat × mx_I) := [(32, 4, 0, 1, []), (33, 51, 12, 29, []), (36, 2, 2, 1, []), (37, 58, 0, 0, []), (38, 44, 43, 0, []), (41, 2, 3, 1, []), (42, 5, 2, 1, []), (43, 8, 3, 1, []), (46, 48, 4, 0, [])]
def mt_201_3 : List (Nat × mx_I) := [(49, 2, 2, 1, []), (50, 39, 57, 0, []), (53, 0, 0, 1, []), (54, 48, 63, 0, []), (57, 4, 0, 1, []), (58, 51, 12, 28, []), (61, 2, 2, 1, []), (62, 58, 0, 0, []), (63, 80, 0, 0, [])]
def mt_201 : List (List (Nat × mx_I)) := [mt_201_0, mt_201_1, mt_201_2, mt_201_3]
def mt_202_0 : List (Nat × mx_I) := [(0, 2, 1, 1, []), (1, 70, 164, 1, []), (4, 36, 15, 0, []), (7, 4, 0, 1, []), (8, 2, 1, 1, []), (9, 70, 201, 2, [12]), (12, 48, 17, 0, []), (15, 0, 4294967294, 2, [])]
def mt_202_1 : List (Nat × mx_I) := [(17, 80, 0, 0, [])]
def mt_202 : List (List (Nat × mx_I)) := [mt_202_0, mt_202_1]
def mt_203_0 : List (Nat × mx_I) := [(0, 2, 0, 1, []), (1, 50, 108, 0, [5, 94, 42, 68, 43, 60, 45, 64, 60, 72, 61, 83])]
def mt_203_1 : List (Nat × mx_I) := []
def mt_203_2 : List (Nat × mx_I) := []
def mt_203_3 : List (Nat × mx_I) := [(60, 2, 1, 1, []), (61, 2, 2, 1, []), (62, 9, 0, 0, []), (63, 80, 0, 0, [])]
def mt_203_4 : List (Nat × mx_I) := [(64, 2, 1, 1, []), (65, 2, 2, 1, []), (66, 10, 0, 0, []), (67, 80, 0, 0, []), (68, 2, 1, 1, []), (69, 2, 2, 1, []), (70, 11, 0, 0, []), (71, 80, 0, 0, []), (72, 2, 1, 1, []), (73, 2, 2, 1, []), (74, 45, 81, 0, []), (77, 0, 1, 1, []), (78, 48, 82, 0, [])]
def mt_203_5 : List (Nat × mx_I) := [(81, 0, 0, 1, []), (82, 80, 0, 0, []), (83, 2, 1, 1, []), (84, 2, 2, 1, []), (85, 43, 92, 0, []), (88, 0, 1, 1, []), (89, 48, 93, 0, []), (92, 0, 0, 1, []), (93, 80, 0, 0, []), (94, 2, 1, 1, []), (95, 36, 106, 0, [])]
def mt_203_6 : List (Nat × mx_I) := [(98, 2, 2, 1, []), (99, 36, 106, 0, []), (102, 0, 1, 1, []), (103, 48, 107, 0, []), (106, 0, 0, 1, []), (107, 80, 0, 0, []), (108, 2, 1, 1, []), (109, 37, 116, 0, [])]
def mt_203_7 : List (Nat × mx_I) := [(112, 2, 2, 1, []), (113, 36, 120, 0, []), (116, 0, 1, 1, []), (117, 48, 121, 0, []), (120, 0, 0, 1, []), (121, 80, 0, 0, [])]
def mt_203 : List (List (Nat × mx_I)) := [mt_203_0, mt_203_1, mt_203_2, mt_203_3, mt_203_4, mt_203_5, mt_203_6, mt_203_7]
def mt_204_0 : List (Nat × mx_I) := [(0, 0, 0, 1, []), (1, 5, 3, 1, []), (2, 0, 170, 3, []), (5, 2, 1, 1, []), (6, 11, 0, 0, []), (7, 2, 2, 1, []), (8, 37, 15, 0, []), (11, 0, 0, 1, []), (12, 48, 27, 0, []), (15, 4, 0, 1, [])]
def mt_204_1 : List (Nat × mx_I) := [(16, 51, 12, 17, []), (19, 0, 4, 1, []), (20, 2, 1, 1, []), (21, 11, 0, 0, []), (22, 2, 2, 1, []), (23, 9, 0, 0, []), (24, 0, 1, 1, []), (25, 10, 0, 0, []), (26, 58, 0, 0, []), (27, 9, 0, 0, []), (28, 5, 4, 2, []), (30, 2, 4, 2, [])]
def mt_204_2 : List (Nat × mx_I) := [(32, 0, 170, 3, []), (35, 2, 1, 1, []), (36, 11, 0, 0, []), (37, 4, 0, 1, []), (38, 51, 12, 17, []), (41, 0, 4, 1, []), (42, 2, 1, 1, []), (43, 11, 0, 0, []), (44, 2, 2, 1, []), (45, 9, 0, 0, []), (46, 58, 0, 0, []), (47, 9, 0, 0, [])]
def mt_204_3 : List (Nat × mx_I) := [(48, 45, 207, 0, []), (51, 4, 0, 1, []), (52, 51, 12, 18, []), (55, 2, 4, 2, []), (57, 58, 0, 0, []), (58, 5, 5, 2, []), (60, 2, 5, 2, []), (62, 0, 1, 1, []), (63, 42, 72, 0, [])]
def mt_204_4 : List (Nat × mx_I) := [(66, 2, 5, 2, []), (68, 0, 2, 1, []), (69, 43, 112, 0, []), (72, 4, 0, 1, []), (73, 51, 12, 31, []), (76, 2, 3, 1, []), (77, 2, 5, 2, []), (79, 0, 1, 1, [])]
def mt_204_5 : List (Nat × mx_I) := [(80, 43, 93, 0, []), (83, 4, 0, 1, []), (84, 51, 12, 19, []), (87, 2, 4, 2, []), (89, 58, 0, 0, []), (90, 48, 105, 0, []), (93, 4, 0, 1, []), (94, 51, 12, 30, [])]
def mt_204_6 : List (Nat × mx_I) := [(97, 4, 0, 1, []), (98, 51, 12, 19, []), (101, 2, 4, 2, []), (103, 58, 0, 0, []), (104, 58, 0, 0, []), (105, 59, 0, 0, []), (106, 8, 3, 1, []), (109, 48, 201, 0, [])]
def mt_204_7 : List (Nat × mx_I) := [(112, 2, 5, 2, []), (114, 0, 3, 1, []), (115, 43, 145, 0, []), (118, 4, 0, 1, []), (119, 51, 12, 31, []), (122, 2, 3, 1, []), (123, 0, 1, 1, []), (124, 10, 0, 0, []), (125, 4, 0, 1, []), (126, 51, 12, 31, [])]
def mt_204_8 : List (Nat × mx_I) := [(129, 2, 3, 1, []), (130, 0, 1, 1, []), (131, 10, 0, 0, []), (132, 58, 0, 0, []), (133, 37, 140, 0, []), (136, 0, 1, 1, []), (137, 48, 141, 0, []), (140, 0, 0, 1, []), (141, 59, 0, 0, []), (142, 48, 201, 0, [])]
def mt_204_9 : List (Nat × mx_I) := [(145, 2, 5, 2, []), (147, 0, 4, 1, []), (148, 43, 171, 0, []), (151, 4, 0, 1, []), (152, 51, 12, 31, []), (155, 2, 3, 1, []), (156, 0, 1, 1, []), (157, 10, 0, 0, []), (158, 4, 0, 1, []), (159, 51, 12, 31, [])]
def mt_204_10 : List (Nat × mx_I) := [(162, 2, 3, 1, []), (163, 0, 1, 1, []), (164, 10, 0, 0, []), (165, 58, 0, 0, []), (166, 16, 0, 0, []), (167, 59, 0, 0, []), (168, 48, 201, 0, []), (171, 8, 3, 4294967295, []), (174, 4, 0, 1, []), (175, 51, 12, 31, [])]
def mt_204_11 : List (Nat × mx_I) := [(178, 2, 3, 1, []), (179, 0, 1, 1, []), (180, 10, 0, 0, []), (181, 2, 5, 2, []), (183, 4, 0, 1, []), (184, 51, 12, 31, []), (187, 2, 3, 1, []), (188, 0, 1, 1, []), (189, 10, 0, 0, []), (190, 58, 0, 0, []), (191, 4, 0, 1, [])]
def mt_204_12 : List (Nat × mx_I) := [(192, 51, 12, 31, []), (195, 2, 3, 1, []), (196, 58, 0, 0, []), (197, 70, 203, 3, []), (200, 59, 0, 0, []), (201, 8, 4, 1, []), (204, 48, 30, 0, []), (207, 4, 0, 1, [])]
def mt_204_13 : List (Nat × mx_I) := [(208, 51, 12, 31, []), (211, 0, 0, 1, []), (212, 58, 0, 0, []), (213, 80, 0, 0, [])]
def mt_204 : List (List (Nat × mx_I)) := [mt_204_0, mt_204_1, mt_204_2, mt_204_3, mt_204_4, mt_204_5, mt_204_6, mt_204_7, mt_204_8, mt_204_9, mt_204_10, mt_204_11, mt_204_12, mt_204_13]
def mt_205_0 : List (Nat × mx_I) := [(0, 4, 0, 1, []), (1, 51, 12, 30, []), (4, 0, 0, 1, []), (5, 2, 1, 1, []), (6, 59, 0, 0, []), (7, 4, 0, 1, []), (8, 51, 12, 30, []), (11, 0, 1, 1, []), (12, 2, 2, 1, []), (13, 59, 0, 0, []), (14, 4, 0, 1, []), (15, 51, 12, 30, [])]
def mt_205_1 : List (Nat × mx_I) := [(18, 0, 2, 1, []), (19, 2, 3, 1, []), (20, 59, 0, 0, []), (21, 4, 0, 1, []), (22, 51, 12, 30, []), (25, 0, 3, 1, []), (26, 2, 4, 2, []), (28, 59, 0, 0, []), (29, 4, 0, 1, []), (30, 51, 12, 30, [])]
def mt_205_2 : List (Nat × mx_I) := [(33, 0, 4, 1, []), (34, 2, 5, 2, []), (36, 59, 0, 0, []), (37, 4, 0, 1, []), (38, 51, 12, 30, []), (41, 0, 5, 1, []), (42, 2, 6, 2, []), (44, 59, 0, 0, []), (45, 83, 0, 0, [])]
def mt_205 : List (List (Nat × mx_I)) := [mt_205_0, mt_205_1, mt_205_2]
def mt_206_0 : List (Nat × mx_I) := [(0, 4, 0, 1, []), (1, 2, 1, 1, []), (2, 70, 166, 2, [12]), (5, 36, 25, 0, []), (8, 2, 2, 1, []), (9, 0, 1, 1, []), (10, 0, 99, 2, []), (12, 70, 163, 3, []), (15, 36, 25, 0, [])]
def mt_206_1 : List (Nat × mx_I) := [(18, 2, 3, 1, []), (19, 70, 164, 1, []), (22, 37, 28, 0, []), (25, 0, 4294967294, 2, []), (27, 80, 0, 0, []), (28, 4, 0, 1, []), (29, 51, 12, 32, [])]
def mt_206_2 : List (Nat × mx_I) := [(32, 0, 30, 2, []), (34, 43, 40, 0, []), (37, 0, 4294967292, 2, []), (39, 80, 0, 0, []), (40, 4, 0, 1, []), (41, 51, 12, 33, []), (44, 4, 0, 1, []), (45, 51, 12, 32, [])]
def mt_206_3 : List (Nat × mx_I) := [(48, 2, 1, 1, []), (49, 59, 0, 0, []), (50, 4, 0, 1, []), (51, 51, 12, 34, []), (54, 4, 0, 1, []), (55, 51, 12, 32, []), (58, 2, 2, 1, []), (59, 59, 0, 0, []), (60, 4, 0, 1, []), (61, 51, 12, 35, [])]
def mt_206_4 : List (Nat × mx_I) := [(64, 4, 0, 1, []), (65, 51, 12, 32, []), (68, 2, 3, 1, []), (69, 59, 0, 0, []), (70, 4, 0, 1, []), (71, 33, 0, 0, []), (72, 51, 12, 32, []), (75, 0, 1, 1, []), (76, 9, 0, 0, []), (77, 53, 12, 32, [])]
def mt_206_5 : List (Nat × mx_I) := [(80, 4, 0, 1, []), (81, 51, 12, 32, []), (84, 80, 0, 0, [])]
def mt_206 : List (List (Nat × mx_I)) := [mt_206_0, mt_206_1, mt_206_2, mt_206_3, mt_206_4, mt_206_5]
def mt_207_0 : List (Nat × mx_I) := [(0, 4, 0, 1, []), (1, 51, 12, 6, []), (4, 2, 1, 1, []), (5, 58, 0, 0, []), (6, 70, 172, 1, []), (9, 36, 31, 0, []), (12, 4, 0, 1, []), (13, 51, 12, 9, [])]
def mt_207_1 : List (Nat × mx_I) := [(16, 2, 1, 1, []), (17, 58, 0, 0, []), (18, 2, 2, 1, []), (19, 46, 31, 0, []), (22, 4, 0, 1, []), (23, 2, 1, 1, []), (24, 2, 2, 1, []), (25, 70, 179, 3, [12]), (28, 48, 32, 0, []), (31, 0, 4294967295, 1, [])]
def mt_207_2 : List (Nat × mx_I) := [(32, 80, 0, 0, [])]
def mt_207 : List (List (Nat × mx_I)) := [mt_207_0, mt_207_1, mt_207_2]
def mt_208_0 : List (Nat × mx_I) := [(0, 4, 0, 1, []), (1, 51, 12, 7, []), (4, 2, 2, 1, []), (5, 58, 0, 0, []), (6, 2, 1, 1, []), (7, 42, 20, 0, []), (10, 4, 0, 1, []), (11, 51, 12, 8, []), (14, 2, 2, 1, []), (15, 58, 0, 0, [])]
def mt_208_1 : List (Nat × mx_I) := [(16, 2, 1, 1, []), (17, 43, 24, 0, []), (20, 0, 1, 1, []), (21, 48, 25, 0, []), (24, 0, 0, 1, []), (25, 80, 2, 0, [])]
def mt_208 : List (List (Nat × mx_I)) := [mt_208_0, mt_208_1]
def mt_209_0 : List (Nat × mx_I) := [(0, 2, 1, 1, []), (1, 36, 11, 0, []), (4, 2, 0, 1, []), (5, 0, 100, 2, []), (7, 14, 0, 0, []), (8, 48, 15, 0, []), (11, 2, 0, 1, []), (12, 0, 100, 2, []), (14, 15, 0, 0, []), (15, 80, 0, 0, [])]
def mt_209 : List (List (Nat × mx_I)) := [mt_209_0]
def mt_210_0 : List (Nat × mx_I) := [(0, 2, 3, 1, []), (1, 4, 0, 1, []), (2, 51, 12, 7, []), (5, 2, 1, 1, []), (6, 58, 0, 0, []), (7, 2, 2, 1, []), (8, 43, 15, 0, []), (11, 0, 1, 1, []), (12, 48, 16, 0, []), (15, 0, 0, 1, [])]
def mt_210_1 : List (Nat × mx_I) := [(16, 70, 209, 2, []), (19, 5, 4, 2, []), (21, 2, 3, 1, []), (22, 4, 0, 1, []), (23, 51, 12, 7, []), (26, 2, 1, 1, []), (27, 58, 0, 0, []), (28, 2, 2, 1, []), (29, 42, 36, 0, [])]
def mt_210_2 : List (Nat × mx_I) := [(32, 0, 1, 1, []), (33, 48, 37, 0, []), (36, 0, 0, 1, []), (37, 70, 209, 2, []), (40, 5, 5, 2, []), (42, 2, 4, 2, []), (44, 2, 5, 2, []), (46, 45, 51, 0, [])]
def mt_210_3 : List (Nat × mx_I) := [(49, 0, 0, 1, []), (50, 80, 0, 0, []), (51, 4, 0, 1, []), (52, 2, 4, 2, []), (54, 2, 5, 2, []), (56, 10, 0, 0, []), (57, 2, 4, 2, []), (59, 0, 0, 1, []), (60, 0, 0, 1, []), (61, 4, 0, 1, []), (62, 51, 12, 6, [])]
def mt_210_4 : List (Nat × mx_I) := [(65, 2, 1, 1, []), (66, 58, 0, 0, []), (67, 4, 0, 1, []), (68, 51, 12, 6, []), (71, 2, 1, 1, []), (72, 58, 0, 0, []), (73, 0, 2, 1, []), (74, 42, 87, 0, []), (77, 4, 0, 1, []), (78, 51, 12, 6, [])]
def mt_210_5 : List (Nat × mx_I) := [(81, 2, 1, 1, []), (82, 58, 0, 0, []), (83, 0, 4, 1, []), (84, 43, 91, 0, []), (87, 0, 1, 1, []), (88, 48, 92, 0, []), (91, 0, 0, 1, []), (92, 70, 205, 7, [12]), (95, 4, 0, 1, [])]
def mt_210_6 : List (Nat × mx_I) := [(96, 4, 0, 1, []), (97, 4, 0, 1, []), (98, 51, 12, 9, []), (101, 2, 1, 1, []), (102, 58, 0, 0, []), (103, 70, 201, 2, [12]), (106, 2, 4, 2, []), (108, 2, 5, 2, []), (110, 47, 117, 0, [])]
def mt_210_7 : List (Nat × mx_I) := [(113, 0, 0, 1, []), (114, 48, 118, 0, []), (117, 0, 1, 1, []), (118, 70, 204, 3, [12]), (121, 80, 0, 0, [])]
def mt_210 : List (List (Nat × mx_I)) := [mt_210_0, mt_210_1, mt_210_2, mt_210_3, mt_210_4, mt_210_5, mt_210_6, mt_210_7]
def mt_211_0 : List (Nat × mx_I) := [(0, 1, 0, 1, []), (1, 6, 3, 1, []), (2, 0, 0, 1, []), (3, 5, 5, 2, []), (5, 2, 5, 2, []), (7, 4, 0, 1, []), (8, 51, 12, 5, []), (11, 45, 58, 0, []), (14, 4, 0, 1, []), (15, 2, 1, 1, [])]
def mt_211_1 : List (Nat × mx_I) := [(16, 2, 5, 2, []), (18, 70, 208, 3, [12]), (21, 36, 52, 0, []), (24, 4, 0, 1, []), (25, 2, 5, 2, []), (27, 2, 2, 1, []), (28, 70, 207, 3, [12]), (31, 38, 52, 0, [])]
def mt_211_2 : List (Nat × mx_I) := [(34, 3, 3, 1, []), (35, 4, 0, 1, []), (36, 2, 5, 2, []), (38, 2, 1, 1, []), (39, 4, 0, 1, []), (40, 2, 5, 2, []), (42, 2, 2, 1, []), (43, 70, 207, 3, [12]), (46, 70, 210, 4, [12])]
def mt_211_3 : List (Nat × mx_I) := [(49, 28, 0, 0, []), (50, 19, 0, 0, []), (51, 6, 3, 1, []), (52, 8, 5, 1, []), (55, 48, 5, 0, []), (58, 0, 0, 1, []), (59, 5, 5, 2, []), (61, 2, 5, 2, []), (63, 4, 0, 1, [])]
def mt_211_4 : List (Nat × mx_I) := [(64, 51, 12, 32, []), (67, 45, 109, 0, []), (70, 4, 0, 1, []), (71, 51, 12, 33, []), (74, 2, 5, 2, []), (76, 58, 0, 0, []), (77, 2, 1, 1, []), (78, 43, 103, 0, [])]
def mt_211_5 : List (Nat × mx_I) := [(81, 4, 0, 1, []), (82, 51, 12, 35, []), (85, 2, 5, 2, []), (87, 58, 0, 0, []), (88, 2, 2, 1, []), (89, 46, 103, 0, []), (92, 3, 3, 1, []), (93, 4, 0, 1, []), (94, 51, 12, 34, [])]
def mt_211_6 : List (Nat × mx_I) := [(97, 2, 5, 2, []), (99, 58, 0, 0, []), (100, 28, 0, 0, []), (101, 20, 0, 0, []), (102, 6, 3, 1, []), (103, 8, 5, 1, []), (106, 48, 61, 0, []), (109, 3, 3, 1, []), (110, 81, 0, 0, [])]
def mt_211 : List (List (Nat × mx_I)) := [mt_211_0, mt_211_1, mt_211_2, mt_211_3, mt_211_4, mt_211_5, mt_211_6]
def mt_212_0 : List (Nat × mx_I) := [(0, 2, 3, 1, []), (1, 4, 0, 1, []), (2, 51, 12, 7, []), (5, 2, 2, 1, []), (6, 58, 0, 0, []), (7, 2, 1, 1, []), (8, 43, 15, 0, []), (11, 0, 1, 1, []), (12, 48, 16, 0, []), (15, 0, 0, 1, [])]
def mt_212_1 : List (Nat × mx_I) := [(16, 70, 209, 2, []), (19, 5, 4, 2, []), (21, 2, 3, 1, []), (22, 4, 0, 1, []), (23, 51, 12, 7, []), (26, 2, 2, 1, []), (27, 58, 0, 0, []), (28, 2, 1, 1, []), (29, 42, 36, 0, [])]
def mt_212_2 : List (Nat × mx_I) := [(32, 0, 1, 1, []), (33, 48, 37, 0, []), (36, 0, 0, 1, []), (37, 70, 209, 2, []), (40, 5, 5, 2, []), (42, 4, 0, 1, []), (43, 51, 12, 36, []), (46, 2, 1, 1, []), (47, 35, 0, 0, [])]
def mt_212_3 : List (Nat × mx_I) := [(48, 58, 0, 0, []), (49, 2, 4, 2, []), (51, 2, 5, 2, []), (53, 10, 0, 0, []), (54, 9, 0, 0, []), (55, 59, 0, 0, []), (56, 4, 0, 1, []), (57, 51, 12, 37, []), (60, 2, 1, 1, []), (61, 35, 0, 0, []), (62, 58, 0, 0, []), (63, 2, 4, 2, [])]
def mt_212_4 : List (Nat × mx_I) := [(65, 9, 0, 0, []), (66, 59, 0, 0, []), (67, 4, 0, 1, []), (68, 51, 12, 38, []), (71, 2, 1, 1, []), (72, 35, 0, 0, []), (73, 58, 0, 0, []), (74, 2, 4, 2, []), (76, 2, 5, 2, []), (78, 47, 85, 0, [])]
def mt_212_5 : List (Nat × mx_I) := [(81, 0, 1, 1, []), (82, 48, 86, 0, []), (85, 0, 0, 1, []), (86, 9, 0, 0, []), (87, 59, 0, 0, []), (88, 83, 0, 0, [])]
def mt_212 : List (List (Nat × mx_I)) := [mt_212_0, mt_212_1, mt_212_2, mt_212_3, mt_212_4, mt_212_5]
def mt_213_0 : List (Nat × mx_I) := [(0, 4, 0, 1, []), (1, 4, 0, 1, []), (2, 51, 12, 36, []), (5, 2, 1, 1, []), (6, 58, 0, 0, []), (7, 4, 0, 1, []), (8, 51, 12, 37, []), (11, 2, 1, 1, []), (12, 58, 0, 0, []), (13, 4, 0, 1, []), (14, 51, 12, 38, [])]
def mt_213_1 : List (Nat × mx_I) := [(17, 2, 1, 1, []), (18, 58, 0, 0, []), (19, 0, 0, 1, []), (20, 0, 0, 1, []), (21, 0, 0, 1, []), (22, 70, 205, 7, [12]), (25, 4, 0, 1, []), (26, 4, 0, 1, []), (27, 2, 2, 1, []), (28, 70, 201, 2, [12]), (31, 0, 2, 1, [])]
def mt_213_2 : List (Nat × mx_I) := [(32, 70, 204, 3, [12]), (35, 28, 0, 0, []), (36, 81, 0, 0, [])]
def mt_213 : List (List (Nat × mx_I)) := [mt_213_0, mt_213_1, mt_213_2]
def mt_214_0 : List (Nat × mx_I) := [(0, 4, 0, 1, []), (1, 51, 12, 36, []), (4, 2, 1, 1, []), (5, 0, 0, 1, []), (6, 59, 0, 0, []), (7, 4, 0, 1, []), (8, 51, 12, 37, []), (11, 2, 1, 1, []), (12, 0, 0, 1, []), (13, 59, 0, 0, []), (14, 4, 0, 1, []), (15, 51, 12, 38, [])]
def mt_214_1 : List (Nat × mx_I) := [(18, 2, 1, 1, []), (19, 0, 0, 1, []), (20, 59, 0, 0, []), (21, 0, 0, 1, []), (22, 5, 3, 1, []), (23, 2, 3, 1, []), (24, 4, 0, 1, []), (25, 51, 12, 5, []), (28, 45, 67, 0, []), (31, 4, 0, 1, [])]
def mt_214_2 : List (Nat × mx_I) := [(32, 2, 1, 1, []), (33, 2, 3, 1, []), (34, 70, 208, 3, [12]), (37, 36, 61, 0, []), (40, 4, 0, 1, []), (41, 2, 3, 1, []), (42, 2, 2, 1, []), (43, 70, 207, 3, [12]), (46, 38, 61, 0, [])]
def mt_214_3 : List (Nat × mx_I) := [(49, 4, 0, 1, []), (50, 2, 1, 1, []), (51, 2, 3, 1, []), (52, 4, 0, 1, []), (53, 2, 3, 1, []), (54, 2, 2, 1, []), (55, 70, 207, 3, [12]), (58, 70, 212, 4, [12]), (61, 8, 3, 1, [])]
def mt_214_4 : List (Nat × mx_I) := [(64, 48, 23, 0, []), (67, 4, 0, 1, []), (68, 2, 1, 1, []), (69, 2, 2, 1, []), (70, 70, 213, 3, [12]), (73, 81, 0, 0, [])]
def mt_214 : List (List (Nat × mx_I)) := [mt_214_0, mt_214_1, mt_214_2, mt_214_3, mt_214_4]
def mt_215_0 : List (Nat × mx_I) := [(0, 4, 0, 1, []), (1, 2, 1, 1, []), (2, 70, 166, 2, [12]), (5, 36, 29, 0, []), (8, 2, 2, 1, []), (9, 0, 0, 1, []), (10, 4, 0, 1, []), (11, 51, 12, 1, []), (14, 70, 163, 3, [])]
def mt_215_1 : List (Nat × mx_I) := [(17, 36, 29, 0, []), (20, 4, 0, 1, []), (21, 2, 1, 1, []), (22, 2, 2, 1, []), (23, 70, 211, 3, [12]), (26, 48, 32, 0, []), (29, 1, 13835058055282163712, 3, [])]
def mt_215_2 : List (Nat × mx_I) := [(32, 81, 0, 0, [])]
def mt_215 : List (List (Nat × mx_I)) := [mt_215_0, mt_215_1, mt_215_2]
def mt_216_0 : List (Nat × mx_I) := [(0, 4, 0, 1, []), (1, 2, 1, 1, []), (2, 70, 166, 2, [12]), (5, 36, 29, 0, []), (8, 2, 2, 1, []), (9, 0, 0, 1, []), (10, 4, 0, 1, []), (11, 51, 12, 1, []), (14, 70, 163, 3, [])]
def mt_216_1 : List (Nat × mx_I) := [(17, 36, 29, 0, []), (20, 4, 0, 1, []), (21, 2, 1, 1, []), (22, 2, 2, 1, []), (23, 70, 214, 3, [12]), (26, 48, 32, 0, []), (29, 1, 13835058055282163712, 3, [])]
def mt_216_2 : List (Nat × mx_I) := [(32, 81, 0, 0, [])]
def mt_216 : List (List (Nat × mx_I)) := [mt_216_0, mt_216_1, mt_216_2]
def mt_217_0 : List (Nat × mx_I) := [(0, 0, 0, 1, []), (1, 5, 3, 1, []), (2, 2, 3, 1, []), (3, 4, 0, 1, []), (4, 51, 12, 2, []), (7, 45, 53, 0, []), (10, 4, 0, 1, []), (11, 51, 12, 3, []), (14, 2, 3, 1, []), (15, 58, 0, 0, [])]
def mt_217_1 : List (Nat × mx_I) := [(16, 2, 1, 1, []), (17, 42, 23, 0, []), (20, 48, 47, 0, []), (23, 4, 0, 1, []), (24, 51, 12, 39, []), (27, 2, 3, 1, []), (28, 4, 0, 1, []), (29, 2, 3, 1, []), (30, 2, 2, 1, []), (31, 70, 211, 3, [12])]
def mt_217_2 : List (Nat × mx_I) := [(34, 60, 0, 0, []), (35, 4, 0, 1, []), (36, 51, 12, 40, []), (39, 2, 3, 1, []), (40, 4, 0, 1, []), (41, 2, 3, 1, []), (42, 2, 2, 1, []), (43, 70, 214, 3, [12]), (46, 60, 0, 0, []), (47, 8, 3, 1, [])]
def mt_217_3 : List (Nat × mx_I) := [(50, 48, 2, 0, []), (53, 83, 0, 0, [])]
def mt_217 : List (List (Nat × mx_I)) := [mt_217_0, mt_217_1, mt_217_2, mt_217_3]
def mt_218_0 : List (Nat × mx_I) := [(0, 4, 0, 1, []), (1, 51, 12, 39, []), (4, 2, 1, 1, []), (5, 58, 3, 0, []), (6, 4, 0, 1, []), (7, 51, 12, 39, []), (10, 2, 2, 1, []), (11, 58, 3, 0, []), (12, 27, 0, 0, []), (13, 36, 38, 0, [])]
def mt_218_1 : List (Nat × mx_I) := [(16, 4, 0, 1, []), (17, 51, 12, 39, []), (20, 2, 1, 1, []), (21, 58, 3, 0, []), (22, 4, 0, 1, []), (23, 51, 12, 39, []), (26, 2, 2, 1, []), (27, 58, 3, 0, []), (28, 27, 0, 0, []), (29, 41, 36, 0, [])]
def mt_218_2 : List (Nat × mx_I) := [(32, 0, 1, 1, []), (33, 48, 37, 0, []), (36, 0, 0, 1, []), (37, 80, 2, 0, []), (38, 4, 0, 1, []), (39, 51, 12, 40, []), (42, 2, 1, 1, []), (43, 58, 3, 0, []), (44, 4, 0, 1, []), (45, 51, 12, 40, [])]
def mt_218_3 : List (Nat × mx_I) := [(48, 2, 2, 1, []), (49, 58, 3, 0, []), (50, 27, 0, 0, []), (51, 36, 78, 0, []), (54, 4, 0, 1, []), (55, 51, 12, 40, []), (58, 2, 1, 1, []), (59, 58, 3, 0, []), (60, 4, 0, 1, []), (61, 51, 12, 40, [])]
def mt_218_4 : List (Nat × mx_I) := [(64, 2, 2, 1, []), (65, 58, 3, 0, []), (66, 27, 0, 0, []), (67, 41, 74, 0, []), (70, 0, 1, 1, []), (71, 48, 88, 0, []), (74, 0, 0, 1, []), (75, 48, 88, 0, []), (78, 2, 1, 1, []), (79, 2, 2, 1, [])]
def mt_218_5 : List (Nat × mx_I) := [(80, 45, 87, 0, []), (83, 0, 1, 1, []), (84, 48, 88, 0, []), (87, 0, 0, 1, []), (88, 80, 2, 0, [])]
def mt_218 : List (List (Nat × mx_I)) := [mt_218_0, mt_218_1, mt_218_2, mt_218_3, mt_218_4, mt_218_5]
def mt_219_0 : List (Nat × mx_I) := [(0, 0, 0, 1, []), (1, 5, 2, 1, []), (2, 0, 0, 1, []), (3, 5, 3, 1, []), (4, 2, 3, 1, []), (5, 4, 0, 1, []), (6, 51, 12, 2, []), (9, 45, 55, 0, []), (12, 2, 2, 1, []), (13, 2, 3, 1, []), (14, 2, 1, 1, []), (15, 42, 46, 0, [])]
def mt_219_1 : List (Nat × mx_I) := [(18, 4, 0, 1, []), (19, 51, 12, 3, []), (22, 2, 3, 1, []), (23, 58, 0, 0, []), (24, 4, 0, 1, []), (25, 51, 12, 3, []), (28, 2, 1, 1, []), (29, 58, 0, 0, []), (30, 43, 46, 0, [])]
def mt_219_2 : List (Nat × mx_I) := [(33, 4, 0, 1, []), (34, 2, 3, 1, []), (35, 2, 1, 1, []), (36, 70, 218, 3, [12]), (39, 36, 46, 0, []), (42, 0, 1, 1, []), (43, 48, 47, 0, []), (46, 0, 0, 1, []), (47, 9, 0, 0, [])]
def mt_219_3 : List (Nat × mx_I) := [(48, 5, 2, 1, []), (49, 8, 3, 1, []), (52, 48, 4, 0, []), (55, 2, 2, 1, []), (56, 80, 0, 0, [])]
def mt_219 : List (List (Nat × mx_I)) := [mt_219_0, mt_219_1, mt_219_2, mt_219_3]
def mt_220_0 : List (Nat × mx_I) := [(0, 2, 1, 1, []), (1, 70, 167, 1, []), (4, 36, 19, 0, []), (7, 2, 2, 1, []), (8, 0, 0, 1, []), (9, 4, 0, 1, []), (10, 51, 12, 1, []), (13, 70, 163, 3, [])]
def mt_220_1 : List (Nat × mx_I) := [(16, 37, 22, 0, []), (19, 0, 4294967294, 2, []), (21, 80, 0, 0, []), (22, 4, 0, 1, []), (23, 2, 1, 1, []), (24, 2, 2, 1, []), (25, 70, 217, 3, [12]), (28, 0, 0, 1, []), (29, 5, 4, 2, []), (31, 2, 4, 2, [])]
def mt_220_2 : List (Nat × mx_I) := [(33, 4, 0, 1, []), (34, 51, 12, 2, []), (37, 45, 70, 0, []), (40, 4, 0, 1, []), (41, 51, 12, 3, []), (44, 2, 4, 2, []), (46, 58, 0, 0, []), (47, 2, 1, 1, [])]
def mt_220_3 : List (Nat × mx_I) := [(48, 43, 64, 0, []), (51, 4, 0, 1, []), (52, 2, 4, 2, []), (54, 70, 219, 2, [12]), (57, 2, 3, 1, []), (58, 43, 64, 0, []), (61, 2, 4, 2, []), (63, 80, 0, 0, [])]
def mt_220_4 : List (Nat × mx_I) := [(64, 8, 4, 1, []), (67, 48, 31, 0, []), (70, 0, 4294967295, 1, []), (71, 80, 0, 0, [])]
def mt_220 : List (List (Nat × mx_I)) := [mt_220_0, mt_220_1, mt_220_2, mt_220_3, mt_220_4]
def mt_221_0 : List (Nat × mx_I) := [(0, 4, 0, 1, []), (1, 2, 1, 1, []), (2, 70, 166, 2, [12]), (5, 36, 20, 0, []), (8, 2, 2, 1, []), (9, 0, 0, 1, []), (10, 4, 0, 1, []), (11, 51, 12, 1, []), (14, 70, 163, 3, [])]
def mt_221_1 : List (Nat × mx_I) := [(17, 37, 23, 0, []), (20, 0, 4294967294, 2, []), (22, 80, 0, 0, []), (23, 4, 0, 1, []), (24, 4, 0, 1, []), (25, 51, 12, 3, []), (28, 2, 1, 1, []), (29, 58, 0, 0, []), (30, 2, 2, 1, []), (31, 70, 217, 3, [12])]
def mt_221_2 : List (Nat × mx_I) := [(34, 4, 0, 1, []), (35, 2, 1, 1, []), (36, 70, 219, 2, [12]), (39, 80, 0, 0, [])]
def mt_221 : List (List (Nat × mx_I)) := [mt_221_0, mt_221_1, mt_221_2]
def mt_222_0 : List (Nat × mx_I) := [(0, 2, 1, 1, []), (1, 0, 0, 1, []), (2, 4, 0, 1, []), (3, 51, 12, 41, []), (6, 0, 1, 1, []), (7, 10, 0, 0, []), (8, 70, 163, 3, []), (11, 80, 2, 0, [])]
def mt_222 : List (List (Nat × mx_I)) := [mt_222_0]
def mt_223_0 : List (Nat × mx_I) := [(0, 4, 0, 1, []), (1, 51, 12, 41, []), (4, 0, 20, 2, []), (6, 43, 12, 0, []), (9, 0, 4294967292, 2, []), (11, 80, 0, 0, []), (12, 4, 0, 1, []), (13, 33, 0, 0, []), (14, 51, 12, 41, [])]
def mt_223_1 : List (Nat × mx_I) := [(17, 0, 1, 1, []), (18, 9, 0, 0, []), (19, 53, 12, 41, []), (22, 4, 0, 1, []), (23, 51, 12, 41, []), (26, 0, 1, 1, []), (27, 10, 0, 0, []), (28, 80, 0, 0, [])]
def mt_223 : List (List (Nat × mx_I)) := [mt_223_0, mt_223_1]
def mt_224_0 : List (Nat × mx_I) := [(0, 4, 0, 1, []), (1, 2, 1, 1, []), (2, 70, 222, 2, [12]), (5, 36, 23, 0, []), (8, 4, 0, 1, []), (9, 2, 2, 1, []), (10, 70, 166, 2, [12]), (13, 36, 23, 0, [])]
def mt_224_1 : List (Nat × mx_I) := [(16, 2, 3, 1, []), (17, 70, 164, 1, []), (20, 37, 26, 0, []), (23, 0, 4294967294, 2, []), (25, 80, 0, 0, []), (26, 4, 0, 1, []), (27, 51, 12, 42, []), (30, 0, 40, 2, [])]
def mt_224_2 : List (Nat × mx_I) := [(32, 43, 38, 0, []), (35, 0, 4294967292, 2, []), (37, 80, 0, 0, []), (38, 4, 0, 1, []), (39, 51, 12, 43, []), (42, 4, 0, 1, []), (43, 51, 12, 42, []), (46, 2, 1, 1, []), (47, 59, 0, 0, [])]
def mt_224_3 : List (Nat × mx_I) := [(48, 4, 0, 1, []), (49, 51, 12, 44, []), (52, 4, 0, 1, []), (53, 51, 12, 42, []), (56, 2, 2, 1, []), (57, 59, 0, 0, []), (58, 4, 0, 1, []), (59, 51, 12, 45, []), (62, 4, 0, 1, []), (63, 51, 12, 42, [])]
def mt_224_4 : List (Nat × mx_I) := [(66, 2, 3, 1, []), (67, 59, 0, 0, []), (68, 4, 0, 1, []), (69, 33, 0, 0, []), (70, 51, 12, 42, []), (73, 0, 1, 1, []), (74, 9, 0, 0, []), (75, 53, 12, 42, []), (78, 4, 0, 1, []), (79, 51, 12, 42, [])]
def mt_224_5 : List (Nat × mx_I) := [(82, 80, 0, 0, [])]
def mt_224 : List (List (Nat × mx_I)) := [mt_224_0, mt_224_1, mt_224_2, mt_224_3, mt_224_4, mt_224_5]
def mt_225_0 : List (Nat × mx_I) := [(0, 0, 4294967295, 1, []), (1, 5, 3, 1, []), (2, 0, 0, 1, []), (3, 5, 4, 2, []), (5, 2, 4, 2, []), (7, 4, 0, 1, []), (8, 51, 12, 42, []), (11, 45, 65, 0, []), (14, 4, 0, 1, []), (15, 51, 12, 43, [])]
def mt_225_1 : List (Nat × mx_I) := [(18, 2, 4, 2, []), (20, 58, 0, 0, []), (21, 2, 1, 1, []), (22, 43, 59, 0, []), (25, 4, 0, 1, []), (26, 51, 12, 45, []), (29, 2, 4, 2, []), (31, 58, 0, 0, [])]
def mt_225_2 : List (Nat × mx_I) := [(32, 2, 2, 1, []), (33, 46, 59, 0, []), (36, 2, 3, 1, []), (37, 38, 56, 0, []), (40, 4, 0, 1, []), (41, 51, 12, 45, []), (44, 2, 4, 2, []), (46, 58, 0, 0, []), (47, 4, 0, 1, [])]
def mt_225_3 : List (Nat × mx_I) := [(48, 51, 12, 45, []), (51, 2, 3, 1, []), (52, 58, 0, 0, []), (53, 44, 59, 0, []), (56, 2, 4, 2, []), (58, 5, 3, 1, []), (59, 8, 4, 1, []), (62, 48, 5, 0, [])]
def mt_225_4 : List (Nat × mx_I) := [(65, 2, 3, 1, []), (66, 39, 73, 0, []), (69, 0, 4294967295, 1, []), (70, 48, 79, 0, []), (73, 4, 0, 1, []), (74, 51, 12, 44, []), (77, 2, 3, 1, []), (78, 58, 0, 0, []), (79, 80, 0, 0, [])]
def mt_225 : List (List (Nat × mx_I)) := [mt_225_0, mt_225_1, mt_225_2, mt_225_3, mt_225_4]
def mt_226_0 : List (Nat × mx_I) := [(0, 4, 0, 1, []), (1, 2, 1, 1, []), (2, 70, 222, 2, [12]), (5, 36, 24, 0, []), (8, 2, 2, 1, []), (9, 70, 164, 1, []), (12, 36, 24, 0, []), (15, 4, 0, 1, [])]
def mt_226_1 : List (Nat × mx_I) := [(16, 2, 1, 1, []), (17, 2, 2, 1, []), (18, 70, 225, 3, [12]), (21, 48, 26, 0, []), (24, 0, 4294967294, 2, []), (26, 80, 0, 0, [])]
def mt_226 : List (List (Nat × mx_I)) := [mt_226_0, mt_226_1]
def mt_227_0 : List (Nat × mx_I) := [(0, 4, 0, 1, []), (1, 2, 1, 1, []), (2, 70, 222, 2, [12]), (5, 36, 25, 0, []), (8, 4, 0, 1, []), (9, 2, 2, 1, []), (10, 70, 170, 2, [12]), (13, 36, 25, 0, [])]
def mt_227_1 : List (Nat × mx_I) := [(16, 2, 3, 1, []), (17, 0, 1, 1, []), (18, 0, 2, 1, []), (19, 70, 163, 3, []), (22, 37, 28, 0, []), (25, 0, 4294967294, 2, []), (27, 80, 0, 0, []), (28, 4, 0, 1, []), (29, 51, 12, 46, [])]
def mt_227_2 : List (Nat × mx_I) := [(32, 0, 40, 2, []), (34, 43, 40, 0, []), (37, 0, 4294967292, 2, []), (39, 80, 0, 0, []), (40, 4, 0, 1, []), (41, 51, 12, 47, []), (44, 4, 0, 1, []), (45, 51, 12, 46, [])]
def mt_227_3 : List (Nat × mx_I) := [(48, 2, 1, 1, []), (49, 59, 0, 0, []), (50, 4, 0, 1, []), (51, 51, 12, 48, []), (54, 4, 0, 1, []), (55, 51, 12, 46, []), (58, 2, 2, 1, []), (59, 59, 0, 0, []), (60, 4, 0, 1, []), (61, 51, 12, 49, [])]
def mt_227_4 : List (Nat × mx_I) := [(64, 4, 0, 1, []), (65, 51, 12, 46, []), (68, 2, 3, 1, []), (69, 59, 0, 0, []), (70, 4, 0, 1, []), (71, 33, 0, 0, []), (72, 51, 12, 46, []), (75, 0, 1, 1, []), (76, 9, 0, 0, []), (77, 53, 12, 46, [])]
def mt_227_5 : List (Nat × mx_I) := [(80, 4, 0, 1, []), (81, 51, 12, 46, []), (84, 0, 1, 1, []), (85, 10, 0, 0, []), (86, 80, 0, 0, [])]
def mt_227 : List (List (Nat × mx_I)) := [mt_227_0, mt_227_1, mt_227_2, mt_227_3, mt_227_4, mt_227_5]
def mt_228_0 : List (Nat × mx_I) := [(0, 0, 0, 1, []), (1, 5, 2, 1, []), (2, 0, 0, 1, []), (3, 5, 3, 1, []), (4, 2, 3, 1, []), (5, 2, 1, 1, []), (6, 46, 38, 0, []), (9, 2, 2, 1, []), (10, 4, 0, 1, []), (11, 51, 12, 47, []), (14, 2, 3, 1, []), (15, 58, 0, 0, [])]
def mt_228_1 : List (Nat × mx_I) := [(16, 4, 0, 1, []), (17, 51, 12, 47, []), (20, 2, 1, 1, []), (21, 58, 0, 0, []), (22, 43, 29, 0, []), (25, 0, 1, 1, []), (26, 48, 30, 0, []), (29, 0, 0, 1, []), (30, 9, 0, 0, []), (31, 5, 2, 1, [])]
def mt_228_2 : List (Nat × mx_I) := [(32, 8, 3, 1, []), (35, 48, 4, 0, []), (38, 4, 0, 1, []), (39, 0, 0, 1, []), (40, 0, 0, 1, []), (41, 0, 0, 1, []), (42, 2, 2, 1, []), (43, 4, 0, 1, []), (44, 51, 12, 49, []), (47, 2, 1, 1, [])]
def mt_228_3 : List (Nat × mx_I) := [(48, 58, 0, 0, []), (49, 0, 0, 1, []), (50, 70, 205, 7, [12]), (53, 4, 0, 1, []), (54, 4, 0, 1, []), (55, 4, 0, 1, []), (56, 51, 12, 9, []), (59, 4, 0, 1, []), (60, 51, 12, 48, []), (63, 2, 1, 1, [])]
def mt_228_4 : List (Nat × mx_I) := [(64, 58, 0, 0, []), (65, 58, 0, 0, []), (66, 70, 201, 2, [12]), (69, 0, 3, 1, []), (70, 70, 204, 3, [12]), (73, 5, 3, 1, []), (74, 2, 3, 1, []), (75, 39, 82, 0, []), (78, 0, 0, 1, []), (79, 48, 92, 0, [])]
def mt_228_5 : List (Nat × mx_I) := [(82, 2, 3, 1, []), (83, 0, 5, 1, []), (84, 47, 91, 0, []), (87, 0, 5, 1, []), (88, 48, 92, 0, []), (91, 2, 3, 1, []), (92, 80, 0, 0, [])]
def mt_228 : List (List (Nat × mx_I)) := [mt_228_0, mt_228_1, mt_228_2, mt_228_3, mt_228_4, mt_228_5]
def mt_229_0 : List (Nat × mx_I) := [(0, 2, 1, 1, []), (1, 0, 0, 1, []), (2, 4, 0, 1, []), (3, 51, 12, 46, []), (6, 0, 1, 1, []), (7, 10, 0, 0, []), (8, 70, 163, 3, []), (11, 36, 22, 0, []), (14, 4, 0, 1, []), (15, 2, 1, 1, [])]
def mt_229_1 : List (Nat × mx_I) := [(16, 70, 228, 2, [12]), (19, 48, 24, 0, []), (22, 0, 4294967294, 2, []), (24, 80, 0, 0, [])]
def mt_229 : List (List (Nat × mx_I)) := [mt_229_0, mt_229_1]
def mt_230_0 : List (Nat × mx_I) := [(0, 4, 0, 1, []), (1, 51, 12, 9, []), (4, 2, 1, 1, []), (5, 58, 0, 0, []), (6, 4, 0, 1, []), (7, 51, 12, 9, []), (10, 2, 2, 1, []), (11, 58, 0, 0, []), (12, 42, 38, 0, []), (15, 4, 0, 1, [])]
def mt_230_1 : List (Nat × mx_I) := [(16, 51, 12, 9, []), (19, 2, 1, 1, []), (20, 58, 0, 0, []), (21, 4, 0, 1, []), (22, 51, 12, 9, []), (25, 2, 2, 1, []), (26, 58, 0, 0, []), (27, 47, 34, 0, []), (30, 0, 1, 1, []), (31, 48, 48, 0, [])]
def mt_230_2 : List (Nat × mx_I) := [(34, 0, 0, 1, []), (35, 48, 48, 0, []), (38, 2, 1, 1, []), (39, 2, 2, 1, []), (40, 47, 47, 0, []), (43, 0, 1, 1, []), (44, 48, 48, 0, []), (47, 0, 0, 1, [])]
def mt_230_3 : List (Nat × mx_I) := [(48, 80, 2, 0, [])]
def mt_230 : List (List (Nat × mx_I)) := [mt_230_0, mt_230_1, mt_230_2, mt_230_3]
def mt_231_0 : List (Nat × mx_I) := [(0, 0, 0, 1, []), (1, 5, 2, 1, []), (2, 2, 2, 1, []), (3, 4, 0, 1, []), (4, 51, 12, 5, []), (7, 45, 23, 0, []), (10, 4, 0, 1, []), (11, 51, 12, 55, []), (14, 2, 2, 1, []), (15, 0, 0, 1, [])]
def mt_231_1 : List (Nat × mx_I) := [(16, 59, 2, 0, []), (17, 8, 2, 1, []), (20, 48, 2, 0, []), (23, 0, 0, 1, []), (24, 5, 2, 1, []), (25, 2, 2, 1, []), (26, 4, 0, 1, []), (27, 51, 12, 46, []), (30, 45, 246, 0, [])]
def mt_231_2 : List (Nat × mx_I) := [(33, 4, 0, 1, []), (34, 51, 12, 54, []), (37, 2, 2, 1, []), (38, 0, 0, 1, []), (39, 59, 0, 0, []), (40, 4, 0, 1, []), (41, 51, 12, 47, []), (44, 2, 2, 1, []), (45, 58, 0, 0, []), (46, 2, 1, 1, []), (47, 42, 53, 0, [])]
def mt_231_3 : List (Nat × mx_I) := [(50, 48, 240, 0, []), (53, 4, 0, 1, []), (54, 51, 12, 48, []), (57, 2, 2, 1, []), (58, 58, 0, 0, []), (59, 5, 3, 1, []), (60, 4, 0, 1, []), (61, 2, 1, 1, []), (62, 4, 0, 1, []), (63, 51, 12, 9, [])]
def mt_231_4 : List (Nat × mx_I) := [(66, 2, 3, 1, []), (67, 58, 0, 0, []), (68, 70, 225, 3, [12]), (71, 5, 4, 2, []), (73, 2, 4, 2, []), (75, 39, 82, 0, []), (78, 0, 0, 1, []), (79, 48, 87, 0, [])]
def mt_231_5 : List (Nat × mx_I) := [(82, 4, 0, 1, []), (83, 2, 2, 1, []), (84, 70, 228, 2, [12]), (87, 5, 5, 2, []), (89, 4, 0, 1, []), (90, 51, 12, 54, []), (93, 2, 2, 1, []), (94, 58, 0, 0, []), (95, 2, 5, 2, [])]
def mt_231_6 : List (Nat × mx_I) := [(97, 45, 240, 0, []), (100, 0, 4294967295, 1, []), (101, 5, 6, 2, []), (103, 0, 0, 1, []), (104, 5, 7, 2, []), (106, 2, 7, 2, []), (108, 4, 0, 1, []), (109, 51, 12, 5, [])]
def mt_231_7 : List (Nat × mx_I) := [(112, 45, 194, 0, []), (115, 4, 0, 1, []), (116, 51, 12, 55, []), (119, 2, 7, 2, []), (121, 58, 2, 0, []), (122, 37, 188, 0, []), (125, 4, 0, 1, []), (126, 51, 12, 6, [])]
def mt_231_8 : List (Nat × mx_I) := [(129, 2, 7, 2, []), (131, 58, 0, 0, []), (132, 70, 173, 1, []), (135, 36, 188, 0, []), (138, 4, 0, 1, []), (139, 2, 4, 2, []), (141, 2, 7, 2, []), (143, 70, 208, 3, [12])]
def mt_231_9 : List (Nat × mx_I) := [(146, 36, 188, 0, []), (149, 4, 0, 1, []), (150, 51, 12, 9, []), (153, 2, 7, 2, []), (155, 58, 0, 0, []), (156, 4, 0, 1, []), (157, 51, 12, 9, [])]
def mt_231_10 : List (Nat × mx_I) := [(160, 2, 3, 1, []), (161, 58, 0, 0, []), (162, 46, 168, 0, []), (165, 48, 188, 0, []), (168, 2, 6, 2, []), (170, 38, 184, 0, []), (173, 4, 0, 1, []), (174, 2, 6, 2, [])]
def mt_231_11 : List (Nat × mx_I) := [(176, 2, 7, 2, []), (178, 70, 230, 3, [12]), (181, 36, 188, 0, []), (184, 2, 7, 2, []), (186, 5, 6, 2, []), (188, 8, 7, 1, []), (191, 48, 106, 0, [])]
def mt_231_12 : List (Nat × mx_I) := [(194, 2, 6, 2, []), (196, 39, 202, 0, []), (199, 48, 240, 0, []), (202, 4, 0, 1, []), (203, 51, 12, 55, []), (206, 2, 6, 2, [])]
def mt_231_13 : List (Nat × mx_I) := [(208, 0, 1, 1, []), (209, 59, 2, 0, []), (210, 4, 0, 1, []), (211, 51, 12, 53, []), (214, 0, 5, 1, []), (215, 2, 2, 1, []), (216, 11, 0, 0, []), (217, 4, 0, 1, []), (218, 51, 12, 54, []), (221, 2, 2, 1, []), (222, 58, 0, 0, []), (223, 9, 0, 0, [])]
def mt_231_14 : List (Nat × mx_I) := [(224, 2, 6, 2, []), (226, 59, 0, 0, []), (227, 4, 0, 1, []), (228, 51, 12, 54, []), (231, 2, 2, 1, []), (232, 35, 0, 0, []), (233, 58, 0, 0, []), (234, 0, 1, 1, []), (235, 9, 0, 0, []), (236, 59, 0, 0, []), (237, 48, 89, 0, [])]
def mt_231_15 : List (Nat × mx_I) := [(240, 8, 2, 1, []), (243, 48, 25, 0, []), (246, 83, 0, 0, [])]
def mt_231 : List (List (Nat × mx_I)) := [mt_231_0, mt_231_1, mt_231_2, mt_231_3, mt_231_4, mt_231_5, mt_231_6, mt_231_7, mt_231_8, mt_231_9, mt_231_10, mt_231_11, mt_231_12, mt_231_13, mt_231_14, mt_231_15]
def mt_232_0 : List (Nat × mx_I) := [(0, 2, 1, 1, []), (1, 0, 0, 1, []), (2, 4, 0, 1, []), (3, 51, 12, 46, []), (6, 0, 1, 1, []), (7, 10, 0, 0, []), (8, 70, 163, 3, []), (11, 37, 17, 0, []), (14, 0, 4294967294, 2, [])]
def mt_232_1 : List (Nat × mx_I) := [(16, 80, 0, 0, []), (17, 4, 0, 1, []), (18, 4, 0, 1, []), (19, 51, 12, 47, []), (22, 2, 1, 1, []), (23, 58, 0, 0, []), (24, 70, 231, 2, [12]), (27, 2, 2, 1, []), (28, 0, 0, 1, []), (29, 4, 0, 1, []), (30, 51, 12, 54, [])]
def mt_232_2 : List (Nat × mx_I) := [(33, 2, 1, 1, []), (34, 58, 0, 0, []), (35, 0, 1, 1, []), (36, 10, 0, 0, []), (37, 70, 163, 3, []), (40, 36, 56, 0, []), (43, 4, 0, 1, []), (44, 51, 12, 53, []), (47, 0, 5, 1, [])]
def mt_232_3 : List (Nat × mx_I) := [(48, 2, 1, 1, []), (49, 11, 0, 0, []), (50, 2, 2, 1, []), (51, 9, 0, 0, []), (52, 58, 0, 0, []), (53, 48, 57, 0, []), (56, 0, 4294967295, 1, []), (57, 80, 0, 0, [])]
def mt_232 : List (List (Nat × mx_I)) := [mt_232_0, mt_232_1, mt_232_2, mt_232_3]
def mt_233_0 : List (Nat × mx_I) := [(0, 4, 0, 1, []), (1, 2, 1, 1, []), (2, 4, 0, 1, []), (3, 51, 12, 9, []), (6, 2, 2, 1, []), (7, 58, 0, 0, []), (8, 70, 225, 3, [12]), (11, 5, 3, 1, []), (12, 2, 3, 1, []), (13, 38, 25, 0, [])]
def mt_233_1 : List (Nat × mx_I) := [(16, 4, 0, 1, []), (17, 2, 3, 1, []), (18, 2, 2, 1, []), (19, 70, 208, 3, [12]), (22, 37, 27, 0, []), (25, 0, 0, 1, []), (26, 80, 2, 0, []), (27, 4, 0, 1, []), (28, 2, 1, 1, []), (29, 70, 231, 2, [12])]
def mt_233_2 : List (Nat × mx_I) := [(32, 4, 0, 1, []), (33, 51, 12, 55, []), (36, 2, 2, 1, []), (37, 58, 2, 0, []), (38, 37, 45, 0, []), (41, 0, 1, 1, []), (42, 48, 46, 0, []), (45, 0, 0, 1, []), (46, 80, 2, 0, [])]
def mt_233 : List (List (Nat × mx_I)) := [mt_233_0, mt_233_1, mt_233_2]
def mt_234_0 : List (Nat × mx_I) := [(0, 4, 0, 1, []), (1, 2, 1, 1, []), (2, 70, 222, 2, [12]), (5, 36, 16, 0, []), (8, 4, 0, 1, []), (9, 2, 2, 1, []), (10, 70, 170, 2, [12]), (13, 37, 21, 0, [])]
def mt_234_1 : List (Nat × mx_I) := [(16, 0, 4294967294, 2, []), (18, 48, 35, 0, []), (21, 4, 0, 1, []), (22, 2, 1, 1, []), (23, 2, 2, 1, []), (24, 70, 233, 3, [12]), (27, 36, 34, 0, []), (30, 0, 1, 1, []), (31, 48, 35, 0, [])]
def mt_234_2 : List (Nat × mx_I) := [(34, 0, 0, 1, []), (35, 80, 0, 0, [])]
def mt_234 : List (List (Nat × mx_I)) := [mt_234_0, mt_234_1, mt_234_2]
def mt_235_0 : List (Nat × mx_I) := [(0, 4, 0, 1, []), (1, 2, 1, 1, []), (2, 70, 222, 2, [12]), (5, 36, 16, 0, []), (8, 4, 0, 1, []), (9, 2, 2, 1, []), (10, 70, 170, 2, [12]), (13, 37, 19, 0, [])]
def mt_235_1 : List (Nat × mx_I) := [(16, 0, 4294967294, 2, []), (18, 80, 0, 0, []), (19, 0, 0, 1, []), (20, 5, 3, 1, []), (21, 2, 3, 1, []), (22, 4, 0, 1, []), (23, 51, 12, 50, []), (26, 45, 58, 0, []), (29, 4, 0, 1, []), (30, 51, 12, 51, [])]
def mt_235_2 : List (Nat × mx_I) := [(33, 2, 3, 1, []), (34, 58, 0, 0, []), (35, 2, 1, 1, []), (36, 43, 52, 0, []), (39, 4, 0, 1, []), (40, 51, 12, 52, []), (43, 2, 3, 1, []), (44, 58, 0, 0, []), (45, 2, 2, 1, []), (46, 43, 52, 0, [])]
def mt_235_3 : List (Nat × mx_I) := [(49, 0, 4294967293, 2, []), (51, 80, 0, 0, []), (52, 8, 3, 1, []), (55, 48, 21, 0, []), (58, 4, 0, 1, []), (59, 51, 12, 50, []), (62, 0, 60, 2, [])]
def mt_235_4 : List (Nat × mx_I) := [(64, 43, 70, 0, []), (67, 0, 4294967292, 2, []), (69, 80, 0, 0, []), (70, 4, 0, 1, []), (71, 51, 12, 51, []), (74, 4, 0, 1, []), (75, 51, 12, 50, []), (78, 2, 1, 1, []), (79, 59, 0, 0, [])]
def mt_235_5 : List (Nat × mx_I) := [(80, 4, 0, 1, []), (81, 51, 12, 52, []), (84, 4, 0, 1, []), (85, 51, 12, 50, []), (88, 2, 2, 1, []), (89, 59, 0, 0, []), (90, 4, 0, 1, []), (91, 33, 0, 0, []), (92, 51, 12, 50, []), (95, 0, 1, 1, [])]
def mt_235_6 : List (Nat × mx_I) := [(96, 9, 0, 0, []), (97, 53, 12, 50, []), (100, 4, 0, 1, []), (101, 51, 12, 50, []), (104, 80, 0, 0, [])]
def mt_235 : List (List (Nat × mx_I)) := [mt_235_0, mt_235_1, mt_235_2, mt_235_3, mt_235_4, mt_235_5, mt_235_6]
def mt_236_0 : List (Nat × mx_I) := [(0, 0, 0, 1, []), (1, 5, 2, 1, []), (2, 2, 2, 1, []), (3, 4, 0, 1, []), (4, 51, 12, 50, []), (7, 45, 42, 0, []), (10, 4, 0, 1, []), (11, 51, 12, 52, []), (14, 2, 2, 1, []), (15, 58, 0, 0, [])]
def mt_236_1 : List (Nat × mx_I) := [(16, 2, 1, 1, []), (17, 43, 36, 0, []), (20, 4, 0, 1, []), (21, 4, 0, 1, []), (22, 51, 12, 51, []), (25, 2, 2, 1, []), (26, 58, 0, 0, []), (27, 2, 1, 1, []), (28, 70, 233, 3, [12]), (31, 37, 36, 0, [])]
def mt_236_2 : List (Nat × mx_I) := [(34, 0, 1, 1, []), (35, 80, 2, 0, []), (36, 8, 2, 1, []), (39, 48, 2, 0, []), (42, 0, 0, 1, []), (43, 80, 2, 0, [])]
def mt_236 : List (List (Nat × mx_I)) := [mt_236_0, mt_236_1, mt_236_2]
def mt_237_0 : List (Nat × mx_I) := [(0, 0, 0, 1, []), (1, 5, 2, 1, []), (2, 0, 0, 1, []), (3, 5, 3, 1, []), (4, 2, 3, 1, []), (5, 4, 0, 1, []), (6, 51, 12, 5, []), (9, 45, 39, 0, []), (12, 4, 0, 1, []), (13, 2, 3, 1, []), (14, 70, 236, 2, [12])]
def mt_237_1 : List (Nat × mx_I) := [(17, 37, 23, 0, []), (20, 48, 33, 0, []), (23, 2, 2, 1, []), (24, 2, 1, 1, []), (25, 43, 30, 0, []), (28, 2, 3, 1, []), (29, 80, 0, 0, []), (30, 8, 2, 1, [])]
def mt_237_2 : List (Nat × mx_I) := [(33, 8, 3, 1, []), (36, 48, 4, 0, []), (39, 2, 1, 1, []), (40, 0, 4294967295, 1, []), (41, 43, 48, 0, []), (44, 2, 2, 1, []), (45, 48, 49, 0, [])]
def mt_237_3 : List (Nat × mx_I) := [(48, 0, 4294967295, 1, []), (49, 80, 0, 0, [])]
def mt_237 : List (List (Nat × mx_I)) := [mt_237_0, mt_237_1, mt_237_2, mt_237_3]
def mt_238_0 : List (Nat × mx_I) := [(0, 0, 60, 2, []), (2, 2, 1, 1, []), (3, 11, 0, 0, []), (4, 2, 2, 1, []), (5, 9, 0, 0, []), (6, 5, 6, 2, []), (8, 4, 0, 1, []), (9, 51, 12, 57, []), (12, 2, 6, 2, []), (14, 0, 1, 1, []), (15, 59, 2, 0, [])]
def mt_238_1 : List (Nat × mx_I) := [(16, 4, 0, 1, []), (17, 51, 12, 58, []), (20, 2, 6, 2, []), (22, 4, 0, 1, []), (23, 51, 12, 6, []), (26, 2, 2, 1, []), (27, 58, 0, 0, []), (28, 59, 0, 0, []), (29, 4, 0, 1, []), (30, 51, 12, 59, [])]
def mt_238_2 : List (Nat × mx_I) := [(33, 2, 6, 2, []), (35, 4, 0, 1, []), (36, 51, 12, 7, []), (39, 2, 2, 1, []), (40, 58, 0, 0, []), (41, 59, 0, 0, []), (42, 4, 0, 1, []), (43, 51, 12, 60, []), (46, 2, 6, 2, [])]
def mt_238_3 : List (Nat × mx_I) := [(48, 4, 0, 1, []), (49, 51, 12, 8, []), (52, 2, 2, 1, []), (53, 58, 0, 0, []), (54, 59, 0, 0, []), (55, 4, 0, 1, []), (56, 51, 12, 61, []), (59, 2, 6, 2, []), (61, 4, 0, 1, []), (62, 51, 12, 62, [])]
def mt_238_4 : List (Nat × mx_I) := [(65, 2, 2, 1, []), (66, 58, 0, 0, []), (67, 59, 0, 0, []), (68, 4, 0, 1, []), (69, 51, 12, 62, []), (72, 2, 2, 1, []), (73, 2, 1, 1, []), (74, 59, 0, 0, []), (75, 4, 0, 1, []), (76, 51, 12, 6, []), (79, 2, 2, 1, [])]
def mt_238_5 : List (Nat × mx_I) := [(80, 2, 3, 1, []), (81, 59, 0, 0, []), (82, 4, 0, 1, []), (83, 51, 12, 7, []), (86, 2, 2, 1, []), (87, 2, 4, 2, []), (89, 59, 0, 0, []), (90, 4, 0, 1, []), (91, 51, 12, 8, []), (94, 2, 2, 1, []), (95, 2, 5, 2, [])]
def mt_238_6 : List (Nat × mx_I) := [(97, 59, 0, 0, []), (98, 83, 0, 0, [])]
def mt_238 : List (List (Nat × mx_I)) := [mt_238_0, mt_238_1, mt_238_2, mt_238_3, mt_238_4, mt_238_5, mt_238_6]
def mt_239_0 : List (Nat × mx_I) := [(0, 4, 0, 1, []), (1, 2, 1, 1, []), (2, 70, 166, 2, [12]), (5, 37, 11, 0, []), (8, 0, 4294967294, 2, []), (10, 80, 0, 0, []), (11, 4, 0, 1, []), (12, 51, 12, 56, []), (15, 2, 1, 1, [])]
def mt_239_1 : List (Nat × mx_I) := [(16, 58, 2, 0, []), (17, 36, 23, 0, []), (20, 0, 4294967293, 2, []), (22, 80, 0, 0, []), (23, 0, 0, 1, []), (24, 5, 2, 1, []), (25, 0, 0, 1, []), (26, 5, 3, 1, []), (27, 0, 0, 1, []), (28, 5, 4, 2, []), (30, 2, 4, 2, [])]
def mt_239_2 : List (Nat × mx_I) := [(32, 4, 0, 1, []), (33, 51, 12, 5, []), (36, 45, 108, 0, []), (39, 4, 0, 1, []), (40, 51, 12, 57, []), (43, 0, 60, 2, []), (45, 2, 1, 1, []), (46, 11, 0, 0, []), (47, 2, 4, 2, [])]
def mt_239_3 : List (Nat × mx_I) := [(49, 9, 0, 0, []), (50, 0, 0, 1, []), (51, 59, 2, 0, []), (52, 4, 0, 1, []), (53, 2, 1, 1, []), (54, 2, 4, 2, []), (56, 70, 208, 3, [12]), (59, 36, 102, 0, []), (62, 4, 0, 1, []), (63, 51, 12, 6, [])]
def mt_239_4 : List (Nat × mx_I) := [(66, 2, 4, 2, []), (68, 58, 0, 0, []), (69, 70, 172, 1, []), (72, 37, 78, 0, []), (75, 48, 102, 0, []), (78, 8, 2, 1, [])]
def mt_239_5 : List (Nat × mx_I) := [(81, 2, 3, 1, []), (82, 4, 0, 1, []), (83, 2, 4, 2, []), (85, 4, 0, 1, []), (86, 51, 12, 1, []), (89, 70, 179, 3, [12]), (92, 38, 99, 0, []), (95, 0, 1, 1, [])]
def mt_239_6 : List (Nat × mx_I) := [(96, 48, 100, 0, []), (99, 0, 0, 1, []), (100, 9, 0, 0, []), (101, 5, 3, 1, []), (102, 8, 4, 1, []), (105, 48, 30, 0, []), (108, 4, 0, 1, []), (109, 51, 12, 56, [])]
def mt_239_7 : List (Nat × mx_I) := [(112, 2, 1, 1, []), (113, 0, 1, 1, []), (114, 59, 2, 0, []), (115, 0, 0, 1, []), (116, 5, 4, 2, []), (118, 0, 0, 1, []), (119, 5, 5, 2, []), (121, 2, 5, 2, []), (123, 4, 0, 1, []), (124, 51, 12, 5, []), (127, 45, 269, 0, [])]
def mt_239_8 : List (Nat × mx_I) := [(130, 4, 0, 1, []), (131, 2, 1, 1, []), (132, 2, 5, 2, []), (134, 70, 208, 3, [12]), (137, 36, 263, 0, []), (140, 4, 0, 1, []), (141, 51, 12, 6, [])]
def mt_239_9 : List (Nat × mx_I) := [(144, 2, 5, 2, []), (146, 58, 0, 0, []), (147, 70, 172, 1, []), (150, 37, 156, 0, []), (153, 48, 263, 0, []), (156, 0, 2, 1, []), (157, 2, 3, 1, []), (158, 11, 0, 0, []), (159, 2, 2, 1, [])]
def mt_239_10 : List (Nat × mx_I) := [(160, 45, 188, 0, []), (163, 4, 0, 1, []), (164, 2, 1, 1, []), (165, 2, 5, 2, []), (167, 0, 5, 1, []), (168, 4, 0, 1, []), (169, 51, 12, 7, []), (172, 2, 5, 2, []), (174, 58, 0, 0, []), (175, 4, 0, 1, [])]
def mt_239_11 : List (Nat × mx_I) := [(176, 51, 12, 8, []), (179, 2, 5, 2, []), (181, 58, 0, 0, []), (182, 70, 238, 6, [12]), (185, 48, 238, 0, []), (188, 4, 0, 1, []), (189, 2, 5, 2, []), (191, 4, 0, 1, [])]
def mt_239_12 : List (Nat × mx_I) := [(192, 51, 12, 1, []), (195, 70, 179, 3, [12]), (198, 39, 238, 0, []), (201, 4, 0, 1, []), (202, 2, 1, 1, []), (203, 2, 5, 2, []), (205, 0, 3, 1, []), (206, 4, 0, 1, []), (207, 51, 12, 7, [])]
def mt_239_13 : List (Nat × mx_I) := [(210, 2, 5, 2, []), (212, 58, 0, 0, []), (213, 2, 1, 1, []), (214, 43, 227, 0, []), (217, 4, 0, 1, []), (218, 51, 12, 8, []), (221, 2, 5, 2, []), (223, 58, 0, 0, [])]
def mt_239_14 : List (Nat × mx_I) := [(224, 48, 234, 0, []), (227, 4, 0, 1, []), (228, 51, 12, 7, []), (231, 2, 5, 2, []), (233, 58, 0, 0, []), (234, 2, 1, 1, []), (235, 70, 238, 6, [12]), (238, 2, 4, 2, [])]
def mt_239_15 : List (Nat × mx_I) := [(240, 4, 0, 1, []), (241, 51, 12, 57, []), (244, 0, 60, 2, []), (246, 2, 1, 1, []), (247, 11, 0, 0, []), (248, 2, 5, 2, []), (250, 9, 0, 0, []), (251, 58, 2, 0, []), (252, 36, 259, 0, []), (255, 0, 1, 1, [])]
def mt_239_16 : List (Nat × mx_I) := [(256, 48, 260, 0, []), (259, 0, 0, 1, []), (260, 9, 0, 0, []), (261, 5, 4, 2, []), (263, 8, 5, 1, []), (266, 48, 121, 0, []), (269, 2, 4, 2, []), (271, 80, 0, 0, [])]
def mt_239 : List (List (Nat × mx_I)) := [mt_239_0, mt_239_1, mt_239_2, mt_239_3, mt_239_4, mt_239_5, mt_239_6, mt_239_7, mt_239_8, mt_239_9, mt_239_10, mt_239_11, mt_239_12, mt_239_13, mt_239_14, mt_239_15, mt_239_16]
def mt_240_0 : List (Nat × mx_I) := [(0, 4, 0, 1, []), (1, 2, 1, 1, []), (2, 70, 166, 2, [12]), (5, 37, 11, 0, []), (8, 0, 4294967294, 2, []), (10, 80, 0, 0, []), (11, 4, 0, 1, []), (12, 51, 12, 56, []), (15, 2, 1, 1, [])]
def mt_240_1 : List (Nat × mx_I) := [(16, 58, 2, 0, []), (17, 37, 23, 0, []), (20, 0, 4294967293, 2, []), (22, 80, 0, 0, []), (23, 0, 0, 1, []), (24, 5, 2, 1, []), (25, 2, 2, 1, []), (26, 4, 0, 1, []), (27, 51, 12, 5, []), (30, 45, 66, 0, [])]
def mt_240_2 : List (Nat × mx_I) := [(33, 4, 0, 1, []), (34, 51, 12, 57, []), (37, 0, 60, 2, []), (39, 2, 1, 1, []), (40, 11, 0, 0, []), (41, 2, 2, 1, []), (42, 9, 0, 0, []), (43, 58, 2, 0, []), (44, 36, 60, 0, []), (47, 4, 0, 1, [])]
def mt_240_3 : List (Nat × mx_I) := [(48, 51, 12, 62, []), (51, 2, 2, 1, []), (52, 58, 0, 0, []), (53, 2, 1, 1, []), (54, 42, 60, 0, []), (57, 0, 4294967293, 2, []), (59, 80, 0, 0, []), (60, 8, 2, 1, []), (63, 48, 25, 0, [])]
def mt_240_4 : List (Nat × mx_I) := [(66, 4, 0, 1, []), (67, 51, 12, 56, []), (70, 2, 1, 1, []), (71, 0, 0, 1, []), (72, 59, 2, 0, []), (73, 0, 0, 1, []), (74, 5, 2, 1, []), (75, 0, 0, 1, []), (76, 5, 3, 1, []), (77, 2, 3, 1, []), (78, 4, 0, 1, []), (79, 51, 12, 5, [])]
def mt_240_5 : List (Nat × mx_I) := [(82, 45, 175, 0, []), (85, 0, 60, 2, []), (87, 2, 1, 1, []), (88, 11, 0, 0, []), (89, 2, 3, 1, []), (90, 9, 0, 0, []), (91, 5, 4, 2, []), (93, 4, 0, 1, []), (94, 51, 12, 57, [])]
def mt_240_6 : List (Nat × mx_I) := [(97, 2, 4, 2, []), (99, 58, 2, 0, []), (100, 37, 106, 0, []), (103, 48, 169, 0, []), (106, 4, 0, 1, []), (107, 51, 12, 57, []), (110, 2, 4, 2, [])]
def mt_240_7 : List (Nat × mx_I) := [(112, 0, 0, 1, []), (113, 59, 2, 0, []), (114, 4, 0, 1, []), (115, 51, 12, 6, []), (118, 2, 3, 1, []), (119, 4, 0, 1, []), (120, 51, 12, 58, []), (123, 2, 4, 2, []), (125, 58, 0, 0, []), (126, 59, 0, 0, []), (127, 4, 0, 1, [])]
def mt_240_8 : List (Nat × mx_I) := [(128, 51, 12, 7, []), (131, 2, 3, 1, []), (132, 4, 0, 1, []), (133, 51, 12, 59, []), (136, 2, 4, 2, []), (138, 58, 0, 0, []), (139, 59, 0, 0, []), (140, 4, 0, 1, []), (141, 51, 12, 8, [])]
def mt_240_9 : List (Nat × mx_I) := [(144, 2, 3, 1, []), (145, 4, 0, 1, []), (146, 51, 12, 60, []), (149, 2, 4, 2, []), (151, 58, 0, 0, []), (152, 59, 0, 0, []), (153, 4, 0, 1, []), (154, 51, 12, 62, []), (157, 2, 3, 1, []), (158, 4, 0, 1, []), (159, 51, 12, 61, [])]
def mt_240_10 : List (Nat × mx_I) := [(162, 2, 4, 2, []), (164, 58, 0, 0, []), (165, 59, 0, 0, []), (166, 8, 2, 1, []), (169, 8, 3, 1, []), (172, 48, 77, 0, []), (175, 2, 2, 1, [])]
def mt_240_11 : List (Nat × mx_I) := [(176, 80, 0, 0, [])]
def mt_240 : List (List (Nat × mx_I)) := [mt_240_0, mt_240_1, mt_240_2, mt_240_3, mt_240_4, mt_240_5, mt_240_6, mt_240_7, mt_240_8, mt_240_9, mt_240_10, mt_240_11]
def mt_241_0 : List (Nat × mx_I) := [(0, 4, 0, 1, []), (1, 0, 0, 1, []), (2, 53, 12, 63, []), (5, 0, 0, 1, []), (6, 5, 2, 1, []), (7, 2, 2, 1, []), (8, 4, 0, 1, []), (9, 51, 12, 5, []), (12, 45, 98, 0, []), (15, 4, 0, 1, [])]
def mt_241_1 : List (Nat × mx_I) := [(16, 51, 12, 3, []), (19, 4, 0, 1, []), (20, 51, 12, 7, []), (23, 2, 2, 1, []), (24, 58, 0, 0, []), (25, 58, 0, 0, []), (26, 2, 1, 1, []), (27, 43, 92, 0, []), (30, 4, 0, 1, []), (31, 51, 12, 3, [])]
def mt_241_2 : List (Nat × mx_I) := [(34, 4, 0, 1, []), (35, 51, 12, 8, []), (38, 2, 2, 1, []), (39, 58, 0, 0, []), (40, 58, 0, 0, []), (41, 2, 1, 1, []), (42, 43, 92, 0, []), (45, 4, 0, 1, []), (46, 51, 12, 6, [])]
def mt_241_3 : List (Nat × mx_I) := [(49, 2, 2, 1, []), (50, 58, 0, 0, []), (51, 70, 172, 1, []), (54, 36, 92, 0, []), (57, 4, 0, 1, []), (58, 2, 2, 1, []), (59, 4, 0, 1, []), (60, 51, 12, 1, []), (63, 70, 179, 3, [12])]
def mt_241_4 : List (Nat × mx_I) := [(66, 38, 72, 0, []), (69, 48, 92, 0, []), (72, 4, 0, 1, []), (73, 51, 12, 64, []), (76, 4, 0, 1, []), (77, 51, 12, 63, [])]
def mt_241_5 : List (Nat × mx_I) := [(80, 2, 2, 1, []), (81, 59, 0, 0, []), (82, 4, 0, 1, []), (83, 33, 0, 0, []), (84, 51, 12, 63, []), (87, 0, 1, 1, []), (88, 9, 0, 0, []), (89, 53, 12, 63, []), (92, 8, 2, 1, []), (95, 48, 7, 0, [])]
def mt_241_6 : List (Nat × mx_I) := [(98, 83, 0, 0, [])]
def mt_241 : List (List (Nat × mx_I)) := [mt_241_0, mt_241_1, mt_241_2, mt_241_3, mt_241_4, mt_241_5, mt_241_6]
def mt_242_0 : List (Nat × mx_I) := [(0, 2, 1, 1, []), (1, 70, 167, 1, []), (4, 37, 10, 0, []), (7, 0, 4294967294, 2, []), (9, 80, 0, 0, []), (10, 4, 0, 1, []), (11, 2, 1, 1, []), (12, 70, 241, 2, [12]), (15, 4, 0, 1, [])]
def mt_242_1 : List (Nat × mx_I) := [(16, 51, 12, 63, []), (19, 80, 0, 0, [])]
def mt_242 : List (List (Nat × mx_I)) := [mt_242_0, mt_242_1]
def mt_243_0 : List (Nat × mx_I) := [(0, 2, 0, 1, []), (1, 37, 9, 0, []), (4, 0, 100, 2, []), (6, 48, 19, 0, []), (9, 2, 0, 1, []), (10, 0, 1, 1, []), (11, 43, 18, 0, []), (14, 0, 0, 1, []), (15, 48, 19, 0, [])]
def mt_243_1 : List (Nat × mx_I) := [(18, 0, 1, 1, []), (19, 80, 0, 0, [])]
def mt_243 : List (List (Nat × mx_I)) := [mt_243_0, mt_243_1]
def mt_244_0 : List (Nat × mx_I) := [(0, 0, 1, 1, []), (1, 5, 1, 1, []), (2, 0, 0, 1, []), (3, 5, 2, 1, []), (4, 2, 2, 1, []), (5, 2, 0, 1, []), (6, 45, 19, 0, []), (9, 2, 1, 1, []), (10, 0, 3, 1, []), (11, 11, 0, 0, []), (12, 5, 1, 1, []), (13, 8, 2, 1, [])]
def mt_244_1 : List (Nat × mx_I) := [(16, 48, 4, 0, []), (19, 2, 1, 1, []), (20, 80, 0, 0, [])]
def mt_244 : List (List (Nat × mx_I)) := [mt_244_0, mt_244_1]
def mt_245_0 : List (Nat × mx_I) := [(0, 4, 0, 1, []), (1, 2, 1, 1, []), (2, 4, 0, 1, []), (3, 51, 12, 1, []), (6, 70, 217, 3, [12]), (9, 0, 0, 1, []), (10, 5, 2, 1, []), (11, 2, 2, 1, []), (12, 4, 0, 1, []), (13, 51, 12, 2, [])]
def mt_245_1 : List (Nat × mx_I) := [(16, 45, 86, 0, []), (19, 4, 0, 1, []), (20, 51, 12, 3, []), (23, 2, 2, 1, []), (24, 58, 0, 0, []), (25, 2, 1, 1, []), (26, 42, 32, 0, []), (29, 48, 80, 0, [])]
def mt_245_2 : List (Nat × mx_I) := [(32, 4, 0, 1, []), (33, 51, 12, 67, []), (36, 2, 2, 1, []), (37, 4, 0, 1, []), (38, 51, 12, 39, []), (41, 2, 2, 1, []), (42, 58, 3, 0, []), (43, 60, 0, 0, []), (44, 4, 0, 1, []), (45, 51, 12, 68, [])]
def mt_245_3 : List (Nat × mx_I) := [(48, 2, 2, 1, []), (49, 4, 0, 1, []), (50, 51, 12, 36, []), (53, 2, 2, 1, []), (54, 58, 0, 0, []), (55, 59, 0, 0, []), (56, 4, 0, 1, []), (57, 51, 12, 69, []), (60, 2, 2, 1, []), (61, 4, 0, 1, []), (62, 51, 12, 37, [])]
def mt_245_4 : List (Nat × mx_I) := [(65, 2, 2, 1, []), (66, 58, 0, 0, []), (67, 59, 0, 0, []), (68, 4, 0, 1, []), (69, 51, 12, 70, []), (72, 2, 2, 1, []), (73, 4, 0, 1, []), (74, 51, 12, 38, []), (77, 2, 2, 1, []), (78, 58, 0, 0, []), (79, 59, 0, 0, [])]
def mt_245_5 : List (Nat × mx_I) := [(80, 8, 2, 1, []), (83, 48, 11, 0, []), (86, 83, 0, 0, [])]
def mt_245 : List (List (Nat × mx_I)) := [mt_245_0, mt_245_1, mt_245_2, mt_245_3, mt_245_4, mt_245_5]
def mt_246_0 : List (Nat × mx_I) := [(0, 0, 0, 1, []), (1, 5, 4, 2, []), (3, 2, 4, 2, []), (5, 4, 0, 1, []), (6, 51, 12, 2, []), (9, 45, 74, 0, []), (12, 4, 0, 1, []), (13, 51, 12, 39, [])]
def mt_246_1 : List (Nat × mx_I) := [(16, 2, 4, 2, []), (18, 4, 0, 1, []), (19, 51, 12, 67, []), (22, 2, 4, 2, []), (24, 58, 3, 0, []), (25, 60, 0, 0, []), (26, 4, 0, 1, []), (27, 51, 12, 36, []), (30, 2, 4, 2, [])]
def mt_246_2 : List (Nat × mx_I) := [(32, 4, 0, 1, []), (33, 51, 12, 68, []), (36, 2, 4, 2, []), (38, 58, 0, 0, []), (39, 59, 0, 0, []), (40, 4, 0, 1, []), (41, 51, 12, 37, []), (44, 2, 4, 2, []), (46, 4, 0, 1, []), (47, 51, 12, 69, [])]
def mt_246_3 : List (Nat × mx_I) := [(50, 2, 4, 2, []), (52, 58, 0, 0, []), (53, 59, 0, 0, []), (54, 4, 0, 1, []), (55, 51, 12, 38, []), (58, 2, 4, 2, []), (60, 4, 0, 1, []), (61, 51, 12, 70, [])]
def mt_246_4 : List (Nat × mx_I) := [(64, 2, 4, 2, []), (66, 58, 0, 0, []), (67, 59, 0, 0, []), (68, 8, 4, 1, []), (71, 48, 3, 0, []), (74, 4, 0, 1, []), (75, 51, 12, 66, []), (78, 2, 1, 1, []), (79, 1, 0, 1, [])]
def mt_246_5 : List (Nat × mx_I) := [(80, 60, 0, 0, []), (81, 2, 1, 1, []), (82, 5, 4, 2, []), (84, 0, 0, 1, []), (85, 5, 5, 2, []), (87, 2, 5, 2, []), (89, 4, 0, 1, []), (90, 51, 12, 63, []), (93, 45, 247, 0, [])]
def mt_246_6 : List (Nat × mx_I) := [(96, 4, 0, 1, []), (97, 51, 12, 64, []), (100, 2, 5, 2, []), (102, 58, 0, 0, []), (103, 5, 6, 2, []), (105, 2, 4, 2, []), (107, 0, 3, 1, []), (108, 15, 0, 0, []), (109, 70, 243, 1, [])]
def mt_246_7 : List (Nat × mx_I) := [(112, 5, 7, 2, []), (114, 2, 4, 2, []), (116, 0, 3, 1, []), (117, 14, 0, 0, []), (118, 5, 4, 2, []), (120, 4, 0, 1, []), (121, 51, 12, 39, []), (124, 4, 0, 1, []), (125, 51, 12, 7, [])]
def mt_246_8 : List (Nat × mx_I) := [(128, 2, 6, 2, []), (130, 58, 0, 0, []), (131, 35, 0, 0, []), (132, 58, 3, 0, []), (133, 4, 0, 1, []), (134, 2, 6, 2, []), (136, 4, 0, 1, []), (137, 51, 12, 7, []), (140, 2, 6, 2, []), (142, 58, 0, 0, []), (143, 2, 7, 2, [])]
def mt_246_9 : List (Nat × mx_I) := [(145, 70, 210, 4, [12]), (148, 28, 0, 0, []), (149, 19, 0, 0, []), (150, 60, 0, 0, []), (151, 4, 0, 1, []), (152, 51, 12, 39, []), (155, 4, 0, 1, []), (156, 51, 12, 8, []), (159, 2, 6, 2, [])]
def mt_246_10 : List (Nat × mx_I) := [(161, 58, 0, 0, []), (162, 35, 0, 0, []), (163, 58, 3, 0, []), (164, 4, 0, 1, []), (165, 2, 6, 2, []), (167, 4, 0, 1, []), (168, 51, 12, 8, []), (171, 2, 6, 2, []), (173, 58, 0, 0, []), (174, 2, 7, 2, [])]
def mt_246_11 : List (Nat × mx_I) := [(176, 70, 210, 4, [12]), (179, 28, 0, 0, []), (180, 19, 0, 0, []), (181, 60, 0, 0, []), (182, 4, 0, 1, []), (183, 4, 0, 1, []), (184, 51, 12, 7, []), (187, 2, 6, 2, []), (189, 58, 0, 0, []), (190, 2, 6, 2, [])]
def mt_246_12 : List (Nat × mx_I) := [(192, 2, 7, 2, []), (194, 70, 212, 4, [12]), (197, 4, 0, 1, []), (198, 4, 0, 1, []), (199, 51, 12, 8, []), (202, 2, 6, 2, []), (204, 58, 0, 0, []), (205, 2, 6, 2, []), (207, 2, 7, 2, [])]
def mt_246_13 : List (Nat × mx_I) := [(209, 70, 212, 4, [12]), (212, 4, 0, 1, []), (213, 2, 3, 1, []), (214, 2, 6, 2, []), (216, 70, 208, 3, [12]), (219, 36, 241, 0, []), (222, 4, 0, 1, []), (223, 51, 12, 66, [])]
def mt_246_14 : List (Nat × mx_I) := [(226, 2, 1, 1, []), (227, 35, 0, 0, []), (228, 58, 3, 0, []), (229, 4, 0, 1, []), (230, 2, 6, 2, []), (232, 2, 3, 1, []), (233, 2, 7, 2, []), (235, 70, 210, 4, [12]), (238, 28, 0, 0, []), (239, 19, 0, 0, [])]
def mt_246_15 : List (Nat × mx_I) := [(240, 60, 0, 0, []), (241, 8, 5, 1, []), (244, 48, 87, 0, []), (247, 0, 0, 1, []), (248, 5, 5, 2, []), (250, 2, 5, 2, []), (252, 4, 0, 1, []), (253, 51, 12, 2, [])]
def mt_246_16 : List (Nat × mx_I) := [(256, 45, 293, 0, []), (259, 4, 0, 1, []), (260, 51, 12, 3, []), (263, 2, 5, 2, []), (265, 58, 0, 0, []), (266, 2, 2, 1, []), (267, 43, 287, 0, []), (270, 4, 0, 1, []), (271, 51, 12, 40, [])]
def mt_246_17 : List (Nat × mx_I) := [(274, 2, 5, 2, []), (276, 4, 0, 1, []), (277, 2, 5, 2, []), (279, 4, 0, 1, []), (280, 51, 12, 1, []), (283, 70, 213, 3, [12]), (286, 60, 0, 0, []), (287, 8, 5, 1, [])]
def mt_246_18 : List (Nat × mx_I) := [(290, 48, 250, 0, []), (293, 83, 0, 0, [])]
def mt_246 : List (List (Nat × mx_I)) := [mt_246_0, mt_246_1, mt_246_2, mt_246_3, mt_246_4, mt_246_5, mt_246_6, mt_246_7, mt_246_8, mt_246_9, mt_246_10, mt_246_11, mt_246_12, mt_246_13, mt_246_14, mt_246_15, mt_246_16, mt_246_17, mt_246_18]
def mt_247_0 : List (Nat × mx_I) := [(0, 4, 0, 1, []), (1, 4, 0, 1, []), (2, 51, 12, 3, []), (5, 2, 1, 1, []), (6, 58, 0, 0, []), (7, 70, 245, 2, [12]), (10, 4, 0, 1, []), (11, 51, 12, 63, []), (14, 70, 244, 1, [])]
def mt_247_1 : List (Nat × mx_I) := [(17, 5, 2, 1, []), (18, 0, 0, 1, []), (19, 5, 3, 1, []), (20, 2, 3, 1, []), (21, 2, 2, 1, []), (22, 45, 54, 0, []), (25, 4, 0, 1, []), (26, 2, 3, 1, []), (27, 4, 0, 1, []), (28, 51, 12, 3, []), (31, 2, 1, 1, [])]
def mt_247_2 : List (Nat × mx_I) := [(32, 58, 0, 0, []), (33, 2, 1, 1, []), (34, 70, 246, 4, [12]), (37, 4, 0, 1, []), (38, 51, 12, 65, []), (41, 2, 3, 1, []), (42, 4, 0, 1, []), (43, 2, 1, 1, []), (44, 70, 219, 2, [12]), (47, 59, 0, 0, [])]
def mt_247_3 : List (Nat × mx_I) := [(48, 8, 3, 1, []), (51, 48, 20, 0, []), (54, 2, 2, 1, []), (55, 80, 0, 0, [])]
def mt_247 : List (List (Nat × mx_I)) := [mt_247_0, mt_247_1, mt_247_2, mt_247_3]
def mt_248_0 : List (Nat × mx_I) := [(0, 4, 0, 1, []), (1, 2, 1, 1, []), (2, 70, 247, 2, [12]), (5, 5, 3, 1, []), (6, 4, 0, 1, []), (7, 51, 12, 65, []), (10, 0, 0, 1, []), (11, 58, 0, 0, []), (12, 5, 4, 2, []), (14, 0, 1, 1, []), (15, 5, 5, 2, [])]
def mt_248_1 : List (Nat × mx_I) := [(17, 2, 5, 2, []), (19, 2, 3, 1, []), (20, 45, 86, 0, []), (23, 2, 2, 1, []), (24, 36, 54, 0, []), (27, 4, 0, 1, []), (28, 51, 12, 65, []), (31, 2, 5, 2, [])]
def mt_248_2 : List (Nat × mx_I) := [(33, 58, 0, 0, []), (34, 2, 4, 2, []), (36, 47, 49, 0, []), (39, 4, 0, 1, []), (40, 51, 12, 65, []), (43, 2, 5, 2, []), (45, 58, 0, 0, []), (46, 48, 78, 0, [])]
def mt_248_3 : List (Nat × mx_I) := [(49, 2, 4, 2, []), (51, 48, 78, 0, []), (54, 4, 0, 1, []), (55, 51, 12, 65, []), (58, 2, 5, 2, []), (60, 58, 0, 0, []), (61, 2, 4, 2, []), (63, 45, 76, 0, [])]
def mt_248_4 : List (Nat × mx_I) := [(66, 4, 0, 1, []), (67, 51, 12, 65, []), (70, 2, 5, 2, []), (72, 58, 0, 0, []), (73, 48, 78, 0, []), (76, 2, 4, 2, []), (78, 5, 4, 2, [])]
def mt_248_5 : List (Nat × mx_I) := [(80, 8, 5, 1, []), (83, 48, 17, 0, []), (86, 2, 4, 2, []), (88, 80, 0, 0, [])]
def mt_248 : List (List (Nat × mx_I)) := [mt_248_0, mt_248_1, mt_248_2, mt_248_3, mt_248_4, mt_248_5]
def mt_249_0 : List (Nat × mx_I) := [(0, 4, 0, 1, []), (1, 2, 1, 1, []), (2, 70, 166, 2, [12]), (5, 36, 17, 0, []), (8, 2, 2, 1, []), (9, 0, 0, 1, []), (10, 0, 1, 1, []), (11, 70, 163, 3, []), (14, 37, 20, 0, [])]
def mt_249_1 : List (Nat × mx_I) := [(17, 0, 4294967294, 2, []), (19, 80, 0, 0, []), (20, 4, 0, 1, []), (21, 4, 0, 1, []), (22, 51, 12, 3, []), (25, 2, 1, 1, []), (26, 58, 0, 0, []), (27, 70, 241, 2, [12]), (30, 4, 0, 1, []), (31, 51, 12, 63, [])]
def mt_249_2 : List (Nat × mx_I) := [(34, 0, 6, 2, []), (36, 47, 44, 0, []), (39, 0, 4294967293, 2, []), (41, 48, 59, 0, []), (44, 4, 0, 1, []), (45, 2, 1, 1, []), (46, 2, 2, 1, []), (47, 0, 1, 1, [])]
def mt_249_3 : List (Nat × mx_I) := [(48, 43, 55, 0, []), (51, 0, 1, 1, []), (52, 48, 56, 0, []), (55, 0, 0, 1, []), (56, 70, 248, 3, [12]), (59, 80, 0, 0, [])]
def mt_249 : List (List (Nat × mx_I)) := [mt_249_0, mt_249_1, mt_249_2, mt_249_3]
def mt_250_0 : List (Nat × mx_I) := [(0, 4, 0, 1, []), (1, 2, 1, 1, []), (2, 70, 166, 2, [12]), (5, 36, 18, 0, []), (8, 2, 2, 1, []), (9, 0, 0, 1, []), (10, 0, 11, 2, []), (12, 70, 163, 3, []), (15, 37, 21, 0, [])]
def mt_250_1 : List (Nat × mx_I) := [(18, 0, 4294967294, 2, []), (20, 80, 0, 0, []), (21, 4, 0, 1, []), (22, 4, 0, 1, []), (23, 51, 12, 3, []), (26, 2, 1, 1, []), (27, 58, 0, 0, []), (28, 70, 241, 2, [12]), (31, 4, 0, 1, [])]
def mt_250_2 : List (Nat × mx_I) := [(32, 51, 12, 63, []), (35, 0, 6, 2, []), (37, 47, 45, 0, []), (40, 0, 4294967293, 2, []), (42, 48, 60, 0, []), (45, 4, 0, 1, []), (46, 2, 1, 1, []), (47, 0, 1, 1, [])]
def mt_250_3 : List (Nat × mx_I) := [(48, 70, 248, 3, [12]), (51, 2, 2, 1, []), (52, 46, 59, 0, []), (55, 0, 1, 1, []), (56, 48, 60, 0, []), (59, 0, 0, 1, []), (60, 80, 0, 0, [])]
def mt_250 : List (List (Nat × mx_I)) := [mt_250_0, mt_250_1, mt_250_2, mt_250_3]
def mt_251_0 : List (Nat × mx_I) := [(0, 4, 0, 1, []), (1, 2, 1, 1, []), (2, 70, 166, 2, [12]), (5, 36, 18, 0, []), (8, 2, 2, 1, []), (9, 0, 0, 1, []), (10, 0, 11, 2, []), (12, 70, 163, 3, []), (15, 37, 21, 0, [])]
def mt_251_1 : List (Nat × mx_I) := [(18, 0, 4294967294, 2, []), (20, 80, 0, 0, []), (21, 4, 0, 1, []), (22, 4, 0, 1, []), (23, 51, 12, 3, []), (26, 2, 1, 1, []), (27, 58, 0, 0, []), (28, 70, 241, 2, [12]), (31, 4, 0, 1, [])]
def mt_251_2 : List (Nat × mx_I) := [(32, 51, 12, 63, []), (35, 0, 6, 2, []), (37, 47, 43, 0, []), (40, 0, 4294967293, 2, []), (42, 80, 0, 0, []), (43, 4, 0, 1, []), (44, 2, 1, 1, []), (45, 70, 247, 2, [12])]
def mt_251_3 : List (Nat × mx_I) := [(48, 5, 3, 1, []), (49, 0, 0, 1, []), (50, 5, 4, 2, []), (52, 1, 0, 1, []), (53, 6, 5, 2, []), (55, 0, 0, 1, []), (56, 5, 7, 2, []), (58, 2, 7, 2, []), (60, 2, 3, 1, []), (61, 45, 170, 0, [])]
def mt_251_4 : List (Nat × mx_I) := [(64, 2, 4, 2, []), (66, 36, 85, 0, []), (69, 4, 0, 1, []), (70, 51, 12, 66, []), (73, 2, 7, 2, []), (75, 58, 3, 0, []), (76, 3, 5, 2, []), (78, 27, 0, 0, []), (79, 38, 85, 0, [])]
def mt_251_5 : List (Nat × mx_I) := [(82, 48, 164, 0, []), (85, 0, 1, 1, []), (86, 5, 8, 2, []), (88, 0, 0, 1, []), (89, 5, 9, 2, []), (91, 2, 9, 2, []), (93, 2, 3, 1, []), (94, 45, 144, 0, [])]
def mt_251_6 : List (Nat × mx_I) := [(97, 2, 8, 2, []), (99, 36, 135, 0, []), (102, 4, 0, 1, []), (103, 51, 12, 66, []), (106, 2, 9, 2, []), (108, 58, 3, 0, []), (109, 4, 0, 1, []), (110, 51, 12, 66, [])]
def mt_251_7 : List (Nat × mx_I) := [(113, 2, 7, 2, []), (115, 58, 3, 0, []), (116, 27, 0, 0, []), (117, 38, 131, 0, []), (120, 4, 0, 1, []), (121, 51, 12, 65, []), (124, 2, 9, 2, []), (126, 58, 0, 0, []), (127, 2, 2, 1, [])]
def mt_251_8 : List (Nat × mx_I) := [(128, 46, 135, 0, []), (131, 0, 1, 1, []), (132, 48, 136, 0, []), (135, 0, 0, 1, []), (136, 5, 8, 2, []), (138, 8, 9, 1, []), (141, 48, 91, 0, [])]
def mt_251_9 : List (Nat × mx_I) := [(144, 2, 8, 2, []), (146, 37, 152, 0, []), (149, 48, 164, 0, []), (152, 0, 1, 1, []), (153, 5, 4, 2, []), (155, 4, 0, 1, []), (156, 51, 12, 66, []), (159, 2, 7, 2, [])]
def mt_251_10 : List (Nat × mx_I) := [(161, 58, 3, 0, []), (162, 6, 5, 2, []), (164, 8, 7, 1, []), (167, 48, 58, 0, []), (170, 2, 4, 2, []), (172, 36, 181, 0, []), (175, 3, 5, 2, [])]
def mt_251_11 : List (Nat × mx_I) := [(177, 29, 0, 0, []), (178, 48, 182, 0, []), (181, 0, 4294967295, 1, []), (182, 80, 0, 0, [])]
def mt_251 : List (List (Nat × mx_I)) := [mt_251_0, mt_251_1, mt_251_2, mt_251_3, mt_251_4, mt_251_5, mt_251_6, mt_251_7, mt_251_8, mt_251_9, mt_251_10, mt_251_11]
def mt_252_0 : List (Nat × mx_I) := [(0, 0, 0, 1, []), (1, 5, 2, 1, []), (2, 0, 0, 1, []), (3, 5, 3, 1, []), (4, 2, 3, 1, []), (5, 4, 0, 1, []), (6, 51, 12, 5, []), (9, 45, 96, 0, []), (12, 4, 0, 1, []), (13, 2, 1, 1, []), (14, 2, 3, 1, []), (15, 70, 208, 3, [12])]
def mt_252_1 : List (Nat × mx_I) := [(18, 36, 90, 0, []), (21, 4, 0, 1, []), (22, 2, 3, 1, []), (23, 4, 0, 1, []), (24, 51, 12, 1, []), (27, 70, 179, 3, [12]), (30, 39, 36, 0, [])]
def mt_252_2 : List (Nat × mx_I) := [(33, 48, 90, 0, []), (36, 4, 0, 1, []), (37, 51, 12, 6, []), (40, 2, 3, 1, []), (41, 58, 0, 0, []), (42, 70, 174, 1, []), (45, 4, 0, 1, []), (46, 51, 12, 6, [])]
def mt_252_3 : List (Nat × mx_I) := [(49, 2, 3, 1, []), (50, 58, 0, 0, []), (51, 70, 175, 1, []), (54, 11, 0, 0, []), (55, 0, 100, 2, []), (57, 14, 0, 0, []), (58, 5, 4, 2, []), (60, 2, 2, 1, []), (61, 4, 0, 1, []), (62, 51, 12, 7, [])]
def mt_252_4 : List (Nat × mx_I) := [(65, 2, 3, 1, []), (66, 58, 0, 0, []), (67, 2, 1, 1, []), (68, 43, 76, 0, []), (71, 2, 4, 2, []), (73, 48, 88, 0, []), (76, 4, 0, 1, []), (77, 51, 12, 6, [])]
def mt_252_5 : List (Nat × mx_I) := [(80, 2, 3, 1, []), (81, 58, 0, 0, []), (82, 70, 174, 1, []), (85, 2, 4, 2, []), (87, 10, 0, 0, []), (88, 9, 0, 0, []), (89, 5, 2, 1, []), (90, 8, 3, 1, []), (93, 48, 4, 0, [])]
def mt_252_6 : List (Nat × mx_I) := [(96, 2, 2, 1, []), (97, 80, 0, 0, [])]
def mt_252 : List (List (Nat × mx_I)) := [mt_252_0, mt_252_1, mt_252_2, mt_252_3, mt_252_4, mt_252_5, mt_252_6]
def mt_253_0 : List (Nat × mx_I) := [(0, 2, 1, 1, []), (1, 70, 167, 1, []), (4, 36, 36, 0, []), (7, 2, 2, 1, []), (8, 0, 0, 1, []), (9, 0, 999999, 3, []), (12, 70, 163, 3, []), (15, 36, 36, 0, [])]
def mt_253_1 : List (Nat × mx_I) := [(18, 4, 0, 1, []), (19, 2, 3, 1, []), (20, 70, 166, 2, [12]), (23, 36, 36, 0, []), (26, 4, 0, 1, []), (27, 51, 12, 3, []), (30, 2, 3, 1, []), (31, 58, 0, 0, [])]
def mt_253_2 : List (Nat × mx_I) := [(32, 2, 1, 1, []), (33, 42, 40, 0, []), (36, 1, 13835058055282163712, 3, []), (39, 81, 0, 0, []), (40, 4, 0, 1, []), (41, 2, 1, 1, []), (42, 4, 0, 1, []), (43, 51, 12, 1, []), (46, 70, 217, 3, [12])]
def mt_253_3 : List (Nat × mx_I) := [(49, 1, 0, 1, []), (50, 6, 4, 2, []), (52, 1, 0, 1, []), (53, 6, 6, 2, []), (55, 0, 0, 1, []), (56, 5, 8, 2, []), (58, 2, 8, 2, []), (60, 4, 0, 1, []), (61, 51, 12, 2, [])]
def mt_253_4 : List (Nat × mx_I) := [(64, 45, 105, 0, []), (67, 4, 0, 1, []), (68, 51, 12, 3, []), (71, 2, 8, 2, []), (73, 58, 0, 0, []), (74, 2, 1, 1, []), (75, 42, 81, 0, []), (78, 48, 99, 0, [])]
def mt_253_5 : List (Nat × mx_I) := [(81, 3, 4, 2, []), (83, 1, 1, 1, []), (84, 19, 0, 0, []), (85, 6, 4, 2, []), (87, 3, 6, 2, []), (89, 4, 0, 1, []), (90, 2, 8, 2, []), (92, 70, 252, 2, [12]), (95, 28, 0, 0, [])]
def mt_253_6 : List (Nat × mx_I) := [(96, 19, 0, 0, []), (97, 6, 6, 2, []), (99, 8, 8, 1, []), (102, 48, 58, 0, []), (105, 2, 2, 1, []), (106, 0, 3, 1, []), (107, 14, 0, 0, []), (108, 28, 0, 0, []), (109, 6, 8, 2, []), (111, 2, 2, 1, [])]
def mt_253_7 : List (Nat × mx_I) := [(112, 28, 0, 0, []), (113, 1, 2, 3, []), (116, 3, 8, 2, []), (118, 21, 0, 0, []), (119, 20, 0, 0, []), (120, 6, 10, 2, []), (122, 1, 0, 1, []), (123, 6, 12, 2, []), (125, 1, 0, 1, []), (126, 6, 14, 2, [])]
def mt_253_8 : List (Nat × mx_I) := [(128, 0, 0, 1, []), (129, 5, 16, 2, []), (131, 2, 16, 2, []), (133, 4, 0, 1, []), (134, 51, 12, 2, []), (137, 45, 239, 0, []), (140, 4, 0, 1, []), (141, 51, 12, 3, [])]
def mt_253_9 : List (Nat × mx_I) := [(144, 2, 16, 2, []), (146, 58, 0, 0, []), (147, 2, 1, 1, []), (148, 42, 154, 0, []), (151, 48, 233, 0, []), (154, 3, 8, 2, []), (156, 3, 4, 2, []), (158, 22, 0, 0, []), (159, 3, 8, 2, [])]
def mt_253_10 : List (Nat × mx_I) := [(161, 3, 4, 2, []), (163, 4, 0, 1, []), (164, 2, 16, 2, []), (166, 70, 219, 2, [12]), (169, 28, 0, 0, []), (170, 20, 0, 0, []), (171, 21, 0, 0, []), (172, 3, 4, 2, []), (174, 3, 4, 2, [])]
def mt_253_11 : List (Nat × mx_I) := [(176, 1, 1, 1, []), (177, 19, 0, 0, []), (178, 21, 0, 0, []), (179, 1, 2, 3, []), (182, 22, 0, 0, []), (183, 22, 0, 0, []), (184, 19, 0, 0, []), (185, 3, 6, 2, []), (187, 1, 0, 1, []), (188, 27, 0, 0, []), (189, 37, 200, 0, [])]
def mt_253_12 : List (Nat × mx_I) := [(192, 3, 10, 2, []), (194, 3, 4, 2, []), (196, 22, 0, 0, []), (197, 48, 213, 0, []), (200, 3, 10, 2, []), (202, 4, 0, 1, []), (203, 2, 16, 2, []), (205, 70, 252, 2, [12])]
def mt_253_13 : List (Nat × mx_I) := [(208, 28, 0, 0, []), (209, 21, 0, 0, []), (210, 3, 6, 2, []), (212, 22, 0, 0, []), (213, 19, 0, 0, []), (214, 6, 17, 2, []), (216, 3, 12, 2, []), (218, 3, 17, 2, []), (220, 19, 0, 0, []), (221, 6, 12, 2, []), (223, 2, 16, 2, [])]
def mt_253_14 : List (Nat × mx_I) := [(225, 2, 3, 1, []), (226, 43, 233, 0, []), (229, 3, 17, 2, []), (231, 6, 14, 2, []), (233, 8, 16, 1, []), (236, 48, 131, 0, []), (239, 4, 0, 1, [])]
def mt_253_15 : List (Nat × mx_I) := [(240, 2, 3, 1, []), (241, 70, 219, 2, [12]), (244, 37, 258, 0, []), (247, 3, 14, 2, []), (249, 2, 2, 1, []), (250, 28, 0, 0, []), (251, 19, 0, 0, []), (252, 3, 12, 2, []), (254, 20, 0, 0, []), (255, 48, 260, 0, [])]
def mt_253_16 : List (Nat × mx_I) := [(258, 3, 14, 2, []), (260, 81, 0, 0, [])]
def mt_253 : List (List (Nat × mx_I)) := [mt_253_0, mt_253_1, mt_253_2, mt_253_3, mt_253_4, mt_253_5, mt_253_6, mt_253_7, mt_253_8, mt_253_9, mt_253_10, mt_253_11, mt_253_12, mt_253_13, mt_253_14, mt_253_15, mt_253_16]
def mt_254_0 : List (Nat × mx_I) := [(0, 0, 0, 1, []), (1, 5, 2, 1, []), (2, 2, 2, 1, []), (3, 4, 0, 1, []), (4, 51, 12, 71, []), (7, 45, 38, 0, []), (10, 4, 0, 1, []), (11, 51, 12, 72, []), (14, 2, 2, 1, []), (15, 58, 0, 0, [])]
def mt_254_1 : List (Nat × mx_I) := [(16, 2, 1, 1, []), (17, 42, 30, 0, []), (20, 4, 0, 1, []), (21, 51, 12, 73, []), (24, 2, 2, 1, []), (25, 58, 0, 0, []), (26, 2, 1, 1, []), (27, 43, 32, 0, []), (30, 0, 1, 1, []), (31, 80, 2, 0, [])]
def mt_254_2 : List (Nat × mx_I) := [(32, 8, 2, 1, []), (35, 48, 2, 0, []), (38, 0, 0, 1, []), (39, 80, 2, 0, [])]
def mt_254 : List (List (Nat × mx_I)) := [mt_254_0, mt_254_1, mt_254_2]
def mt_255_0 : List (Nat × mx_I) := [(0, 2, 1, 1, []), (1, 0, 4294967295, 1, []), (2, 43, 12, 0, []), (5, 4, 0, 1, []), (6, 0, 0, 1, []), (7, 53, 12, 71, []), (10, 0, 0, 1, []), (11, 80, 0, 0, []), (12, 2, 1, 1, []), (13, 38, 49, 0, [])]
def mt_255_1 : List (Nat × mx_I) := [(16, 4, 0, 1, []), (17, 2, 1, 1, []), (18, 0, 100, 2, []), (20, 14, 0, 0, []), (21, 70, 166, 2, [12]), (24, 36, 49, 0, []), (27, 4, 0, 1, []), (28, 2, 1, 1, []), (29, 0, 100, 2, []), (31, 15, 0, 0, [])]
def mt_255_2 : List (Nat × mx_I) := [(32, 70, 166, 2, [12]), (35, 36, 49, 0, []), (38, 2, 1, 1, []), (39, 0, 100, 2, []), (41, 14, 0, 0, []), (42, 2, 1, 1, []), (43, 0, 100, 2, []), (45, 15, 0, 0, []), (46, 43, 52, 0, [])]
def mt_255_3 : List (Nat × mx_I) := [(49, 0, 4294967294, 2, []), (51, 80, 0, 0, []), (52, 4, 0, 1, []), (53, 2, 1, 1, []), (54, 0, 100, 2, []), (56, 14, 0, 0, []), (57, 70, 254, 2, [12]), (60, 37, 74, 0, []), (63, 4, 0, 1, [])]
def mt_255_4 : List (Nat × mx_I) := [(64, 2, 1, 1, []), (65, 0, 100, 2, []), (67, 15, 0, 0, []), (68, 70, 254, 2, [12]), (71, 36, 77, 0, []), (74, 0, 4294967293, 2, []), (76, 80, 0, 0, []), (77, 4, 0, 1, []), (78, 51, 12, 72, [])]
def mt_255_5 : List (Nat × mx_I) := [(81, 4, 0, 1, []), (82, 51, 12, 71, []), (85, 2, 1, 1, []), (86, 0, 100, 2, []), (88, 14, 0, 0, []), (89, 59, 0, 0, []), (90, 4, 0, 1, []), (91, 51, 12, 73, []), (94, 4, 0, 1, []), (95, 51, 12, 71, [])]
def mt_255_6 : List (Nat × mx_I) := [(98, 2, 1, 1, []), (99, 0, 100, 2, []), (101, 15, 0, 0, []), (102, 59, 0, 0, []), (103, 4, 0, 1, []), (104, 33, 0, 0, []), (105, 51, 12, 71, []), (108, 0, 1, 1, []), (109, 9, 0, 0, []), (110, 53, 12, 71, [])]
def mt_255_7 : List (Nat × mx_I) := [(113, 4, 0, 1, []), (114, 51, 12, 71, []), (117, 80, 0, 0, [])]
def mt_255 : List (List (Nat × mx_I)) := [mt_255_0, mt_255_1, mt_255_2, mt_255_3, mt_255_4, mt_255_5, mt_255_6, mt_255_7]
def mt_256_0 : List (Nat × mx_I) := [(0, 0, 4294967295, 1, []), (1, 5, 3, 1, []), (2, 0, 0, 1, []), (3, 5, 4, 2, []), (5, 2, 4, 2, []), (7, 4, 0, 1, []), (8, 51, 12, 5, []), (11, 45, 58, 0, []), (14, 4, 0, 1, []), (15, 2, 1, 1, [])]
def mt_256_1 : List (Nat × mx_I) := [(16, 2, 4, 2, []), (18, 70, 208, 3, [12]), (21, 36, 52, 0, []), (24, 4, 0, 1, []), (25, 51, 12, 9, []), (28, 2, 4, 2, []), (30, 58, 0, 0, []), (31, 2, 2, 1, [])]
def mt_256_2 : List (Nat × mx_I) := [(32, 45, 52, 0, []), (35, 2, 3, 1, []), (36, 38, 49, 0, []), (39, 4, 0, 1, []), (40, 2, 4, 2, []), (42, 2, 3, 1, []), (43, 70, 230, 3, [12]), (46, 36, 52, 0, [])]
def mt_256_3 : List (Nat × mx_I) := [(49, 2, 4, 2, []), (51, 5, 3, 1, []), (52, 8, 4, 1, []), (55, 48, 5, 0, []), (58, 2, 3, 1, []), (59, 39, 66, 0, []), (62, 0, 4294967295, 1, []), (63, 48, 81, 0, [])]
def mt_256_4 : List (Nat × mx_I) := [(66, 4, 0, 1, []), (67, 51, 12, 7, []), (70, 2, 3, 1, []), (71, 58, 0, 0, []), (72, 2, 1, 1, []), (73, 43, 80, 0, []), (76, 0, 1, 1, []), (77, 48, 81, 0, [])]
def mt_256_5 : List (Nat × mx_I) := [(80, 0, 0, 1, []), (81, 80, 0, 0, [])]
def mt_256 : List (List (Nat × mx_I)) := [mt_256_0, mt_256_1, mt_256_2, mt_256_3, mt_256_4, mt_256_5]
def mt_257_0 : List (Nat × mx_I) := [(0, 0, 0, 1, []), (1, 5, 3, 1, []), (2, 0, 0, 1, []), (3, 5, 4, 2, []), (5, 0, 0, 1, []), (6, 5, 5, 2, []), (8, 2, 5, 2, []), (10, 4, 0, 1, []), (11, 51, 12, 71, []), (14, 45, 151, 0, [])]
def mt_257_1 : List (Nat × mx_I) := [(17, 2, 1, 1, []), (18, 2, 5, 2, []), (20, 18, 0, 0, []), (21, 0, 1, 1, []), (22, 12, 0, 0, []), (23, 0, 1, 1, []), (24, 43, 37, 0, []), (27, 4, 0, 1, []), (28, 51, 12, 73, []), (31, 2, 5, 2, [])]
def mt_257_2 : List (Nat × mx_I) := [(33, 58, 0, 0, []), (34, 48, 44, 0, []), (37, 4, 0, 1, []), (38, 51, 12, 72, []), (41, 2, 5, 2, []), (43, 58, 0, 0, []), (44, 5, 6, 2, []), (46, 2, 1, 1, []), (47, 2, 5, 2, [])]
def mt_257_3 : List (Nat × mx_I) := [(49, 18, 0, 0, []), (50, 0, 1, 1, []), (51, 12, 0, 0, []), (52, 0, 1, 1, []), (53, 43, 66, 0, []), (56, 4, 0, 1, []), (57, 51, 12, 72, []), (60, 2, 5, 2, []), (62, 58, 0, 0, []), (63, 48, 73, 0, [])]
def mt_257_4 : List (Nat × mx_I) := [(66, 4, 0, 1, []), (67, 51, 12, 73, []), (70, 2, 5, 2, []), (72, 58, 0, 0, []), (73, 5, 7, 2, []), (75, 2, 3, 1, []), (76, 4, 0, 1, []), (77, 51, 12, 4, [])]
def mt_257_5 : List (Nat × mx_I) := [(80, 2, 6, 2, []), (82, 58, 0, 0, []), (83, 18, 0, 0, []), (84, 0, 1, 1, []), (85, 12, 0, 0, []), (86, 0, 1, 1, []), (87, 43, 92, 0, []), (90, 0, 4294967295, 1, []), (91, 80, 0, 0, []), (92, 2, 3, 1, []), (93, 0, 1, 1, []), (94, 4, 0, 1, []), (95, 51, 12, 4, [])]
def mt_257_6 : List (Nat × mx_I) := [(98, 2, 6, 2, []), (100, 58, 0, 0, []), (101, 17, 0, 0, []), (102, 13, 0, 0, []), (103, 5, 3, 1, []), (104, 2, 4, 2, []), (106, 4, 0, 1, []), (107, 2, 6, 2, []), (109, 2, 2, 1, []), (110, 70, 256, 3, [12])]
def mt_257_7 : List (Nat × mx_I) := [(113, 0, 1, 1, []), (114, 43, 121, 0, []), (117, 0, 1, 1, []), (118, 48, 122, 0, []), (121, 0, 0, 1, []), (122, 9, 0, 0, []), (123, 5, 4, 2, []), (125, 2, 4, 2, []), (127, 4, 0, 1, [])]
def mt_257_8 : List (Nat × mx_I) := [(128, 2, 7, 2, []), (130, 2, 2, 1, []), (131, 70, 256, 3, [12]), (134, 37, 141, 0, []), (137, 0, 1, 1, []), (138, 48, 142, 0, []), (141, 0, 0, 1, []), (142, 9, 0, 0, []), (143, 5, 4, 2, [])]
def mt_257_9 : List (Nat × mx_I) := [(145, 8, 5, 1, []), (148, 48, 8, 0, []), (151, 2, 4, 2, []), (153, 80, 0, 0, [])]
def mt_257 : List (List (Nat × mx_I)) := [mt_257_0, mt_257_1, mt_257_2, mt_257_3, mt_257_4, mt_257_5, mt_257_6, mt_257_7, mt_257_8, mt_257_9]
def mt_258_0 : List (Nat × mx_I) := [(0, 2, 1, 1, []), (1, 70, 164, 1, []), (4, 36, 16, 0, []), (7, 2, 2, 1, []), (8, 0, 0, 1, []), (9, 0, 1, 1, []), (10, 70, 163, 3, []), (13, 37, 19, 0, [])]
def mt_258_1 : List (Nat × mx_I) := [(16, 0, 4294967294, 2, []), (18, 80, 0, 0, []), (19, 0, 4294967295, 1, []), (20, 5, 3, 1, []), (21, 0, 4294967295, 1, []), (22, 5, 4, 2, []), (24, 0, 0, 1, []), (25, 5, 5, 2, []), (27, 2, 5, 2, []), (29, 0, 1, 1, []), (30, 4, 0, 1, []), (31, 51, 12, 71, [])]
def mt_258_2 : List (Nat × mx_I) := [(34, 17, 0, 0, []), (35, 45, 79, 0, []), (38, 4, 0, 1, []), (39, 2, 5, 2, []), (41, 2, 1, 1, []), (42, 70, 257, 3, [12]), (45, 5, 6, 2, []), (47, 2, 6, 2, [])]
def mt_258_3 : List (Nat × mx_I) := [(49, 38, 73, 0, []), (52, 2, 3, 1, []), (53, 38, 66, 0, []), (56, 2, 6, 2, []), (58, 2, 4, 2, []), (60, 44, 66, 0, []), (63, 48, 73, 0, [])]
def mt_258_4 : List (Nat × mx_I) := [(66, 2, 5, 2, []), (68, 5, 3, 1, []), (69, 2, 6, 2, []), (71, 5, 4, 2, []), (73, 8, 5, 1, []), (76, 48, 27, 0, []), (79, 2, 2, 1, [])]
def mt_258_5 : List (Nat × mx_I) := [(80, 37, 87, 0, []), (83, 2, 3, 1, []), (84, 48, 89, 0, []), (87, 2, 4, 2, []), (89, 80, 0, 0, [])]
def mt_258 : List (List (Nat × mx_I)) := [mt_258_0, mt_258_1, mt_258_2, mt_258_3, mt_258_4, mt_258_5]
def mt_259_0 : List (Nat × mx_I) := [(0, 2, 1, 1, []), (1, 49, 133, 0, [68, 73, 78, 83, 88, 93, 98, 103, 108, 113, 118, 123, 128])]
def mt_259_1 : List (Nat × mx_I) := []
def mt_259_2 : List (Nat × mx_I) := []
def mt_259_3 : List (Nat × mx_I) := []
def mt_259_4 : List (Nat × mx_I) := [(68, 4, 0, 1, []), (69, 51, 12, 1, []), (72, 80, 0, 0, []), (73, 4, 0, 1, []), (74, 51, 12, 2, []), (77, 80, 0, 0, []), (78, 4, 0, 1, []), (79, 51, 12, 5, [])]
def mt_259_5 : List (Nat × mx_I) := [(82, 80, 0, 0, []), (83, 4, 0, 1, []), (84, 51, 12, 10, []), (87, 80, 0, 0, []), (88, 4, 0, 1, []), (89, 51, 12, 16, []), (92, 80, 0, 0, []), (93, 4, 0, 1, []), (94, 51, 12, 15, [])]
def mt_259_6 : List (Nat × mx_I) := [(97, 80, 0, 0, []), (98, 4, 0, 1, []), (99, 51, 12, 27, []), (102, 80, 0, 0, []), (103, 4, 0, 1, []), (104, 51, 12, 32, []), (107, 80, 0, 0, []), (108, 4, 0, 1, []), (109, 51, 12, 41, [])]
def mt_259_7 : List (Nat × mx_I) := [(112, 80, 0, 0, []), (113, 4, 0, 1, []), (114, 51, 12, 42, []), (117, 80, 0, 0, []), (118, 4, 0, 1, []), (119, 51, 12, 46, []), (122, 80, 0, 0, []), (123, 4, 0, 1, []), (124, 51, 12, 50, []), (127, 80, 0, 0, [])]
def mt_259_8 : List (Nat × mx_I) := [(128, 4, 0, 1, []), (129, 51, 12, 71, []), (132, 80, 0, 0, []), (133, 0, 4294967294, 2, []), (135, 80, 0, 0, [])]
def mt_259 : List (List (Nat × mx_I)) := [mt_259_0, mt_259_1, mt_259_2, mt_259_3, mt_259_4, mt_259_5, mt_259_6, mt_259_7, mt_259_8]
def mt_260_0 : List (Nat × mx_I) := [(0, 2, 0, 1, []), (1, 0, 0, 1, []), (2, 0, 3, 1, []), (3, 70, 163, 3, []), (6, 80, 2, 0, [])]
def mt_260 : List (List (Nat × mx_I)) := [mt_260_0]
def mt_261_0 : List (Nat × mx_I) := [(0, 2, 1, 1, []), (1, 70, 260, 1, []), (4, 36, 26, 0, []), (7, 2, 2, 1, []), (8, 0, 4294967295, 1, []), (9, 0, 2, 1, []), (10, 70, 163, 3, []), (13, 36, 26, 0, [])]
def mt_261_1 : List (Nat × mx_I) := [(16, 2, 2, 1, []), (17, 38, 29, 0, []), (20, 2, 3, 1, []), (21, 0, 40, 2, []), (23, 47, 29, 0, []), (26, 0, 4294967294, 2, []), (28, 80, 0, 0, []), (29, 2, 2, 1, []), (30, 38, 40, 0, [])]
def mt_261_2 : List (Nat × mx_I) := [(33, 2, 3, 1, []), (34, 39, 40, 0, []), (37, 0, 4294967282, 2, []), (39, 80, 0, 0, []), (40, 4, 0, 1, []), (41, 51, 12, 74, []), (44, 2, 1, 1, []), (45, 2, 2, 1, []), (46, 59, 0, 0, []), (47, 4, 0, 1, [])]
def mt_261_3 : List (Nat × mx_I) := [(48, 51, 12, 75, []), (51, 2, 1, 1, []), (52, 2, 2, 1, []), (53, 39, 60, 0, []), (56, 0, 0, 1, []), (57, 48, 61, 0, []), (60, 2, 3, 1, []), (61, 59, 0, 0, []), (62, 0, 40, 2, [])]
def mt_261_4 : List (Nat × mx_I) := [(64, 2, 1, 1, []), (65, 11, 0, 0, []), (66, 5, 4, 2, []), (68, 2, 4, 2, []), (70, 0, 40, 2, []), (72, 2, 1, 1, []), (73, 11, 0, 0, []), (74, 0, 40, 2, []), (76, 9, 0, 0, []), (77, 45, 94, 0, [])]
def mt_261_5 : List (Nat × mx_I) := [(80, 4, 0, 1, []), (81, 51, 12, 76, []), (84, 2, 4, 2, []), (86, 0, 0, 1, []), (87, 59, 0, 0, []), (88, 8, 4, 1, []), (91, 48, 68, 0, []), (94, 0, 1, 1, []), (95, 80, 0, 0, [])]
def mt_261 : List (List (Nat × mx_I)) := [mt_261_0, mt_261_1, mt_261_2, mt_261_3, mt_261_4, mt_261_5]
def mt_262_0 : List (Nat × mx_I) := [(0, 2, 1, 1, []), (1, 70, 260, 1, []), (4, 37, 10, 0, []), (7, 0, 4294967294, 2, []), (9, 80, 0, 0, []), (10, 4, 0, 1, []), (11, 51, 12, 74, []), (14, 2, 1, 1, []), (15, 58, 0, 0, [])]
def mt_262_1 : List (Nat × mx_I) := [(16, 39, 22, 0, []), (19, 0, 4294967285, 2, []), (21, 80, 0, 0, []), (22, 2, 2, 1, []), (23, 0, 0, 1, []), (24, 4, 0, 1, []), (25, 51, 12, 75, []), (28, 2, 1, 1, []), (29, 58, 0, 0, []), (30, 0, 1, 1, []), (31, 10, 0, 0, [])]
def mt_262_2 : List (Nat × mx_I) := [(32, 70, 163, 3, []), (35, 37, 41, 0, []), (38, 0, 4294967284, 2, []), (40, 80, 0, 0, []), (41, 4, 0, 1, []), (42, 51, 12, 76, []), (45, 0, 40, 2, []), (47, 2, 1, 1, [])]
def mt_262_3 : List (Nat × mx_I) := [(48, 11, 0, 0, []), (49, 2, 2, 1, []), (50, 9, 0, 0, []), (51, 4, 0, 1, []), (52, 51, 12, 74, []), (55, 2, 1, 1, []), (56, 58, 0, 0, []), (57, 37, 65, 0, []), (60, 2, 3, 1, []), (61, 30, 0, 0, []), (62, 48, 81, 0, [])]
def mt_262_4 : List (Nat × mx_I) := [(65, 4, 0, 1, []), (66, 51, 12, 74, []), (69, 2, 1, 1, []), (70, 58, 0, 0, []), (71, 0, 1, 1, []), (72, 43, 80, 0, []), (75, 2, 3, 1, []), (76, 31, 0, 0, []), (77, 48, 81, 0, [])]
def mt_262_5 : List (Nat × mx_I) := [(80, 2, 3, 1, []), (81, 59, 0, 0, []), (82, 0, 1, 1, []), (83, 80, 0, 0, [])]
def mt_262 : List (List (Nat × mx_I)) := [mt_262_0, mt_262_1, mt_262_2, mt_262_3, mt_262_4, mt_262_5]
def mt_263_0 : List (Nat × mx_I) := [(0, 2, 1, 1, []), (1, 70, 260, 1, []), (4, 36, 14, 0, []), (7, 2, 3, 1, []), (8, 70, 260, 1, []), (11, 37, 17, 0, []), (14, 0, 4294967294, 2, [])]
def mt_263_1 : List (Nat × mx_I) := [(16, 80, 0, 0, []), (17, 4, 0, 1, []), (18, 51, 12, 74, []), (21, 2, 1, 1, []), (22, 58, 0, 0, []), (23, 38, 35, 0, []), (26, 4, 0, 1, []), (27, 51, 12, 74, []), (30, 2, 3, 1, []), (31, 58, 0, 0, [])]
def mt_263_2 : List (Nat × mx_I) := [(32, 39, 38, 0, []), (35, 0, 4294967285, 2, []), (37, 80, 0, 0, []), (38, 4, 0, 1, []), (39, 51, 12, 74, []), (42, 2, 1, 1, []), (43, 58, 0, 0, []), (44, 4, 0, 1, []), (45, 51, 12, 74, [])]
def mt_263_3 : List (Nat × mx_I) := [(48, 2, 3, 1, []), (49, 58, 0, 0, []), (50, 42, 56, 0, []), (53, 0, 4294967283, 2, []), (55, 80, 0, 0, []), (56, 2, 5, 2, []), (58, 38, 97, 0, []), (61, 2, 2, 1, []), (62, 38, 97, 0, [])]
def mt_263_4 : List (Nat × mx_I) := [(65, 2, 4, 2, []), (67, 38, 97, 0, []), (70, 2, 2, 1, []), (71, 4, 0, 1, []), (72, 51, 12, 75, []), (75, 2, 1, 1, []), (76, 58, 0, 0, []), (77, 2, 5, 2, []), (79, 10, 0, 0, [])]
def mt_263_5 : List (Nat × mx_I) := [(80, 46, 97, 0, []), (83, 2, 4, 2, []), (85, 4, 0, 1, []), (86, 51, 12, 75, []), (89, 2, 3, 1, []), (90, 58, 0, 0, []), (91, 2, 5, 2, []), (93, 10, 0, 0, []), (94, 47, 100, 0, [])]
def mt_263_6 : List (Nat × mx_I) := [(97, 0, 4294967284, 2, []), (99, 80, 0, 0, []), (100, 0, 0, 1, []), (101, 5, 6, 2, []), (103, 2, 6, 2, []), (105, 2, 5, 2, []), (107, 45, 137, 0, []), (110, 4, 0, 1, []), (111, 51, 12, 77, [])]
def mt_263_7 : List (Nat × mx_I) := [(114, 2, 6, 2, []), (116, 4, 0, 1, []), (117, 51, 12, 76, []), (120, 0, 40, 2, []), (122, 2, 1, 1, []), (123, 11, 0, 0, []), (124, 2, 2, 1, []), (125, 9, 0, 0, []), (126, 2, 6, 2, [])]
def mt_263_8 : List (Nat × mx_I) := [(128, 9, 0, 0, []), (129, 58, 0, 0, []), (130, 59, 0, 0, []), (131, 8, 6, 1, []), (134, 48, 103, 0, []), (137, 0, 0, 1, []), (138, 5, 6, 2, []), (140, 2, 6, 2, []), (142, 2, 5, 2, [])]
def mt_263_9 : List (Nat × mx_I) := [(144, 45, 175, 0, []), (147, 4, 0, 1, []), (148, 51, 12, 76, []), (151, 0, 40, 2, []), (153, 2, 3, 1, []), (154, 11, 0, 0, []), (155, 2, 4, 2, []), (157, 9, 0, 0, []), (158, 2, 6, 2, [])]
def mt_263_10 : List (Nat × mx_I) := [(160, 9, 0, 0, []), (161, 4, 0, 1, []), (162, 51, 12, 77, []), (165, 2, 6, 2, []), (167, 58, 0, 0, []), (168, 59, 0, 0, []), (169, 8, 6, 1, []), (172, 48, 140, 0, []), (175, 2, 5, 2, [])]
def mt_263_11 : List (Nat × mx_I) := [(177, 80, 0, 0, [])]
def mt_263 : List (List (Nat × mx_I)) := [mt_263_0, mt_263_1, mt_263_2, mt_263_3, mt_263_4, mt_263_5, mt_263_6, mt_263_7, mt_263_8, mt_263_9, mt_263_10, mt_263_11]
def mt_264_0 : List (Nat × mx_I) := [(0, 2, 1, 1, []), (1, 70, 260, 1, []), (4, 36, 27, 0, []), (7, 2, 2, 1, []), (8, 0, 0, 1, []), (9, 0, 2, 1, []), (10, 70, 163, 3, []), (13, 36, 27, 0, [])]
def mt_264_1 : List (Nat × mx_I) := [(16, 2, 4, 2, []), (18, 0, 0, 1, []), (19, 0, 13, 2, []), (21, 70, 163, 3, []), (24, 37, 30, 0, []), (27, 0, 4294967294, 2, []), (29, 80, 0, 0, []), (30, 4, 0, 1, []), (31, 51, 12, 74, [])]
def mt_264_2 : List (Nat × mx_I) := [(34, 2, 1, 1, []), (35, 58, 0, 0, []), (36, 39, 42, 0, []), (39, 0, 4294967285, 2, []), (41, 80, 0, 0, []), (42, 4, 0, 1, []), (43, 51, 12, 74, []), (46, 2, 1, 1, []), (47, 58, 0, 0, [])]
def mt_264_3 : List (Nat × mx_I) := [(48, 2, 2, 1, []), (49, 42, 55, 0, []), (52, 0, 4294967283, 2, []), (54, 80, 0, 0, []), (55, 0, 0, 1, []), (56, 5, 5, 2, []), (58, 0, 0, 1, []), (59, 5, 6, 2, []), (61, 2, 6, 2, []), (63, 2, 4, 2, [])]
def mt_264_4 : List (Nat × mx_I) := [(65, 45, 156, 0, []), (68, 2, 3, 1, []), (69, 28, 0, 0, []), (70, 0, 3, 1, []), (71, 2, 6, 2, []), (73, 11, 0, 0, []), (74, 28, 0, 0, []), (75, 19, 0, 0, []), (76, 6, 7, 2, []), (78, 3, 7, 2, [])]
def mt_264_5 : List (Nat × mx_I) := [(80, 1, 0, 1, []), (81, 27, 0, 0, []), (82, 38, 102, 0, []), (85, 3, 7, 2, []), (87, 1, 2, 3, []), (90, 19, 0, 0, []), (91, 4, 0, 1, []), (92, 51, 12, 75, []), (95, 2, 1, 1, [])]
def mt_264_6 : List (Nat × mx_I) := [(96, 58, 0, 0, []), (97, 28, 0, 0, []), (98, 27, 0, 0, []), (99, 38, 105, 0, []), (102, 0, 4294967284, 2, []), (104, 80, 0, 0, []), (105, 0, 40, 2, []), (107, 2, 1, 1, []), (108, 11, 0, 0, []), (109, 3, 7, 2, []), (111, 29, 0, 0, [])]
def mt_264_7 : List (Nat × mx_I) := [(112, 9, 0, 0, []), (113, 5, 9, 2, []), (115, 4, 0, 1, []), (116, 4, 0, 1, []), (117, 51, 12, 76, []), (120, 2, 9, 2, []), (122, 58, 0, 0, []), (123, 4, 0, 1, []), (124, 51, 12, 76, []), (127, 2, 9, 2, [])]
def mt_264_8 : List (Nat × mx_I) := [(129, 0, 1, 1, []), (130, 9, 0, 0, []), (131, 58, 0, 0, []), (132, 4, 0, 1, []), (133, 51, 12, 76, []), (136, 2, 9, 2, []), (138, 0, 2, 1, []), (139, 9, 0, 0, []), (140, 58, 0, 0, []), (141, 70, 178, 4, [12])]
def mt_264_9 : List (Nat × mx_I) := [(144, 41, 150, 0, []), (147, 8, 5, 1, []), (150, 8, 6, 1, []), (153, 48, 61, 0, []), (156, 2, 5, 2, []), (158, 80, 0, 0, [])]
def mt_264 : List (List (Nat × mx_I)) := [mt_264_0, mt_264_1, mt_264_2, mt_264_3, mt_264_4, mt_264_5, mt_264_6, mt_264_7, mt_264_8, mt_264_9]
def mt_265_0 : List (Nat × mx_I) := [(0, 2, 2, 1, []), (1, 0, 0, 1, []), (2, 0, 5, 1, []), (3, 70, 163, 3, []), (6, 37, 12, 0, []), (9, 0, 4294967294, 2, []), (11, 80, 0, 0, []), (12, 4, 0, 1, []), (13, 2, 1, 1, []), (14, 70, 170, 2, [12])]
def mt_265_1 : List (Nat × mx_I) := [(17, 37, 23, 0, []), (20, 0, 4294967285, 2, []), (22, 80, 0, 0, []), (23, 4, 0, 1, []), (24, 51, 12, 6, []), (27, 2, 1, 1, []), (28, 58, 0, 0, []), (29, 2, 2, 1, []), (30, 70, 171, 2, [])]
def mt_265_2 : List (Nat × mx_I) := [(33, 36, 45, 0, []), (36, 4, 0, 1, []), (37, 51, 12, 9, []), (40, 2, 1, 1, []), (41, 58, 0, 0, []), (42, 48, 47, 0, []), (45, 0, 4294967283, 2, []), (47, 80, 0, 0, [])]
def mt_265 : List (List (Nat × mx_I)) := [mt_265_0, mt_265_1, mt_265_2]
def mt_266_0 : List (Nat × mx_I) := [(0, 4, 0, 1, []), (1, 52, 0, 0, []), (4, 57, 0, 0, []), (5, 4, 0, 1, []), (6, 70, 268, 1, [99]), (9, 18, 0, 0, []), (10, 80, 0, 0, [])]
def mt_266 : List (List (Nat × mx_I)) := [mt_266_0]
def mt_267_0 : List (Nat × mx_I) := [(0, 4, 0, 1, []), (1, 70, 269, 1, [99]), (4, 36, 16, 0, []), (7, 4, 0, 1, []), (8, 52, 0, 0, []), (11, 2, 1, 1, []), (12, 70, 271, 2, []), (15, 80, 3, 0, [])]
def mt_267_1 : List (Nat × mx_I) := [(16, 4, 0, 1, []), (17, 52, 0, 0, []), (20, 2, 1, 1, []), (24, 80, 3, 0, [])]
def mt_267 : List (List (Nat × mx_I)) := [mt_267_0, mt_267_1]
def mt_268_0 : List (Nat × mx_I) := [(0, 55, 0, 0, []), (3, 36, 13, 0, []), (6, 4, 0, 1, []), (7, 52, 1, 0, []), (10, 48, 14, 0, []), (13, 0, 1, 1, []), (14, 80, 1, 0, [])]
def mt_268 : List (List (Nat × mx_I)) := [mt_268_0]
def mt_269_0 : List (Nat × mx_I) := [(0, 55, 0, 0, []), (3, 36, 17, 0, []), (6, 4, 0, 1, []), (7, 52, 1, 0, []), (10, 37, 17, 0, []), (13, 0, 1, 1, []), (14, 48, 18, 0, [])]
def mt_269_1 : List (Nat × mx_I) := [(17, 0, 0, 1, []), (18, 80, 2, 0, [])]
def mt_269 : List (List (Nat × mx_I)) := [mt_269_0, mt_269_1]
def mt_270_0 : List (Nat × mx_I) := [(0, 2, 0, 1, []), (1, 2, 1, 1, []), (2, 55, 1, 0, []), (5, 70, 274, 3, []), (8, 34, 0, 0, []), (9, 83, 0, 0, [])]
def mt_270 : List (List (Nat × mx_I)) := [mt_270_0]
def mt_271_0 : List (Nat × mx_I) := [(0, 2, 1, 1, []), (1, 4, 0, 1, []), (2, 57, 0, 0, []), (3, 70, 270, 2, []), (6, 4, 0, 1, []), (7, 2, 1, 1, []), (8, 58, 1, 0, []), (9, 0, 255, 3, []), (12, 12, 0, 0, []), (13, 32, 0, 0, []), (14, 80, 3, 0, [])]
def mt_271 : List (List (Nat × mx_I)) := [mt_271_0]
def mt_272_0 : List (Nat × mx_I) := [(0, 0, 0, 1, []), (1, 5, 3, 1, []), (2, 4, 0, 1, []), (3, 57, 0, 0, []), (4, 5, 4, 2, []), (6, 2, 3, 1, []), (7, 2, 4, 2, []), (9, 45, 22, 0, []), (12, 4, 0, 1, []), (13, 2, 3, 1, []), (14, 3, 1, 1, []), (15, 60, 0, 0, [])]
def mt_272_1 : List (Nat × mx_I) := [(16, 8, 3, 1, []), (19, 48, 6, 0, []), (22, 83, 0, 0, [])]
def mt_272 : List (List (Nat × mx_I)) := [mt_272_0, mt_272_1]
def mt_273_0 : List (Nat × mx_I) := [(0, 0, 0, 1, []), (1, 5, 2, 1, []), (2, 4, 0, 1, []), (3, 57, 0, 0, []), (4, 5, 3, 1, []), (5, 2, 2, 1, []), (6, 2, 3, 1, []), (7, 45, 20, 0, []), (10, 4, 0, 1, []), (11, 2, 2, 1, []), (12, 2, 1, 1, []), (13, 59, 0, 0, []), (14, 8, 2, 1, [])]
def mt_273_1 : List (Nat × mx_I) := [(17, 48, 5, 0, []), (20, 83, 0, 0, [])]
def mt_273 : List (List (Nat × mx_I)) := [mt_273_0, mt_273_1]
def mt_274_0 : List (Nat × mx_I) := [(0, 2, 0, 1, []), (1, 38, 9, 0, []), (4, 2, 0, 1, []), (5, 2, 1, 1, []), (6, 44, 16, 0, []), (9, 4, 2, 1, []), (10, 2, 0, 1, []), (11, 2, 1, 1, [])]
def mt_274_1 : List (Nat × mx_I) := [(16, 2, 0, 1, []), (17, 80, 0, 0, [])]
def mt_274 : List (List (Nat × mx_I)) := [mt_274_0, mt_274_1]
def mt_L_0 : List (Nat × mx_I) := [(0, 61, 11, 0, []), (3, 33, 0, 0, []), (4, 70, 118, 1, [98]), (7, 7, 1, 1, []), (8, 61, 12, 0, []), (11, 33, 0, 0, []), (12, 70, 181, 1, [98]), (15, 7, 2, 1, [])]
def mt_L_1 : List (Nat × mx_I) := [(16, 0, 0, 1, []), (17, 5, 3, 1, []), (18, 2, 3, 1, []), (19, 4, 0, 1, []), (20, 57, 0, 0, []), (21, 0, 6, 2, []), (23, 10, 0, 0, []), (24, 46, 1587, 0, []), (27, 4, 0, 1, []), (28, 2, 3, 1, []), (29, 58, 0, 0, []), (30, 0, 63, 2, [])]
def mt_L_2 : List (Nat × mx_I) := [(32, 12, 0, 0, []), (33, 49, 1581, 0, [208, 231, 264, 297, 350, 383, 426, 459, 522, 535, 568, 591, 634, 668, 702, 745, 778, 791, 834, 867, 910, 933, 966, 999, 1032, 1055, 1078, 1101, 1124, 1157, 1190, 1223, 1267, 1290, 1323, 1346, 1389, 1432, 1495, 1548])]
def mt_L_3 : List (Nat × mx_I) := []
def mt_L_4 : List (Nat × mx_I) := []
def mt_L_5 : List (Nat × mx_I) := []
def mt_L_6 : List (Nat × mx_I) := []
def mt_L_7 : List (Nat × mx_I) := []
def mt_L_8 : List (Nat × mx_I) := []
def mt_L_9 : List (Nat × mx_I) := []
def mt_L_10 : List (Nat × mx_I) := []
def mt_L_11 : List (Nat × mx_I) := []
def mt_L_12 : List (Nat × mx_I) := []
def mt_L_13 : List (Nat × mx_I) := [(208, 4, 1, 1, []), (209, 4, 0, 1, []), (210, 2, 3, 1, []), (211, 0, 1, 1, []), (212, 9, 0, 0, []), (213, 58, 0, 0, []), (214, 70, 119, 2, [11]), (217, 4, 2, 1, []), (218, 4, 0, 1, []), (219, 2, 3, 1, []), (220, 0, 1, 1, []), (221, 9, 0, 0, []), (222, 58, 0, 0, []), (223, 70, 165, 2, [12])]
def mt_L_14 : List (Nat × mx_I) := [(226, 42, 1581, 0, []), (229, 0, 0, 1, []), (230, 80, 2, 0, []), (231, 4, 1, 1, []), (232, 4, 0, 1, []), (233, 2, 3, 1, []), (234, 0, 1, 1, []), (235, 9, 0, 0, []), (236, 58, 0, 0, []), (237, 4, 0, 1, []), (238, 2, 3, 1, []), (239, 0, 2, 1, [])]
def mt_L_15 : List (Nat × mx_I) := [(240, 9, 0, 0, []), (241, 58, 0, 0, []), (242, 70, 120, 3, [11]), (245, 4, 2, 1, []), (246, 4, 0, 1, []), (247, 2, 3, 1, []), (248, 0, 1, 1, []), (249, 9, 0, 0, []), (250, 58, 0, 0, []), (251, 4, 0, 1, []), (252, 2, 3, 1, []), (253, 0, 2, 1, []), (254, 9, 0, 0, []), (255, 58, 0, 0, [])]
def mt_L_16 : List (Nat × mx_I) := [(256, 70, 168, 3, [12]), (259, 42, 1581, 0, []), (262, 0, 0, 1, []), (263, 80, 2, 0, []), (264, 4, 1, 1, []), (265, 4, 0, 1, []), (266, 2, 3, 1, []), (267, 0, 1, 1, []), (268, 9, 0, 0, []), (269, 58, 0, 0, []), (270, 4, 0, 1, []), (271, 2, 3, 1, [])]
def mt_L_17 : List (Nat × mx_I) := [(272, 0, 2, 1, []), (273, 9, 0, 0, []), (274, 58, 0, 0, []), (275, 70, 121, 3, [11]), (278, 4, 2, 1, []), (279, 4, 0, 1, []), (280, 2, 3, 1, []), (281, 0, 1, 1, []), (282, 9, 0, 0, []), (283, 58, 0, 0, []), (284, 4, 0, 1, []), (285, 2, 3, 1, []), (286, 0, 2, 1, []), (287, 9, 0, 0, [])]
def mt_L_18 : List (Nat × mx_I) := [(288, 58, 0, 0, []), (289, 70, 169, 3, [12]), (292, 42, 1581, 0, []), (295, 0, 0, 1, []), (296, 80, 2, 0, []), (297, 4, 1, 1, []), (298, 4, 0, 1, []), (299, 2, 3, 1, []), (300, 0, 1, 1, []), (301, 9, 0, 0, []), (302, 58, 0, 0, []), (303, 4, 0, 1, [])]
def mt_L_19 : List (Nat × mx_I) := [(304, 2, 3, 1, []), (305, 0, 2, 1, []), (306, 9, 0, 0, []), (307, 58, 0, 0, []), (308, 4, 0, 1, []), (309, 2, 3, 1, []), (310, 0, 3, 1, []), (311, 9, 0, 0, []), (312, 58, 0, 0, []), (313, 4, 0, 1, []), (314, 2, 3, 1, []), (315, 0, 4, 1, []), (316, 9, 0, 0, []), (317, 58, 0, 0, []), (318, 70, 122, 5, [11])]
def mt_L_20 : List (Nat × mx_I) := [(321, 4, 2, 1, []), (322, 4, 0, 1, []), (323, 2, 3, 1, []), (324, 0, 1, 1, []), (325, 9, 0, 0, []), (326, 58, 0, 0, []), (327, 4, 0, 1, []), (328, 2, 3, 1, []), (329, 0, 2, 1, []), (330, 9, 0, 0, []), (331, 58, 0, 0, []), (332, 4, 0, 1, []), (333, 2, 3, 1, []), (334, 0, 3, 1, []), (335, 9, 0, 0, [])]
def mt_L_21 : List (Nat × mx_I) := [(336, 58, 0, 0, []), (337, 4, 0, 1, []), (338, 2, 3, 1, []), (339, 0, 4, 1, []), (340, 9, 0, 0, []), (341, 58, 0, 0, []), (342, 70, 176, 5, [12]), (345, 42, 1581, 0, []), (348, 0, 0, 1, []), (349, 80, 2, 0, []), (350, 4, 1, 1, []), (351, 4, 0, 1, [])]
def mt_L_22 : List (Nat × mx_I) := [(352, 2, 3, 1, []), (353, 0, 1, 1, []), (354, 9, 0, 0, []), (355, 58, 0, 0, []), (356, 4, 0, 1, []), (357, 2, 3, 1, []), (358, 0, 2, 1, []), (359, 9, 0, 0, []), (360, 58, 0, 0, []), (361, 70, 123, 3, [11]), (364, 4, 2, 1, []), (365, 4, 0, 1, []), (366, 2, 3, 1, []), (367, 0, 1, 1, [])]
def mt_L_23 : List (Nat × mx_I) := [(368, 9, 0, 0, []), (369, 58, 0, 0, []), (370, 4, 0, 1, []), (371, 2, 3, 1, []), (372, 0, 2, 1, []), (373, 9, 0, 0, []), (374, 58, 0, 0, []), (375, 70, 177, 3, [12]), (378, 42, 1581, 0, []), (381, 0, 0, 1, []), (382, 80, 2, 0, []), (383, 4, 1, 1, [])]
def mt_L_24 : List (Nat × mx_I) := [(384, 4, 0, 1, []), (385, 2, 3, 1, []), (386, 0, 1, 1, []), (387, 9, 0, 0, []), (388, 58, 0, 0, []), (389, 4, 0, 1, []), (390, 2, 3, 1, []), (391, 0, 2, 1, []), (392, 9, 0, 0, []), (393, 58, 0, 0, []), (394, 4, 0, 1, []), (395, 2, 3, 1, []), (396, 0, 3, 1, []), (397, 9, 0, 0, []), (398, 58, 0, 0, []), (399, 70, 124, 4, [11])]
def mt_L_25 : List (Nat × mx_I) := [(402, 4, 2, 1, []), (403, 4, 0, 1, []), (404, 2, 3, 1, []), (405, 0, 1, 1, []), (406, 9, 0, 0, []), (407, 58, 0, 0, []), (408, 4, 0, 1, []), (409, 2, 3, 1, []), (410, 0, 2, 1, []), (411, 9, 0, 0, []), (412, 58, 0, 0, []), (413, 4, 0, 1, []), (414, 2, 3, 1, []), (415, 0, 3, 1, [])]
def mt_L_26 : List (Nat × mx_I) := [(416, 9, 0, 0, []), (417, 58, 0, 0, []), (418, 70, 178, 4, [12]), (421, 42, 1581, 0, []), (424, 0, 0, 1, []), (425, 80, 2, 0, []), (426, 4, 1, 1, []), (427, 4, 0, 1, []), (428, 2, 3, 1, []), (429, 0, 1, 1, []), (430, 9, 0, 0, []), (431, 58, 0, 0, [])]
def mt_L_27 : List (Nat × mx_I) := [(432, 4, 0, 1, []), (433, 2, 3, 1, []), (434, 0, 2, 1, []), (435, 9, 0, 0, []), (436, 58, 0, 0, []), (437, 70, 125, 3, [11]), (440, 4, 2, 1, []), (441, 4, 0, 1, []), (442, 2, 3, 1, []), (443, 0, 1, 1, []), (444, 9, 0, 0, []), (445, 58, 0, 0, []), (446, 4, 0, 1, []), (447, 2, 3, 1, [])]
def mt_L_28 : List (Nat × mx_I) := [(448, 0, 2, 1, []), (449, 9, 0, 0, []), (450, 58, 0, 0, []), (451, 70, 180, 3, [12]), (454, 42, 1581, 0, []), (457, 0, 0, 1, []), (458, 80, 2, 0, []), (459, 4, 1, 1, []), (460, 4, 0, 1, []), (461, 2, 3, 1, []), (462, 0, 1, 1, []), (463, 9, 0, 0, [])]
def mt_L_29 : List (Nat × mx_I) := [(464, 58, 0, 0, []), (465, 4, 0, 1, []), (466, 2, 3, 1, []), (467, 0, 2, 1, []), (468, 9, 0, 0, []), (469, 58, 0, 0, []), (470, 28, 0, 0, []), (471, 0, 32, 2, []), (473, 25, 0, 0, []), (474, 4, 0, 1, []), (475, 2, 3, 1, []), (476, 0, 3, 1, []), (477, 9, 0, 0, []), (478, 58, 0, 0, []), (479, 28, 0, 0, [])]
def mt_L_30 : List (Nat × mx_I) := [(480, 1, 4294967295, 3, []), (483, 23, 0, 0, []), (484, 24, 0, 0, []), (485, 70, 126, 3, [11]), (488, 4, 2, 1, []), (489, 4, 0, 1, []), (490, 2, 3, 1, []), (491, 0, 1, 1, []), (492, 9, 0, 0, []), (493, 58, 0, 0, []), (494, 4, 0, 1, []), (495, 2, 3, 1, [])]
def mt_L_31 : List (Nat × mx_I) := [(496, 0, 2, 1, []), (497, 9, 0, 0, []), (498, 58, 0, 0, []), (499, 28, 0, 0, []), (500, 0, 32, 2, []), (502, 25, 0, 0, []), (503, 4, 0, 1, []), (504, 2, 3, 1, []), (505, 0, 3, 1, []), (506, 9, 0, 0, []), (507, 58, 0, 0, []), (508, 28, 0, 0, []), (509, 1, 4294967295, 3, [])]
def mt_L_32 : List (Nat × mx_I) := [(512, 23, 0, 0, []), (513, 24, 0, 0, []), (514, 70, 182, 3, [12]), (517, 42, 1581, 0, []), (520, 0, 0, 1, []), (521, 80, 2, 0, []), (522, 4, 1, 1, []), (523, 70, 127, 1, [11]), (526, 4, 2, 1, []), (527, 70, 199, 1, [12])]
def mt_L_33 : List (Nat × mx_I) := [(530, 42, 1581, 0, []), (533, 0, 0, 1, []), (534, 80, 2, 0, []), (535, 4, 1, 1, []), (536, 4, 0, 1, []), (537, 2, 3, 1, []), (538, 0, 1, 1, []), (539, 9, 0, 0, []), (540, 58, 0, 0, []), (541, 4, 0, 1, []), (542, 2, 3, 1, []), (543, 0, 2, 1, [])]
def mt_L_34 : List (Nat × mx_I) := [(544, 9, 0, 0, []), (545, 58, 0, 0, []), (546, 70, 128, 3, [11]), (549, 4, 2, 1, []), (550, 4, 0, 1, []), (551, 2, 3, 1, []), (552, 0, 1, 1, []), (553, 9, 0, 0, []), (554, 58, 0, 0, []), (555, 4, 0, 1, []), (556, 2, 3, 1, []), (557, 0, 2, 1, []), (558, 9, 0, 0, []), (559, 58, 0, 0, [])]
def mt_L_35 : List (Nat × mx_I) := [(560, 70, 200, 3, [12]), (563, 42, 1581, 0, []), (566, 0, 0, 1, []), (567, 80, 2, 0, []), (568, 4, 1, 1, []), (569, 4, 0, 1, []), (570, 2, 3, 1, []), (571, 0, 1, 1, []), (572, 9, 0, 0, []), (573, 58, 0, 0, []), (574, 70, 129, 2, [11])]
def mt_L_36 : List (Nat × mx_I) := [(577, 4, 2, 1, []), (578, 4, 0, 1, []), (579, 2, 3, 1, []), (580, 0, 1, 1, []), (581, 9, 0, 0, []), (582, 58, 0, 0, []), (583, 70, 202, 2, [12]), (586, 42, 1581, 0, []), (589, 0, 0, 1, []), (590, 80, 2, 0, []), (591, 4, 1, 1, [])]
def mt_L_37 : List (Nat × mx_I) := [(592, 4, 0, 1, []), (593, 2, 3, 1, []), (594, 0, 1, 1, []), (595, 9, 0, 0, []), (596, 58, 0, 0, []), (597, 4, 0, 1, []), (598, 2, 3, 1, []), (599, 0, 2, 1, []), (600, 9, 0, 0, []), (601, 58, 0, 0, []), (602, 4, 0, 1, []), (603, 2, 3, 1, []), (604, 0, 3, 1, []), (605, 9, 0, 0, []), (606, 58, 0, 0, []), (607, 70, 130, 4, [11])]
def mt_L_38 : List (Nat × mx_I) := [(610, 4, 2, 1, []), (611, 4, 0, 1, []), (612, 2, 3, 1, []), (613, 0, 1, 1, []), (614, 9, 0, 0, []), (615, 58, 0, 0, []), (616, 4, 0, 1, []), (617, 2, 3, 1, []), (618, 0, 2, 1, []), (619, 9, 0, 0, []), (620, 58, 0, 0, []), (621, 4, 0, 1, []), (622, 2, 3, 1, []), (623, 0, 3, 1, [])]
def mt_L_39 : List (Nat × mx_I) := [(624, 9, 0, 0, []), (625, 58, 0, 0, []), (626, 70, 206, 4, [12]), (629, 42, 1581, 0, []), (632, 0, 0, 1, []), (633, 80, 2, 0, []), (634, 4, 1, 1, []), (635, 4, 0, 1, []), (636, 2, 3, 1, []), (637, 0, 1, 1, []), (638, 9, 0, 0, []), (639, 58, 0, 0, [])]
def mt_L_40 : List (Nat × mx_I) := [(640, 4, 0, 1, []), (641, 2, 3, 1, []), (642, 0, 2, 1, []), (643, 9, 0, 0, []), (644, 58, 0, 0, []), (645, 70, 131, 3, [11]), (648, 4, 2, 1, []), (649, 4, 0, 1, []), (650, 2, 3, 1, []), (651, 0, 1, 1, []), (652, 9, 0, 0, []), (653, 58, 0, 0, []), (654, 4, 0, 1, []), (655, 2, 3, 1, [])]
def mt_L_41 : List (Nat × mx_I) := [(656, 0, 2, 1, []), (657, 9, 0, 0, []), (658, 58, 0, 0, []), (659, 70, 215, 3, [12]), (662, 27, 0, 0, []), (663, 36, 1581, 0, []), (666, 0, 0, 1, []), (667, 80, 2, 0, []), (668, 4, 1, 1, []), (669, 4, 0, 1, []), (670, 2, 3, 1, []), (671, 0, 1, 1, [])]
def mt_L_42 : List (Nat × mx_I) := [(672, 9, 0, 0, []), (673, 58, 0, 0, []), (674, 4, 0, 1, []), (675, 2, 3, 1, []), (676, 0, 2, 1, []), (677, 9, 0, 0, []), (678, 58, 0, 0, []), (679, 70, 132, 3, [11]), (682, 4, 2, 1, []), (683, 4, 0, 1, []), (684, 2, 3, 1, []), (685, 0, 1, 1, []), (686, 9, 0, 0, []), (687, 58, 0, 0, [])]
def mt_L_43 : List (Nat × mx_I) := [(688, 4, 0, 1, []), (689, 2, 3, 1, []), (690, 0, 2, 1, []), (691, 9, 0, 0, []), (692, 58, 0, 0, []), (693, 70, 216, 3, [12]), (696, 27, 0, 0, []), (697, 36, 1581, 0, []), (700, 0, 0, 1, []), (701, 80, 2, 0, []), (702, 4, 1, 1, []), (703, 4, 0, 1, [])]
def mt_L_44 : List (Nat × mx_I) := [(704, 2, 3, 1, []), (705, 0, 1, 1, []), (706, 9, 0, 0, []), (707, 58, 0, 0, []), (708, 4, 0, 1, []), (709, 2, 3, 1, []), (710, 0, 2, 1, []), (711, 9, 0, 0, []), (712, 58, 0, 0, []), (713, 4, 0, 1, []), (714, 2, 3, 1, []), (715, 0, 3, 1, []), (716, 9, 0, 0, []), (717, 58, 0, 0, []), (718, 70, 133, 4, [11])]
def mt_L_45 : List (Nat × mx_I) := [(721, 4, 2, 1, []), (722, 4, 0, 1, []), (723, 2, 3, 1, []), (724, 0, 1, 1, []), (725, 9, 0, 0, []), (726, 58, 0, 0, []), (727, 4, 0, 1, []), (728, 2, 3, 1, []), (729, 0, 2, 1, []), (730, 9, 0, 0, []), (731, 58, 0, 0, []), (732, 4, 0, 1, []), (733, 2, 3, 1, []), (734, 0, 3, 1, []), (735, 9, 0, 0, [])]
def mt_L_46 : List (Nat × mx_I) := [(736, 58, 0, 0, []), (737, 70, 220, 4, [12]), (740, 42, 1581, 0, []), (743, 0, 0, 1, []), (744, 80, 2, 0, []), (745, 4, 1, 1, []), (746, 4, 0, 1, []), (747, 2, 3, 1, []), (748, 0, 1, 1, []), (749, 9, 0, 0, []), (750, 58, 0, 0, []), (751, 4, 0, 1, [])]
def mt_L_47 : List (Nat × mx_I) := [(752, 2, 3, 1, []), (753, 0, 2, 1, []), (754, 9, 0, 0, []), (755, 58, 0, 0, []), (756, 70, 134, 3, [11]), (759, 4, 2, 1, []), (760, 4, 0, 1, []), (761, 2, 3, 1, []), (762, 0, 1, 1, []), (763, 9, 0, 0, []), (764, 58, 0, 0, []), (765, 4, 0, 1, []), (766, 2, 3, 1, []), (767, 0, 2, 1, [])]
def mt_L_48 : List (Nat × mx_I) := [(768, 9, 0, 0, []), (769, 58, 0, 0, []), (770, 70, 221, 3, [12]), (773, 42, 1581, 0, []), (776, 0, 0, 1, []), (777, 80, 2, 0, []), (778, 4, 1, 1, []), (779, 70, 135, 1, [11]), (782, 4, 2, 1, []), (783, 70, 223, 1, [12])]
def mt_L_49 : List (Nat × mx_I) := [(786, 42, 1581, 0, []), (789, 0, 0, 1, []), (790, 80, 2, 0, []), (791, 4, 1, 1, []), (792, 4, 0, 1, []), (793, 2, 3, 1, []), (794, 0, 1, 1, []), (795, 9, 0, 0, []), (796, 58, 0, 0, []), (797, 4, 0, 1, []), (798, 2, 3, 1, []), (799, 0, 2, 1, [])]
def mt_L_50 : List (Nat × mx_I) := [(800, 9, 0, 0, []), (801, 58, 0, 0, []), (802, 4, 0, 1, []), (803, 2, 3, 1, []), (804, 0, 3, 1, []), (805, 9, 0, 0, []), (806, 58, 0, 0, []), (807, 70, 136, 4, [11]), (810, 4, 2, 1, []), (811, 4, 0, 1, []), (812, 2, 3, 1, []), (813, 0, 1, 1, []), (814, 9, 0, 0, []), (815, 58, 0, 0, [])]
def mt_L_51 : List (Nat × mx_I) := [(816, 4, 0, 1, []), (817, 2, 3, 1, []), (818, 0, 2, 1, []), (819, 9, 0, 0, []), (820, 58, 0, 0, []), (821, 4, 0, 1, []), (822, 2, 3, 1, []), (823, 0, 3, 1, []), (824, 9, 0, 0, []), (825, 58, 0, 0, []), (826, 70, 224, 4, [12]), (829, 42, 1581, 0, [])]
def mt_L_52 : List (Nat × mx_I) := [(832, 0, 0, 1, []), (833, 80, 2, 0, []), (834, 4, 1, 1, []), (835, 4, 0, 1, []), (836, 2, 3, 1, []), (837, 0, 1, 1, []), (838, 9, 0, 0, []), (839, 58, 0, 0, []), (840, 4, 0, 1, []), (841, 2, 3, 1, []), (842, 0, 2, 1, []), (843, 9, 0, 0, []), (844, 58, 0, 0, []), (845, 70, 137, 3, [11])]
def mt_L_53 : List (Nat × mx_I) := [(848, 4, 2, 1, []), (849, 4, 0, 1, []), (850, 2, 3, 1, []), (851, 0, 1, 1, []), (852, 9, 0, 0, []), (853, 58, 0, 0, []), (854, 4, 0, 1, []), (855, 2, 3, 1, []), (856, 0, 2, 1, []), (857, 9, 0, 0, []), (858, 58, 0, 0, []), (859, 70, 226, 3, [12]), (862, 42, 1581, 0, [])]
def mt_L_54 : List (Nat × mx_I) := [(865, 0, 0, 1, []), (866, 80, 2, 0, []), (867, 4, 1, 1, []), (868, 4, 0, 1, []), (869, 2, 3, 1, []), (870, 0, 1, 1, []), (871, 9, 0, 0, []), (872, 58, 0, 0, []), (873, 4, 0, 1, []), (874, 2, 3, 1, []), (875, 0, 2, 1, []), (876, 9, 0, 0, []), (877, 58, 0, 0, []), (878, 4, 0, 1, []), (879, 2, 3, 1, [])]
def mt_L_55 : List (Nat × mx_I) := [(880, 0, 3, 1, []), (881, 9, 0, 0, []), (882, 58, 0, 0, []), (883, 70, 138, 4, [11]), (886, 4, 2, 1, []), (887, 4, 0, 1, []), (888, 2, 3, 1, []), (889, 0, 1, 1, []), (890, 9, 0, 0, []), (891, 58, 0, 0, []), (892, 4, 0, 1, []), (893, 2, 3, 1, []), (894, 0, 2, 1, []), (895, 9, 0, 0, [])]
def mt_L_56 : List (Nat × mx_I) := [(896, 58, 0, 0, []), (897, 4, 0, 1, []), (898, 2, 3, 1, []), (899, 0, 3, 1, []), (900, 9, 0, 0, []), (901, 58, 0, 0, []), (902, 70, 227, 4, [12]), (905, 42, 1581, 0, []), (908, 0, 0, 1, []), (909, 80, 2, 0, []), (910, 4, 1, 1, []), (911, 4, 0, 1, [])]
def mt_L_57 : List (Nat × mx_I) := [(912, 2, 3, 1, []), (913, 0, 1, 1, []), (914, 9, 0, 0, []), (915, 58, 0, 0, []), (916, 70, 139, 2, [11]), (919, 4, 2, 1, []), (920, 4, 0, 1, []), (921, 2, 3, 1, []), (922, 0, 1, 1, []), (923, 9, 0, 0, []), (924, 58, 0, 0, []), (925, 70, 229, 2, [12])]
def mt_L_58 : List (Nat × mx_I) := [(928, 42, 1581, 0, []), (931, 0, 0, 1, []), (932, 80, 2, 0, []), (933, 4, 1, 1, []), (934, 4, 0, 1, []), (935, 2, 3, 1, []), (936, 0, 1, 1, []), (937, 9, 0, 0, []), (938, 58, 0, 0, []), (939, 4, 0, 1, []), (940, 2, 3, 1, []), (941, 0, 2, 1, []), (942, 9, 0, 0, []), (943, 58, 0, 0, [])]
def mt_L_59 : List (Nat × mx_I) := [(944, 70, 140, 3, [11]), (947, 4, 2, 1, []), (948, 4, 0, 1, []), (949, 2, 3, 1, []), (950, 0, 1, 1, []), (951, 9, 0, 0, []), (952, 58, 0, 0, []), (953, 4, 0, 1, []), (954, 2, 3, 1, []), (955, 0, 2, 1, []), (956, 9, 0, 0, []), (957, 58, 0, 0, []), (958, 70, 232, 3, [12])]
def mt_L_60 : List (Nat × mx_I) := [(961, 42, 1581, 0, []), (964, 0, 0, 1, []), (965, 80, 2, 0, []), (966, 4, 1, 1, []), (967, 4, 0, 1, []), (968, 2, 3, 1, []), (969, 0, 1, 1, []), (970, 9, 0, 0, []), (971, 58, 0, 0, []), (972, 4, 0, 1, []), (973, 2, 3, 1, []), (974, 0, 2, 1, []), (975, 9, 0, 0, [])]
def mt_L_61 : List (Nat × mx_I) := [(976, 58, 0, 0, []), (977, 70, 141, 3, [11]), (980, 4, 2, 1, []), (981, 4, 0, 1, []), (982, 2, 3, 1, []), (983, 0, 1, 1, []), (984, 9, 0, 0, []), (985, 58, 0, 0, []), (986, 4, 0, 1, []), (987, 2, 3, 1, []), (988, 0, 2, 1, []), (989, 9, 0, 0, []), (990, 58, 0, 0, []), (991, 70, 234, 3, [12])]
def mt_L_62 : List (Nat × mx_I) := [(994, 42, 1581, 0, []), (997, 0, 0, 1, []), (998, 80, 2, 0, []), (999, 4, 1, 1, []), (1000, 4, 0, 1, []), (1001, 2, 3, 1, []), (1002, 0, 1, 1, []), (1003, 9, 0, 0, []), (1004, 58, 0, 0, []), (1005, 4, 0, 1, []), (1006, 2, 3, 1, []), (1007, 0, 2, 1, [])]
def mt_L_63 : List (Nat × mx_I) := [(1008, 9, 0, 0, []), (1009, 58, 0, 0, []), (1010, 70, 142, 3, [11]), (1013, 4, 2, 1, []), (1014, 4, 0, 1, []), (1015, 2, 3, 1, []), (1016, 0, 1, 1, []), (1017, 9, 0, 0, []), (1018, 58, 0, 0, []), (1019, 4, 0, 1, []), (1020, 2, 3, 1, []), (1021, 0, 2, 1, []), (1022, 9, 0, 0, []), (1023, 58, 0, 0, [])]
def mt_L_64 : List (Nat × mx_I) := [(1024, 70, 235, 3, [12]), (1027, 42, 1581, 0, []), (1030, 0, 0, 1, []), (1031, 80, 2, 0, []), (1032, 4, 1, 1, []), (1033, 4, 0, 1, []), (1034, 2, 3, 1, []), (1035, 0, 1, 1, []), (1036, 9, 0, 0, []), (1037, 58, 0, 0, []), (1038, 70, 143, 2, [11])]
def mt_L_65 : List (Nat × mx_I) := [(1041, 4, 2, 1, []), (1042, 4, 0, 1, []), (1043, 2, 3, 1, []), (1044, 0, 1, 1, []), (1045, 9, 0, 0, []), (1046, 58, 0, 0, []), (1047, 70, 237, 2, [12]), (1050, 42, 1581, 0, []), (1053, 0, 0, 1, []), (1054, 80, 2, 0, []), (1055, 4, 1, 1, [])]
def mt_L_66 : List (Nat × mx_I) := [(1056, 4, 0, 1, []), (1057, 2, 3, 1, []), (1058, 0, 1, 1, []), (1059, 9, 0, 0, []), (1060, 58, 0, 0, []), (1061, 70, 144, 2, [11]), (1064, 4, 2, 1, []), (1065, 4, 0, 1, []), (1066, 2, 3, 1, []), (1067, 0, 1, 1, []), (1068, 9, 0, 0, []), (1069, 58, 0, 0, []), (1070, 70, 239, 2, [12])]
def mt_L_67 : List (Nat × mx_I) := [(1073, 42, 1581, 0, []), (1076, 0, 0, 1, []), (1077, 80, 2, 0, []), (1078, 4, 1, 1, []), (1079, 4, 0, 1, []), (1080, 2, 3, 1, []), (1081, 0, 1, 1, []), (1082, 9, 0, 0, []), (1083, 58, 0, 0, []), (1084, 70, 145, 2, [11]), (1087, 4, 2, 1, [])]
def mt_L_68 : List (Nat × mx_I) := [(1088, 4, 0, 1, []), (1089, 2, 3, 1, []), (1090, 0, 1, 1, []), (1091, 9, 0, 0, []), (1092, 58, 0, 0, []), (1093, 70, 240, 2, [12]), (1096, 42, 1581, 0, []), (1099, 0, 0, 1, []), (1100, 80, 2, 0, []), (1101, 4, 1, 1, []), (1102, 4, 0, 1, []), (1103, 2, 3, 1, [])]
def mt_L_69 : List (Nat × mx_I) := [(1104, 0, 1, 1, []), (1105, 9, 0, 0, []), (1106, 58, 0, 0, []), (1107, 70, 146, 2, [11]), (1110, 4, 2, 1, []), (1111, 4, 0, 1, []), (1112, 2, 3, 1, []), (1113, 0, 1, 1, []), (1114, 9, 0, 0, []), (1115, 58, 0, 0, []), (1116, 70, 242, 2, [12]), (1119, 42, 1581, 0, [])]
def mt_L_70 : List (Nat × mx_I) := [(1122, 0, 0, 1, []), (1123, 80, 2, 0, []), (1124, 4, 1, 1, []), (1125, 4, 0, 1, []), (1126, 2, 3, 1, []), (1127, 0, 1, 1, []), (1128, 9, 0, 0, []), (1129, 58, 0, 0, []), (1130, 4, 0, 1, []), (1131, 2, 3, 1, []), (1132, 0, 2, 1, []), (1133, 9, 0, 0, []), (1134, 58, 0, 0, []), (1135, 70, 147, 3, [11])]
def mt_L_71 : List (Nat × mx_I) := [(1138, 4, 2, 1, []), (1139, 4, 0, 1, []), (1140, 2, 3, 1, []), (1141, 0, 1, 1, []), (1142, 9, 0, 0, []), (1143, 58, 0, 0, []), (1144, 4, 0, 1, []), (1145, 2, 3, 1, []), (1146, 0, 2, 1, []), (1147, 9, 0, 0, []), (1148, 58, 0, 0, []), (1149, 70, 249, 3, [12])]
def mt_L_72 : List (Nat × mx_I) := [(1152, 42, 1581, 0, []), (1155, 0, 0, 1, []), (1156, 80, 2, 0, []), (1157, 4, 1, 1, []), (1158, 4, 0, 1, []), (1159, 2, 3, 1, []), (1160, 0, 1, 1, []), (1161, 9, 0, 0, []), (1162, 58, 0, 0, []), (1163, 4, 0, 1, []), (1164, 2, 3, 1, []), (1165, 0, 2, 1, []), (1166, 9, 0, 0, []), (1167, 58, 0, 0, [])]
def mt_L_73 : List (Nat × mx_I) := [(1168, 70, 148, 3, [11]), (1171, 4, 2, 1, []), (1172, 4, 0, 1, []), (1173, 2, 3, 1, []), (1174, 0, 1, 1, []), (1175, 9, 0, 0, []), (1176, 58, 0, 0, []), (1177, 4, 0, 1, []), (1178, 2, 3, 1, []), (1179, 0, 2, 1, []), (1180, 9, 0, 0, []), (1181, 58, 0, 0, []), (1182, 70, 250, 3, [12])]
def mt_L_74 : List (Nat × mx_I) := [(1185, 42, 1581, 0, []), (1188, 0, 0, 1, []), (1189, 80, 2, 0, []), (1190, 4, 1, 1, []), (1191, 4, 0, 1, []), (1192, 2, 3, 1, []), (1193, 0, 1, 1, []), (1194, 9, 0, 0, []), (1195, 58, 0, 0, []), (1196, 4, 0, 1, []), (1197, 2, 3, 1, []), (1198, 0, 2, 1, []), (1199, 9, 0, 0, [])]
def mt_L_75 : List (Nat × mx_I) := [(1200, 58, 0, 0, []), (1201, 70, 149, 3, [11]), (1204, 4, 2, 1, []), (1205, 4, 0, 1, []), (1206, 2, 3, 1, []), (1207, 0, 1, 1, []), (1208, 9, 0, 0, []), (1209, 58, 0, 0, []), (1210, 4, 0, 1, []), (1211, 2, 3, 1, []), (1212, 0, 2, 1, []), (1213, 9, 0, 0, []), (1214, 58, 0, 0, []), (1215, 70, 251, 3, [12])]
def mt_L_76 : List (Nat × mx_I) := [(1218, 42, 1581, 0, []), (1221, 0, 0, 1, []), (1222, 80, 2, 0, []), (1223, 4, 1, 1, []), (1224, 4, 0, 1, []), (1225, 2, 3, 1, []), (1226, 0, 1, 1, []), (1227, 9, 0, 0, []), (1228, 58, 0, 0, []), (1229, 4, 0, 1, []), (1230, 2, 3, 1, []), (1231, 0, 2, 1, [])]
def mt_L_77 : List (Nat × mx_I) := [(1232, 9, 0, 0, []), (1233, 58, 0, 0, []), (1234, 4, 0, 1, []), (1235, 2, 3, 1, []), (1236, 0, 3, 1, []), (1237, 9, 0, 0, []), (1238, 58, 0, 0, []), (1239, 70, 150, 4, [11]), (1242, 4, 2, 1, []), (1243, 4, 0, 1, []), (1244, 2, 3, 1, []), (1245, 0, 1, 1, []), (1246, 9, 0, 0, []), (1247, 58, 0, 0, [])]
def mt_L_78 : List (Nat × mx_I) := [(1248, 4, 0, 1, []), (1249, 2, 3, 1, []), (1250, 0, 2, 1, []), (1251, 9, 0, 0, []), (1252, 58, 0, 0, []), (1253, 4, 0, 1, []), (1254, 2, 3, 1, []), (1255, 0, 3, 1, []), (1256, 9, 0, 0, []), (1257, 58, 0, 0, []), (1258, 70, 253, 4, [12]), (1261, 27, 0, 0, []), (1262, 36, 1581, 0, [])]
def mt_L_79 : List (Nat × mx_I) := [(1265, 0, 0, 1, []), (1266, 80, 2, 0, []), (1267, 4, 1, 1, []), (1268, 4, 0, 1, []), (1269, 2, 3, 1, []), (1270, 0, 1, 1, []), (1271, 9, 0, 0, []), (1272, 58, 0, 0, []), (1273, 70, 151, 2, [11]), (1276, 4, 2, 1, []), (1277, 4, 0, 1, []), (1278, 2, 3, 1, []), (1279, 0, 1, 1, [])]
def mt_L_80 : List (Nat × mx_I) := [(1280, 9, 0, 0, []), (1281, 58, 0, 0, []), (1282, 70, 255, 2, [12]), (1285, 42, 1581, 0, []), (1288, 0, 0, 1, []), (1289, 80, 2, 0, []), (1290, 4, 1, 1, []), (1291, 4, 0, 1, []), (1292, 2, 3, 1, []), (1293, 0, 1, 1, []), (1294, 9, 0, 0, []), (1295, 58, 0, 0, [])]
def mt_L_81 : List (Nat × mx_I) := [(1296, 4, 0, 1, []), (1297, 2, 3, 1, []), (1298, 0, 2, 1, []), (1299, 9, 0, 0, []), (1300, 58, 0, 0, []), (1301, 70, 152, 3, [11]), (1304, 4, 2, 1, []), (1305, 4, 0, 1, []), (1306, 2, 3, 1, []), (1307, 0, 1, 1, []), (1308, 9, 0, 0, []), (1309, 58, 0, 0, []), (1310, 4, 0, 1, []), (1311, 2, 3, 1, [])]
def mt_L_82 : List (Nat × mx_I) := [(1312, 0, 2, 1, []), (1313, 9, 0, 0, []), (1314, 58, 0, 0, []), (1315, 70, 258, 3, [12]), (1318, 42, 1581, 0, []), (1321, 0, 0, 1, []), (1322, 80, 2, 0, []), (1323, 4, 1, 1, []), (1324, 4, 0, 1, []), (1325, 2, 3, 1, []), (1326, 0, 1, 1, []), (1327, 9, 0, 0, [])]
def mt_L_83 : List (Nat × mx_I) := [(1328, 58, 0, 0, []), (1329, 70, 153, 2, [11]), (1332, 4, 2, 1, []), (1333, 4, 0, 1, []), (1334, 2, 3, 1, []), (1335, 0, 1, 1, []), (1336, 9, 0, 0, []), (1337, 58, 0, 0, []), (1338, 70, 259, 2, [12]), (1341, 42, 1581, 0, [])]
def mt_L_84 : List (Nat × mx_I) := [(1344, 0, 0, 1, []), (1345, 80, 2, 0, []), (1346, 4, 1, 1, []), (1347, 4, 0, 1, []), (1348, 2, 3, 1, []), (1349, 0, 1, 1, []), (1350, 9, 0, 0, []), (1351, 58, 0, 0, []), (1352, 4, 0, 1, []), (1353, 2, 3, 1, []), (1354, 0, 2, 1, []), (1355, 9, 0, 0, []), (1356, 58, 0, 0, []), (1357, 4, 0, 1, []), (1358, 2, 3, 1, []), (1359, 0, 3, 1, [])]
def mt_L_85 : List (Nat × mx_I) := [(1360, 9, 0, 0, []), (1361, 58, 0, 0, []), (1362, 70, 154, 4, [11]), (1365, 4, 2, 1, []), (1366, 4, 0, 1, []), (1367, 2, 3, 1, []), (1368, 0, 1, 1, []), (1369, 9, 0, 0, []), (1370, 58, 0, 0, []), (1371, 4, 0, 1, []), (1372, 2, 3, 1, []), (1373, 0, 2, 1, []), (1374, 9, 0, 0, []), (1375, 58, 0, 0, [])]
def mt_L_86 : List (Nat × mx_I) := [(1376, 4, 0, 1, []), (1377, 2, 3, 1, []), (1378, 0, 3, 1, []), (1379, 9, 0, 0, []), (1380, 58, 0, 0, []), (1381, 70, 261, 4, [12]), (1384, 42, 1581, 0, []), (1387, 0, 0, 1, []), (1388, 80, 2, 0, []), (1389, 4, 1, 1, []), (1390, 4, 0, 1, []), (1391, 2, 3, 1, [])]
def mt_L_87 : List (Nat × mx_I) := [(1392, 0, 1, 1, []), (1393, 9, 0, 0, []), (1394, 58, 0, 0, []), (1395, 4, 0, 1, []), (1396, 2, 3, 1, []), (1397, 0, 2, 1, []), (1398, 9, 0, 0, []), (1399, 58, 0, 0, []), (1400, 4, 0, 1, []), (1401, 2, 3, 1, []), (1402, 0, 3, 1, []), (1403, 9, 0, 0, []), (1404, 58, 0, 0, []), (1405, 70, 155, 4, [11])]
def mt_L_88 : List (Nat × mx_I) := [(1408, 4, 2, 1, []), (1409, 4, 0, 1, []), (1410, 2, 3, 1, []), (1411, 0, 1, 1, []), (1412, 9, 0, 0, []), (1413, 58, 0, 0, []), (1414, 4, 0, 1, []), (1415, 2, 3, 1, []), (1416, 0, 2, 1, []), (1417, 9, 0, 0, []), (1418, 58, 0, 0, []), (1419, 4, 0, 1, []), (1420, 2, 3, 1, []), (1421, 0, 3, 1, []), (1422, 9, 0, 0, []), (1423, 58, 0, 0, [])]
def mt_L_89 : List (Nat × mx_I) := [(1424, 70, 262, 4, [12]), (1427, 42, 1581, 0, []), (1430, 0, 0, 1, []), (1431, 80, 2, 0, []), (1432, 4, 1, 1, []), (1433, 4, 0, 1, []), (1434, 2, 3, 1, []), (1435, 0, 1, 1, []), (1436, 9, 0, 0, []), (1437, 58, 0, 0, []), (1438, 4, 0, 1, []), (1439, 2, 3, 1, [])]
def mt_L_90 : List (Nat × mx_I) := [(1440, 0, 2, 1, []), (1441, 9, 0, 0, []), (1442, 58, 0, 0, []), (1443, 4, 0, 1, []), (1444, 2, 3, 1, []), (1445, 0, 3, 1, []), (1446, 9, 0, 0, []), (1447, 58, 0, 0, []), (1448, 4, 0, 1, []), (1449, 2, 3, 1, []), (1450, 0, 4, 1, []), (1451, 9, 0, 0, []), (1452, 58, 0, 0, []), (1453, 4, 0, 1, []), (1454, 2, 3, 1, []), (1455, 0, 5, 1, [])]
def mt_L_91 : List (Nat × mx_I) := [(1456, 9, 0, 0, []), (1457, 58, 0, 0, []), (1458, 70, 156, 6, [11]), (1461, 4, 2, 1, []), (1462, 4, 0, 1, []), (1463, 2, 3, 1, []), (1464, 0, 1, 1, []), (1465, 9, 0, 0, []), (1466, 58, 0, 0, []), (1467, 4, 0, 1, []), (1468, 2, 3, 1, []), (1469, 0, 2, 1, []), (1470, 9, 0, 0, []), (1471, 58, 0, 0, [])]
def mt_L_92 : List (Nat × mx_I) := [(1472, 4, 0, 1, []), (1473, 2, 3, 1, []), (1474, 0, 3, 1, []), (1475, 9, 0, 0, []), (1476, 58, 0, 0, []), (1477, 4, 0, 1, []), (1478, 2, 3, 1, []), (1479, 0, 4, 1, []), (1480, 9, 0, 0, []), (1481, 58, 0, 0, []), (1482, 4, 0, 1, []), (1483, 2, 3, 1, []), (1484, 0, 5, 1, []), (1485, 9, 0, 0, []), (1486, 58, 0, 0, []), (1487, 70, 263, 6, [12])]
def mt_L_93 : List (Nat × mx_I) := [(1490, 42, 1581, 0, []), (1493, 0, 0, 1, []), (1494, 80, 2, 0, []), (1495, 4, 1, 1, []), (1496, 4, 0, 1, []), (1497, 2, 3, 1, []), (1498, 0, 1, 1, []), (1499, 9, 0, 0, []), (1500, 58, 0, 0, []), (1501, 4, 0, 1, []), (1502, 2, 3, 1, []), (1503, 0, 2, 1, [])]
def mt_L_94 : List (Nat × mx_I) := [(1504, 9, 0, 0, []), (1505, 58, 0, 0, []), (1506, 4, 0, 1, []), (1507, 2, 3, 1, []), (1508, 0, 3, 1, []), (1509, 9, 0, 0, []), (1510, 58, 0, 0, []), (1511, 4, 0, 1, []), (1512, 2, 3, 1, []), (1513, 0, 4, 1, []), (1514, 9, 0, 0, []), (1515, 58, 0, 0, []), (1516, 70, 157, 5, [11]), (1519, 4, 2, 1, [])]
def mt_L_95 : List (Nat × mx_I) := [(1520, 4, 0, 1, []), (1521, 2, 3, 1, []), (1522, 0, 1, 1, []), (1523, 9, 0, 0, []), (1524, 58, 0, 0, []), (1525, 4, 0, 1, []), (1526, 2, 3, 1, []), (1527, 0, 2, 1, []), (1528, 9, 0, 0, []), (1529, 58, 0, 0, []), (1530, 4, 0, 1, []), (1531, 2, 3, 1, []), (1532, 0, 3, 1, []), (1533, 9, 0, 0, []), (1534, 58, 0, 0, []), (1535, 4, 0, 1, [])]
def mt_L_96 : List (Nat × mx_I) := [(1536, 2, 3, 1, []), (1537, 0, 4, 1, []), (1538, 9, 0, 0, []), (1539, 58, 0, 0, []), (1540, 70, 264, 5, [12]), (1543, 42, 1581, 0, []), (1546, 0, 0, 1, []), (1547, 80, 2, 0, []), (1548, 4, 1, 1, []), (1549, 4, 0, 1, []), (1550, 2, 3, 1, []), (1551, 0, 1, 1, [])]
def mt_L_97 : List (Nat × mx_I) := [(1552, 9, 0, 0, []), (1553, 58, 0, 0, []), (1554, 4, 0, 1, []), (1555, 2, 3, 1, []), (1556, 0, 2, 1, []), (1557, 9, 0, 0, []), (1558, 58, 0, 0, []), (1559, 70, 158, 3, [11]), (1562, 4, 2, 1, []), (1563, 4, 0, 1, []), (1564, 2, 3, 1, []), (1565, 0, 1, 1, []), (1566, 9, 0, 0, []), (1567, 58, 0, 0, [])]
def mt_L_98 : List (Nat × mx_I) := [(1568, 4, 0, 1, []), (1569, 2, 3, 1, []), (1570, 0, 2, 1, []), (1571, 9, 0, 0, []), (1572, 58, 0, 0, []), (1573, 70, 265, 3, [12]), (1576, 42, 1581, 0, []), (1579, 0, 0, 1, []), (1580, 80, 2, 0, []), (1581, 8, 3, 6, [])]
def mt_L_99 : List (Nat × mx_I) := [(1584, 48, 18, 0, []), (1587, 0, 1, 1, []), (1588, 80, 2, 0, [])]
def mt_L : List (List (Nat × mx_I)) := [mt_L_0, mt_L_1, mt_L_2, mt_L_3, mt_L_4, mt_L_5, mt_L_6, mt_L_7, mt_L_8, mt_L_9, mt_L_10, mt_L_11, mt_L_12, mt_L_13, mt_L_14, mt_L_15, mt_L_16, mt_L_17, mt_L_18, mt_L_19, mt_L_20, mt_L_21, mt_L_22, mt_L_23, mt_L_24, mt_L_25, mt_L_26, mt_L_27, mt_L_28, mt_L_29, mt_L_30, mt_L_31, mt_L_32, mt_L_33, mt_L_34, mt_L_35, mt_L_36, mt_L_37, mt_L_38, mt_L_39, mt_L_40, mt_L_41, mt_L_42, mt_L_43, mt_L_44, mt_L_45, mt_L_46, mt_L_47, mt_L_48, mt_L_49, mt_L_50, mt_L_51, mt_L_52, mt_L_53, mt_L_54, mt_L_55, mt_L_56, mt_L_57, mt_L_58, mt_L_59, mt_L_60, mt_L_61, mt_L_62, mt_L_63, mt_L_64, mt_L_65, mt_L_66, mt_L_67, mt_L_68, mt_L_69, mt_L_70, mt_L_71, mt_L_72, mt_L_73, mt_L_74, mt_L_75, mt_L_76, mt_L_77, mt_L_78, mt_L_79, mt_L_80, mt_L_81, mt_L_82, mt_L_83, mt_L_84, mt_L_85, mt_L_86, mt_L_87, mt_L_88, mt_L_89, mt_L_90, mt_L_91, mt_L_92, mt_L_93, mt_L_94, mt_L_95, mt_L_96, mt_L_97, mt_L_98, mt_L_99]
def mx_codeL : List (List (Nat × List (List (Nat × mx_I)))) := [[(1, mt_0), (2, mt_1), (2, mt_2), (2, mt_3), (3, mt_4), (3, mt_5), (2, mt_6), (2, mt_7), (2, mt_8), (8, mt_9), (4, mt_10), (3, mt_11), (4, mt_12), (4, mt_13), (5, mt_14), (6, mt_15)],
  [(3, mt_16), (5, mt_17), (5, mt_18), (5, mt_19), (3, mt_20), (3, mt_21), (6, mt_22), (2, mt_23), (2, mt_24), (2, mt_25), (5, mt_26), (5, mt_27), (3, mt_28), (4, mt_29), (3, mt_30), (3, mt_31)],
  [(4, mt_32), (2, mt_33), (1, mt_34), (3, mt_35), (3, mt_36), (4, mt_37), (4, mt_38), (9, mt_39), (3, mt_40), (13, mt_41), (13, mt_42), (4, mt_43), (2, mt_44), (3, mt_45), (7, mt_46), (4, mt_47)],
  [(3, mt_48), (3, mt_49), (3, mt_50), (5, mt_51), (4, mt_52), (5, mt_53), (1, mt_54), (1, mt_55), (1, mt_56), (1, mt_57), (2, mt_58), (2, mt_59), (5, mt_60), (3, mt_61), (2, mt_62), (3, mt_63)],
  [(2, mt_64), (1, mt_65), (1, mt_66), (2, mt_67), (2, mt_68), (3, mt_69), (3, mt_70), (2, mt_71), (1, mt_72), (3, mt_73), (4, mt_74), (1, mt_75), (2, mt_76), (1, mt_77), (2, mt_78), (5, mt_79)],
  [(2, mt_80), (2, mt_81), (4, mt_82), (3, mt_83), (5, mt_84), (6, mt_85), (3, mt_86), (2, mt_87), (7, mt_88), (4, mt_89), (4, mt_90), (4, mt_91), (8, mt_92), (6, mt_93), (4, mt_94), (4, mt_95)],
  [(4, mt_96), (3, mt_97), (4, mt_98), (8, mt_99), (4, mt_100), (5, mt_101), (2, mt_102), (2, mt_103), (7, mt_104), (4, mt_105), (1, mt_106), (1, mt_107), (2, mt_108), (2, mt_109), (2, mt_110), (2, mt_111)],
  [(6, mt_112), (7, mt_113), (5, mt_114), (4, mt_115), (10, mt_116), (3, mt_117), (2, mt_118), (2, mt_119), (3, mt_120), (4, mt_121), (5, mt_122), (4, mt_123), (4, mt_124), (3, mt_125), (5, mt_126), (2, mt_127)],
  [(3, mt_128), (2, mt_129), (4, mt_130), (3, mt_131), (3, mt_132), (4, mt_133), (3, mt_134), (1, mt_135), (4, mt_136), (3, mt_137), (4, mt_138), (2, mt_139), (3, mt_140), (3, mt_141), (3, mt_142), (2, mt_143)],
  [(2, mt_144), (2, mt_145), (2, mt_146), (3, mt_147), (3, mt_148), (3, mt_149), (4, mt_150), (4, mt_151), (3, mt_152), (2, mt_153), (4, mt_154), (4, mt_155), (6, mt_156), (9, mt_157), (3, mt_158), (4, mt_159)],
  [(2, mt_160), (2, mt_161), (4, mt_162), (3, mt_163), (1, mt_164), (2, mt_165), (2, mt_166), (1, mt_167), (3, mt_168), (4, mt_169), (2, mt_170), (2, mt_171), (1, mt_172), (1, mt_173), (1, mt_174), (1, mt_175)],
  [(5, mt_176), (3, mt_177), (4, mt_178), (4, mt_179), (3, mt_180), (3, mt_181), (5, mt_182), (1, mt_183), (1, mt_184), (1, mt_185), (1, mt_186), (6, mt_187), (1, mt_188), (3, mt_189), (1, mt_190), (2, mt_191)],
  [(1, mt_192), (1, mt_193), (2, mt_194), (2, mt_195), (1, mt_196), (1, mt_197), (2, mt_198), (1, mt_199), (3, mt_200), (4, mt_201), (2, mt_202), (3, mt_203), (6, mt_204), (7, mt_205), (4, mt_206), (3, mt_207)],
  [(3, mt_208), (2, mt_209), (6, mt_210), (6, mt_211), (6, mt_212), (3, mt_213), (4, mt_214), (3, mt_215), (3, mt_216), (4, mt_217), (3, mt_218), (4, mt_219), (5, mt_220), (3, mt_221), (2, mt_222), (1, mt_223)],
  [(4, mt_224), (5, mt_225), (3, mt_226), (4, mt_227), (4, mt_228), (2, mt_229), (3, mt_230), (8, mt_231), (3, mt_232), (4, mt_233), (3, mt_234), (4, mt_235), (3, mt_236), (4, mt_237), (7, mt_238), (6, mt_239)],
  [(5, mt_240), (3, mt_241), (2, mt_242), (1, mt_243), (3, mt_244), (3, mt_245), (8, mt_246), (4, mt_247), (6, mt_248), (3, mt_249), (3, mt_250), (10, mt_251), (5, mt_252), (19, mt_253), (3, mt_254), (2, mt_255)],
  [(5, mt_256), (8, mt_257), (7, mt_258), (2, mt_259), (1, mt_260), (5, mt_261), (4, mt_262), (7, mt_263), (10, mt_264), (3, mt_265), (1, mt_266), (2, mt_267), (1, mt_268), (1, mt_269), (2, mt_270), (2, mt_271)],
  [(5, mt_272), (4, mt_273), (3, mt_274)]]
def mx_code (k : Nat) : Nat × List (List (Nat × mx_I)) := match mx_nth mx_codeL (k / 16) with
  | some l => (match mx_nth l (k % 16) with
    | some c => c
    | none => (0, []))
  | none => (0, [])
end
section
/-! A RUN WITH UNKNOWN NUMBERS: a value is a known one, or (number s of the unknown ones) + k, or any int (true), any long (false) -/
abbrev ax_V : Type := Value ⊕ ((Nat × Int) ⊕ Bool)
abbrev ax_E : Type := (Nat × List ax_V) ⊕ ((Nat × vp_A) ⊕ (Nat × Nat))
/-- the memory: how many cells, and a tree of them -/
def ax_Tr : Nat → Type
  | 0 => Option ax_E
  | n + 1 => ax_Tr n × ax_Tr n
def ax_te : (n : Nat) → ax_Tr n
  | 0 => (none : Option ax_E)
  | n + 1 => (ax_te n, ax_te n)
def ax_tg : (n : Nat) → ax_Tr n → Nat → Option ax_E
  | 0, t, _ => t
  | n + 1, t, q => bif Nat.beq (q % 2) 0 then ax_tg n t.1 (q / 2) else ax_tg n t.2 (q / 2)
def ax_ts : (n : Nat) → ax_Tr n → Nat → ax_E → ax_Tr n
  | 0, _, _, e => some e
  | n + 1, t, q, e => bif Nat.beq (q % 2) 0 then (ax_ts n t.1 (q / 2) e, t.2) else (t.1, ax_ts n t.2 (q / 2) e)
abbrev ax_M : Type := Nat × ax_Tr 8
def ax_mg (M : ax_M) (q : Nat) : Option ax_E := bif Nat.blt q M.1 then ax_tg 8 M.2 q else none
def ax_ms (M : ax_M) (q : Nat) (e : ax_E) : ax_M := (M.1, ax_ts 8 M.2 q e)
def ax_ma (M : ax_M) (e : ax_E) : ax_M := (M.1 + 1, ax_ts 8 M.2 M.1 e)
abbrev ax_L : Type := List (Nat × ax_V)
/-- between what bounds each unknown number is -/
abbrev ax_B : Type := List (Int × Int)
abbrev ax_C : Type := Nat × ax_L × List ax_V × ax_M × ax_B
abbrev ax_O : Type := Option ax_V × ax_M × ax_B
def ax_any : ax_V := .inr (.inr true)
def ax_anyL : ax_V := .inr (.inr false)
def ax_int (x : Int32) : ax_V := .inl (.int x)
def ax_lk (i : Nat) : ax_L → Option ax_V
  | [] => none
  | (j, v) :: l => bif Nat.beq j i then some v else ax_lk i l
/-- a value of two words -/
def ax_is2 : ax_V → Bool
  | .inl v => mx_is2 v
  | .inr (.inl _) => false
  | .inr (.inr b) => !b
def ax_sto (i : Nat) (v : ax_V) (lv : ax_L) : ax_L := (i, v) :: lv.filter (fun q => !(Nat.beq q.1 i) && !(Nat.beq (q.1 + 1) i && ax_is2 q.2))
def ax_sto2 (i : Nat) (v : ax_V) (lv : ax_L) : ax_L := (i, v) :: lv.filter (fun q => !(Nat.beq q.1 i) && (!(Nat.beq q.1 (i + 1)) && !(Nat.beq (q.1 + 1) i && ax_is2 q.2)))
/-- a number whose bounds are one is known -/
def ax_nrm (B : ax_B) (v : ax_V) : ax_V := match v with
  | .inr (.inl (s, k)) => (match mx_nth B s with
    | some (lo, hi) => bif lo == hi then .inl (.int (Int32.ofInt (lo + k))) else v
    | none => v)
  | v => v
/-- kinds: 0 an int, 1 a long, 2 a reference, 3 something else -/
def ax_kind : ax_V → Nat
  | .inl (.int _) => 0
  | .inl (.long _) => 1
  | .inl (.ref _) => 2
  | .inl _ => 3
  | .inr (.inl _) => 0
  | .inr (.inr true) => 0
  | .inr (.inr false) => 1
/-- numbers made of unknown ones, by what they are made of: (operation, number, constant) -/
abbrev ax_T : Type := List (Nat × Nat × Int32)
def ax_der (o s : Nat) (y : Int32) : ax_T → Nat → Option Nat
  | [], _ => none
  | (p, t, z) :: r, k => bif Nat.beq p o && (Nat.beq t s && z == y) then some k else ax_der o s y r (k + 1)
/-- a sum with a constant that stays within 32 bits -/
def ax_off (B : ax_B) (s : Nat) (k d : Int) : ax_V := match mx_nth B s with
  | some (lo, hi) => bif decide (-2147483648 ≤ lo + k + d) && decide (hi + k + d ≤ 2147483647) then .inr (.inl (s, k + d)) else ax_any
  | none => ax_any
/-! two ints: what an operation makes of them -/
def ax_drv (DT : ax_T) (n0 o s : Nat) (k : Int) (b : Int32) : ax_V := match ax_der o s b DT n0 with
  | some t => bif k == 0 then .inr (.inl (t, 0)) else ax_any
  | none => ax_any
def ax_iiC (DT : ax_T) (n0 : Nat) (B : ax_B) (o s : Nat) (k : Int) (b : Int32) : Option ax_V := bif Nat.beq o 9 then some (ax_off B s k b.toInt) else bif Nat.beq o 10 then some (ax_off B s k (-b.toInt)) else bif Nat.beq o 14 || Nat.beq o 15 then (bif b == 0 then none else some (ax_drv DT n0 o s k b)) else bif Nat.beq o 12 then some (ax_drv DT n0 o s k b) else some ax_any
def ax_iiD (B : ax_B) (o s : Nat) (k : Int) (a : Int32) : Option ax_V := bif Nat.beq o 9 then some (ax_off B s k a.toInt) else bif Nat.beq o 14 || Nat.beq o 15 then none else some ax_any
/-- it may be 0 -/
def ax_zer (y : ax_V) : Bool := match y with
  | .inl (.int b) => b == 0
  | _ => true
def ax_ii (DT : ax_T) (n0 : Nat) (B : ax_B) (o : Nat) (x y : ax_V) : Option ax_V := match x, y with
  | .inr (.inl p), .inl (.int b) => ax_iiC DT n0 B o p.1 p.2 b
  | .inl (.int a), .inr (.inl p) => ax_iiD B o p.1 p.2 a
  | x, y => bif (Nat.beq (ax_kind x) 0 && Nat.beq (ax_kind y) 0) && !((Nat.beq o 14 || Nat.beq o 15) && ax_zer y) then some ax_any else none
/-- the operands of an operation on known values -/
def ax_top (n : Nat) (st : List ax_V) : Option (List Value × List ax_V) := match n, st with
  | 0, st => some ([], st)
  | n + 1, .inl v :: st => (match ax_top n st with
    | some (l, r) => some (v :: l, r)
    | none => none)
  | _, _ => none
def ax_emb (l : List Value) : List ax_V := l.map .inl
/-- how many operands an operation on the stack alone takes -/
def ax_ar (o : Nat) : Nat := bif Nat.ble o 15 then 2 else bif Nat.beq o 16 then 1 else bif Nat.ble o 27 then 2 else bif Nat.ble o 34 then 1 else bif Nat.beq o 35 then 2 else bif Nat.ble o 41 then 1 else bif Nat.ble o 47 then 2 else 1
/-- compares a number that is between two bounds with a constant: the bounds where 'less' holds, and where not -/
def ax_upd (B : ax_B) (s : Nat) (p : Int × Int) : ax_B := B.set s p
/-- a comparison x ? c of the number s + k: bounds where it holds, bounds where it doesn't (0 eq, 1 ne, 2 lt, 3 ge, 4 gt, 5 le) -/
def ax_cmp (o : Nat) (lo hi c : Int) : Option (Int × Int) × Option (Int × Int) :=
  let ok : Int × Int → Option (Int × Int) := fun p => bif decide (p.1 ≤ p.2) then some p else none
  let lt : Option (Int × Int) × Option (Int × Int) := (ok (lo, min hi (c - 1)), ok (max lo c, hi))
  let le : Option (Int × Int) × Option (Int × Int) := (ok (lo, min hi c), ok (max lo (c + 1), hi))
  let eq : Option (Int × Int) × Option (Int × Int) := (ok (max lo c, min hi c), bif lo == c then ok (lo + 1, hi) else bif hi == c then ok (lo, hi - 1) else some (lo, hi))
  match o with
  | 0 => eq
  | 1 => (eq.2, eq.1)
  | 2 => lt
  | 3 => (lt.2, lt.1)
  | 4 => (le.2, le.1)
  | _ => le
def ax_two {α : Type} (a b : Option α) : List α := match a, b with
  | some a, some b => [a, b]
  | some a, none => [a]
  | none, some b => [b]
  | none, none => []
/-- a branch on number s + k against a constant -/
def ax_br (o : Nat) (s : Nat) (k : Int) (c : Int) (t f : Nat) (lv : ax_L) (st : List ax_V) (M : ax_M) (B : ax_B) : Option (List ax_C) := match mx_nth B s with
  | some (lo, hi) => (match ax_cmp o lo hi (c - k) with
    | (a, b) => some (ax_two (a.map fun p => (t, lv, st, M, ax_upd B s p)) (b.map fun p => (f, lv, st, M, ax_upd B s p))))
  | none => none
/-- the comparison with its sides changed -/
def ax_flip (o : Nat) : Nat := match o with
  | 2 => 4
  | 3 => 5
  | 4 => 2
  | 5 => 3
  | o => o
def ax_both (t f : Nat) (lv : ax_L) (st : List ax_V) (M : ax_M) (B : ax_B) : List ax_C := [(t, lv, st, M, B), (f, lv, st, M, B)]
def ax_dec (o : Nat) (x y : Int) : Bool := match o with
  | 0 => x == y
  | 1 => !(x == y)
  | 2 => decide (x < y)
  | 3 => decide (y ≤ x)
  | 4 => decide (y < x)
  | _ => decide (x ≤ y)
/-- x ? y -/
def ax_if (o : Nat) (x y : ax_V) (t f : Nat) (lv : ax_L) (st : List ax_V) (M : ax_M) (B : ax_B) : Option (List ax_C) := match x, y with
  | .inl (.int a), .inl (.int b) => some [(bif ax_dec o a.toInt b.toInt then t else f, lv, st, M, B)]
  | .inr (.inl (s, k)), .inl (.int b) => ax_br o s k b.toInt t f lv st M B
  | .inl (.int a), .inr (.inl (s, k)) => ax_br (ax_flip o) s k a.toInt t f lv st M B
  | .inr (.inl (s, k)), .inr (.inl (u, l)) => bif Nat.beq s u then some [(bif ax_dec o k l then t else f, lv, st, M, B)] else some (ax_both t f lv st M B)
  | .inr (.inr true), .inl (.int _) => some (ax_both t f lv st M B)
  | .inl (.int _), .inr (.inr true) => some (ax_both t f lv st M B)
  | .inr (.inr true), .inr (.inl _) => some (ax_both t f lv st M B)
  | .inr (.inl _), .inr (.inr true) => some (ax_both t f lv st M B)
  | .inr (.inr true), .inr (.inr true) => some (ax_both t f lv st M B)
  | _, _ => none
/-- the targets of a table switch on an unknown number -/
def ax_sw (s : Nat) (k lo : Int) (lv : ax_L) (st : List ax_V) (M : ax_M) (B : ax_B) (a b : Int) : List Nat → Nat → List ax_C
  | [], _ => []
  | t :: ts, n => (bif decide (a ≤ lo + n - k) && decide (lo + n - k ≤ b) then [(t, lv, st, M, ax_upd B s (lo + n - k, lo + n - k))] else []) ++ ax_sw s k lo lv st M B a b ts (n + 1)
/-- an array that can be read: known contents, or how many of which kind; a script's elements are the unknown numbers, its length is one, too -/
def ax_arr (SA : mx_S) (M : ax_M) (q : Nat) : Option ((Nat × vp_A) ⊕ (Nat × Nat)) := bif Nat.ble 1000 q then (match SA (q - 1000) with
  | some x => some (.inl x)
  | none => none) else match ax_mg M q with
  | some (.inr x) => some x
  | _ => none
/-- what the script is: its number, where its elements' numbers begin, its length's number -/
abbrev ax_P : Type := Nat × Nat × Nat
def ax_con (x : vp_A) (i : Int32) : Option ax_V := bif mx_inb i x.1 then some (.inl (mx_con x i.toNatClampNeg)) else none
def ax_ald (SA : mx_S) (P : ax_P) (t : Nat) (M : ax_M) (B : ax_B) (q : Nat) (i : Int32) : Option ax_V :=
  bif Nat.beq q P.1 then (match i.toInt with
    | .ofNat j => (match mx_nth B P.2.2 with
      | some (lo, _) => bif decide ((j : Int) < lo) && Nat.beq t 0 then some (.inr (.inl (P.2.1 + j, 0))) else none
      | none => none)
    | .negSucc _ => none)
  else match ax_arr SA M q with
  | some (.inl (u, x)) => bif Nat.beq u t && (Nat.ble 1000 q || mx_kd u x) then ax_con x i else none
  | some (.inr (u, n)) => bif Nat.beq u t && mx_inb i n then some (bif Nat.beq t 3 then ax_anyL else ax_any) else none
  | none => none
def ax_ast (t : Nat) (M : ax_M) (q : Nat) (i : Int32) (v : ax_V) : Option ax_M := match ax_mg M q with
  | some (.inr (.inl (u, n, .inl f))) => bif Nat.beq u t && (Nat.blt u 3 && mx_inb i n) then (match v with
    | .inl (.int x) => some (ax_ms M q (.inr (.inl (u, n, .inl (upd f i.toNatClampNeg (mx_nar t x))))))
    | .inr (.inl _) => some (ax_ms M q (.inr (.inr (u, n))))
    | .inr (.inr true) => some (ax_ms M q (.inr (.inr (u, n))))
    | _ => none) else none
  | some (.inr (.inr (u, n))) => bif Nat.beq u t && (Nat.blt u 3 && (mx_inb i n && Nat.beq (ax_kind v) 0)) then some M else none
  | _ => none
def ax_last (M : ax_M) (q : Nat) (i : Int32) (v : ax_V) : Option ax_M := match ax_mg M q with
  | some (.inr (.inl (u, n, .inr (.inl f)))) => bif Nat.beq u 3 && mx_inb i n then (match v with
    | .inl (.long x) => some (ax_ms M q (.inr (.inl (u, n, .inr (.inl (vp_updL f i.toNatClampNeg x))))))
    | .inr (.inr false) => some (ax_ms M q (.inr (.inr (u, n))))
    | _ => none) else none
  | some (.inr (.inr (u, n))) => bif Nat.beq u 3 && (mx_inb i n && Nat.beq (ax_kind v) 1) then some M else none
  | _ => none
def ax_cat : List ax_V → Nat
  | [] => 0
  | v :: l => (bif ax_is2 v then 2 else 1) + ax_cat l
/-- operations on the stack alone, on values not all known -/
def ax_un (DT : ax_T) (n0 : Nat) (o : Nat) (pc : Nat) (lv : ax_L) (st : List ax_V) (M : ax_M) (B : ax_B) : Option (List ax_C) :=
  bif Nat.ble 9 o && Nat.ble o 18 then (bif Nat.beq o 16 then (match st with
      | x :: st => bif Nat.beq (ax_kind x) 0 then some [(pc + 1, lv, ax_any :: st, M, B)] else none
      | _ => none) else (match st with
      | y :: x :: st => (match ax_ii DT n0 B o x y with
        | some v => some [(pc + 1, lv, v :: st, M, B)]
        | none => none)
      | _ => none))
  else bif Nat.ble o 27 then (match st with
    | y :: x :: st => bif Nat.beq (ax_kind x) 1 && (Nat.beq (ax_kind y) (bif Nat.beq o 25 || Nat.beq o 26 then 0 else 1) && !(Nat.beq o 22)) then some [(pc + 1, lv, (bif Nat.beq o 27 then ax_any else ax_anyL) :: st, M, B)] else none
    | _ => none)
  else bif Nat.ble o 32 then (match st with
    | x :: st => bif Nat.beq (ax_kind x) (bif Nat.beq o 29 then 1 else 0) then some [(pc + 1, lv, (bif Nat.beq o 28 then ax_anyL else ax_any) :: st, M, B)] else none
    | _ => none)
  else bif Nat.beq o 33 then (match st with
    | x :: st => bif ax_is2 x then none else some [(pc + 1, lv, x :: x :: st, M, B)]
    | _ => none)
  else bif Nat.beq o 34 then (match st with
    | x :: st => bif ax_is2 x then none else some [(pc + 1, lv, st, M, B)]
    | _ => none)
  else bif Nat.beq o 35 then (match st with
    | x :: y :: st => bif ax_is2 x || ax_is2 y then none else some [(pc + 1, lv, x :: y :: x :: y :: st, M, B)]
    | _ => none)
  else none
/-! one instruction that is no call and no end: what may come -/
def ao_push (v : Value) (n : Nat) (c : ax_C) : Option (List ax_C) := some [(c.1 + n, c.2.1, .inl v :: c.2.2.1, c.2.2.2.1, c.2.2.2.2)]
def ao_load (kd a n : Nat) (c : ax_C) : Option (List ax_C) := match ax_lk a c.2.1 with
  | some v => bif Nat.beq (ax_kind v) kd then some [(c.1 + n, c.2.1, ax_nrm c.2.2.2.2 v :: c.2.2.1, c.2.2.2.1, c.2.2.2.2)] else none
  | none => none
def ao_store (kd a n : Nat) (c : ax_C) : Option (List ax_C) := match c.2.2.1 with
  | v :: st => bif Nat.beq (ax_kind v) kd then some [(c.1 + n, (bif Nat.beq kd 1 then ax_sto2 a v c.2.1 else ax_sto a v c.2.1), st, c.2.2.2.1, c.2.2.2.2)] else none
  | _ => none
def ao_incv (B : ax_B) (d : Nat) (v : ax_V) : Option ax_V := match v with
  | .inl (.int x) => some (.inl (.int (x + Int32.ofNat d)))
  | .inr (.inl (s, k)) => some (ax_off B s k (Int32.ofNat d).toInt)
  | .inr (.inr true) => some ax_any
  | _ => none
def ao_inc (a d : Nat) (c : ax_C) : Option (List ax_C) := match ax_lk a c.2.1 with
  | some v => (match ao_incv c.2.2.2.2 d (ax_nrm c.2.2.2.2 v) with
    | some w => some [(c.1 + 3, ax_sto a w c.2.1, c.2.2.1, c.2.2.2.1, c.2.2.2.2)]
    | none => none)
  | none => none
/-- the operations on the stack alone, by twos and fours -/
def ao_p1 (o : Nat) (c : mx_C) : Option mx_C := bif Nat.beq o 9 then mx_ii (fun x y => some (.int (x + y))) c else bif Nat.beq o 10 then mx_ii (fun x y => some (.int (x - y))) c else bif Nat.beq o 11 then mx_ii (fun x y => some (.int (x * y))) c else bif Nat.beq o 12 then mx_ii (fun x y => some (.int (x &&& y))) c else bif Nat.beq o 13 then mx_ii (fun x y => some (.int (x ||| y))) c else bif Nat.beq o 14 then mx_ii mx_div c else mx_ii mx_rem c
def ao_p2 (o : Nat) (c : mx_C) : Option mx_C := bif Nat.beq o 16 then mx_i1 (fun x => .int (-x)) c else bif Nat.beq o 17 then mx_ii (fun x y => some (.int (x <<< (y &&& 31)))) c else bif Nat.beq o 18 then mx_ii (fun x y => some (.int (x >>> (y &&& 31)))) c else bif Nat.beq o 19 then mx_ll (fun x y => some (.long (x + y))) c else bif Nat.beq o 20 then mx_ll (fun x y => some (.long (x - y))) c else bif Nat.beq o 21 then mx_ll (fun x y => some (.long (x * y))) c else mx_ll mx_ldiv c
def ao_p3 (o : Nat) (c : mx_C) : Option mx_C := bif Nat.beq o 23 then mx_ll (fun x y => some (.long (x &&& y))) c else bif Nat.beq o 24 then mx_ll (fun x y => some (.long (x ||| y))) c else bif Nat.beq o 25 then mx_li (fun x y => .long (x <<< (y.toInt64 &&& 63))) c else bif Nat.beq o 26 then mx_li (fun x y => .long (x >>> (y.toInt64 &&& 63))) c else bif Nat.beq o 27 then mx_ll (fun x y => some (.int (lg_cmp x y))) c else bif Nat.beq o 28 then mx_i1 (fun x => .long x.toInt64) c else mx_l1 (fun x => .int x.toInt32) c
def ao_p4 (o : Nat) (c : mx_C) : Option mx_C := bif Nat.beq o 30 then mx_i1 (fun x => .int x.toInt8.toInt32) c else bif Nat.beq o 31 then mx_i1 (fun x => .int x.toInt16.toInt32) c else bif Nat.beq o 32 then mx_i1 (fun x => .int (x.toUInt32 % 65536).toInt32) c else bif Nat.beq o 33 then mx_dup c else bif Nat.beq o 34 then mx_pop c else mx_dup2 c
def ao_pp (o : Nat) (c : mx_C) : Option mx_C := bif Nat.ble o 15 then ao_p1 o c else bif Nat.ble o 22 then ao_p2 o c else bif Nat.ble o 29 then ao_p3 o c else ao_p4 o c
def ao_pure (DT : ax_T) (n0 : Nat) (o : Nat) (c : ax_C) : Option (List ax_C) := match ax_top (ax_ar o) c.2.2.1 with
  | some lr => (match ao_pp o (c.1, [], lr.1, []) with
    | some d => some [(d.1, c.2.1, ax_emb d.2.2.1 ++ lr.2, c.2.2.2.1, c.2.2.2.2)]
    | none => none)
  | none => ax_un DT n0 o c.1 c.2.1 c.2.2.1 c.2.2.2.1 c.2.2.2.2
def ao_if1 (o t : Nat) (c : ax_C) : Option (List ax_C) := match c.2.2.1 with
  | x :: st => ax_if o (ax_nrm c.2.2.2.2 x) (.inl (.int 0)) t (c.1 + 3) c.2.1 st c.2.2.2.1 c.2.2.2.2
  | _ => none
def ao_if2 (o t : Nat) (c : ax_C) : Option (List ax_C) := match c.2.2.1 with
  | y :: x :: st => ax_if o (ax_nrm c.2.2.2.2 x) (ax_nrm c.2.2.2.2 y) t (c.1 + 3) c.2.1 st c.2.2.2.1 c.2.2.2.2
  | _ => none
def ao_tswv (a b : Nat) (L : List Nat) (c : ax_C) (st : List ax_V) (v : ax_V) : Option (List ax_C) := match v with
  | .inl (.int x) => some [(mx_tsw a (Int32.ofNat b).toInt L x.toInt, c.2.1, st, c.2.2.2.1, c.2.2.2.2)]
  | .inr (.inl (s, k)) => (match mx_nth c.2.2.2.2 s with
    | some p => some (ax_sw s k (Int32.ofNat b).toInt c.2.1 st c.2.2.2.1 c.2.2.2.2 p.1 p.2 L 0 ++ [(a, c.2.1, st, c.2.2.2.1, c.2.2.2.2)])
    | none => none)
  | _ => none
def ao_tsw (a b : Nat) (L : List Nat) (c : ax_C) : Option (List ax_C) := match c.2.2.1 with
  | x :: st => ao_tswv a b L c st (ax_nrm c.2.2.2.2 x)
  | _ => none
def ao_lsw (a : Nat) (L : List Nat) (c : ax_C) : Option (List ax_C) := match c.2.2.1 with
  | .inl (.int x) :: st => some [(mx_lsw a x L, c.2.1, st, c.2.2.2.1, c.2.2.2.2)]
  | _ => none
def ao_get (a b : Nat) (c : ax_C) : Option (List ax_C) := match c.2.2.1 with
  | .inl (.ref q) :: st => (match ax_mg c.2.2.2.1 q with
    | some (.inl p) => bif Nat.beq p.1 a then (match mx_nth p.2 b with
      | some v => some [(c.1 + 3, c.2.1, ax_nrm c.2.2.2.2 v :: st, c.2.2.2.1, c.2.2.2.2)]
      | none => none) else none
    | _ => none)
  | _ => none
def ao_gstr (a : Nat) (c : ax_C) : Option (List ax_C) := match c.2.2.1 with
  | .inl (.ref q) :: st => bif Nat.ble 1100 q && Nat.blt q 1114 then some [(c.1 + 3, c.2.1, .inl (bif Nat.beq a 0 then .ref (q + 100) else .int 0) :: st, c.2.2.2.1, c.2.2.2.2)] else none
  | _ => none
def ao_put (kd a b : Nat) (c : ax_C) : Option (List ax_C) := match c.2.2.1 with
  | v :: .inl (.ref q) :: st => (match ax_mg c.2.2.2.1 q with
    | some (.inl p) => bif Nat.beq p.1 a && (Nat.blt b p.2.length && Nat.beq (ax_kind v) kd) then some [(c.1 + 3, c.2.1, st, ax_ms c.2.2.2.1 q (.inl (p.1, p.2.set b v)), c.2.2.2.2)] else none
    | _ => none)
  | _ => none
def ao_gets (a : Nat) (c : ax_C) : Option (List ax_C) := match mx_nth mx_SF a with
  | some q => ao_push q.2.2.2 3 c
  | none => none
def ao_ldcS (a : Nat) (c : ax_C) : Option (List ax_C) := bif Nat.blt a 14 then ao_push (.ref (1100 + a)) 2 c else none
def ax_lenv (SA : mx_S) (P : ax_P) (M : ax_M) (q : Nat) : Option ax_V := bif Nat.beq q P.1 then some (.inr (.inl (P.2.2, 0))) else (match ax_arr SA M q with
  | some (.inl p) => bif Nat.ble 1000 q || mx_kd p.1 p.2 then some (.inl (.int (Int32.ofNat p.2.1))) else none
  | some (.inr p) => some (.inl (.int (Int32.ofNat p.2)))
  | none => none)
def ao_alen (SA : mx_S) (P : ax_P) (c : ax_C) : Option (List ax_C) := match c.2.2.1 with
  | .inl (.ref q) :: st => (match ax_lenv SA P c.2.2.2.1 q with
    | some v => some [(c.1 + 1, c.2.1, v :: st, c.2.2.2.1, c.2.2.2.2)]
    | none => none)
  | _ => none
def ao_ald (SA : mx_S) (P : ax_P) (t : Nat) (c : ax_C) : Option (List ax_C) := match c.2.2.1 with
  | x :: .inl (.ref q) :: st => (match ax_nrm c.2.2.2.2 x with
    | .inl (.int j) => (match ax_ald SA P t c.2.2.2.1 c.2.2.2.2 q j with
      | some v => some [(c.1 + 1, c.2.1, v :: st, c.2.2.2.1, c.2.2.2.2)]
      | none => none)
    | _ => none)
  | _ => none
def ao_ast (t : Nat) (c : ax_C) : Option (List ax_C) := match c.2.2.1 with
  | v :: x :: .inl (.ref q) :: st => (match ax_nrm c.2.2.2.2 x with
    | .inl (.int j) => (match ax_ast t c.2.2.2.1 q j (ax_nrm c.2.2.2.2 v) with
      | some M => some [(c.1 + 1, c.2.1, st, M, c.2.2.2.2)]
      | none => none)
    | _ => none)
  | _ => none
def ao_last (c : ax_C) : Option (List ax_C) := match c.2.2.1 with
  | v :: .inl (.int j) :: .inl (.ref q) :: st => (match ax_last c.2.2.2.1 q j v with
    | some M => some [(c.1 + 1, c.2.1, st, M, c.2.2.2.2)]
    | none => none)
  | _ => none
def ao_new (a : Nat) (c : ax_C) : Option (List ax_C) := match mx_nth mx_DF a with
  | some fs => bif Nat.blt c.2.2.2.1.1 250 then some [(c.1 + 3, c.2.1, .inl (.ref c.2.2.2.1.1) :: c.2.2.1, ax_ma c.2.2.2.1 (.inl (a, ax_emb fs)), c.2.2.2.2)] else none
  | none => none
def ao_newa (t : Nat) (c : ax_C) : Option (List ax_C) := match c.2.2.1 with
  | x :: st => (match ax_nrm c.2.2.2.2 x with
    | .inl (.int n) => bif mx_inb n 2000 && (Nat.blt c.2.2.2.1.1 250 && Nat.blt t 4) then some [(c.1 + 2, c.2.1, .inl (.ref c.2.2.2.1.1) :: st, ax_ma c.2.2.2.1 (.inr (.inl (t, mx_zero t n.toNatClampNeg))), c.2.2.2.2)] else none
    | _ => none)
  | _ => none
def ao_obj (c : ax_C) : Option (List ax_C) := match c.2.2.1 with
  | .inl (.ref _) :: st => bif Nat.ble (ax_cat st) 8 then some [(c.1 + 3, c.2.1, st, c.2.2.2.1, c.2.2.2.2)] else none
  | _ => none
def ao_mm (f : Int32 → Int32 → Int32) (c : ax_C) : Option (List ax_C) := match c.2.2.1 with
  | .inl (.int y) :: .inl (.int x) :: st => bif Nat.ble (ax_cat st) 8 then some [(c.1 + 3, c.2.1, .inl (.int (f x y)) :: st, c.2.2.2.1, c.2.2.2.2)] else none
  | _ => none
def ao_goto (t : Nat) (c : ax_C) : Option (List ax_C) := some [(t, c.2.1, c.2.2.1, c.2.2.2.1, c.2.2.2.2)]
def ax_opA (i : mx_I) (c : ax_C) : Option (List ax_C) := bif Nat.beq i.1 4 then ao_load 2 i.2.1 i.2.2.1 c else bif Nat.beq i.1 2 then ao_load 0 i.2.1 i.2.2.1 c else bif Nat.beq i.1 0 then ao_push (.int (Int32.ofNat i.2.1)) i.2.2.1 c else bif Nat.beq i.1 3 then ao_load 1 i.2.1 i.2.2.1 c else bif Nat.beq i.1 1 then ao_push (.long (Int64.ofNat i.2.1)) i.2.2.1 c
  else bif Nat.beq i.1 5 then ao_store 0 i.2.1 i.2.2.1 c else bif Nat.beq i.1 8 then ao_inc i.2.1 i.2.2.1 c else bif Nat.beq i.1 6 then ao_store 1 i.2.1 i.2.2.1 c else ao_store 2 i.2.1 i.2.2.1 c
def ax_opB (i : mx_I) (c : ax_C) : Option (List ax_C) := bif Nat.beq i.1 48 then ao_goto i.2.1 c else bif Nat.ble i.1 41 then ao_if1 (i.1 - 36) i.2.1 c else bif Nat.ble i.1 47 then ao_if2 (i.1 - 42) i.2.1 c else bif Nat.beq i.1 49 then ao_tsw i.2.1 i.2.2.1 i.2.2.2 c else ao_lsw i.2.1 i.2.2.2 c
def ax_opC (SA : mx_S) (P : ax_P) (i : mx_I) (c : ax_C) : Option (List ax_C) := bif Nat.beq i.1 52 then ao_gstr i.2.1 c else bif Nat.beq i.1 53 then ao_put 0 i.2.1 i.2.2.1 c else bif Nat.beq i.1 54 then ao_put 2 i.2.1 i.2.2.1 c else bif Nat.beq i.1 55 then ao_gets i.2.1 c else bif Nat.beq i.1 56 then ao_ldcS i.2.1 c else bif Nat.beq i.1 57 then ao_alen SA P c else bif Nat.beq i.1 58 then ao_ald SA P i.2.1 c else bif Nat.beq i.1 59 then ao_ast i.2.1 c else ao_last c
def ax_opD (i : mx_I) (c : ax_C) : Option (List ax_C) := bif Nat.beq i.1 61 then ao_new i.2.1 c else bif Nat.beq i.1 62 then ao_newa i.2.1 c else bif Nat.beq i.1 63 then ao_obj c else bif Nat.beq i.1 65 then ao_mm (fun x y => if x < y then y else x) c else bif Nat.beq i.1 66 then ao_mm (fun x y => if y < x then y else x) c else none
def ax_op (SA : mx_S) (P : ax_P) (DT : ax_T) (n0 : Nat) (i : mx_I) (c : ax_C) : Option (List ax_C) :=
  bif Nat.ble i.1 8 then ax_opA i c else bif Nat.ble i.1 35 then ao_pure DT n0 i.1 c else bif Nat.beq i.1 51 then ao_get i.2.1 i.2.2.1 c else bif Nat.ble i.1 50 then ax_opB i c else bif Nat.ble i.1 60 then ax_opC SA P i c else ax_opD i c
/-- all values of a number, one by one -/
def ax_spl (B : ax_B) (s : Nat) (lo : Int) : Nat → List ax_B
  | 0 => [ax_upd B s (lo, lo)]
  | n + 1 => ax_upd B s (lo + (n + 1 : Nat), lo + (n + 1 : Nat)) :: ax_spl B s lo n
/-- the bounds of a number, cut by an interval: below it, behind it, each value in it -/
def ax_cut (B : ax_B) (s : Nat) (a b : Int) : Option (List ax_B) := match mx_nth B s with
  | some (l, h) => bif decide (l < h) && (decide (max l a ≤ min h b) && decide (min h b - max l a ≤ 64)) then some ((bif decide (l ≤ a - 1) then [ax_upd B s (l, a - 1)] else []) ++ ((bif decide (b + 1 ≤ h) then [ax_upd B s (b + 1, h)] else []) ++ ax_spl B s (max l a) (min h b - max l a).toNat)) else none
  | none => none
def ax_wv (B : ax_B) (v : ax_V) (a b : Int) : Option (List ax_B) := match v with
  | .inr (.inl (s, k)) => ax_cut B s (a - k) (b - k)
  | _ => none
def ax_wf (B : ax_B) (v : ax_V) : Option (List ax_B) := match v with
  | .inr (.inl (s, _)) => (match mx_nth B s with
    | some (l, h) => ax_cut B s l h
    | none => none)
  | _ => none
def ax_w2 (B : ax_B) (x y : ax_V) : Option (List ax_B) := match y with
  | .inl (.int c) => ax_wv B x c.toInt c.toInt
  | _ => (match x with
    | .inl (.int c) => ax_wv B y c.toInt c.toInt
    | _ => none)
/-- what an instruction must know of an unknown number -/
def ax_want (i : mx_I) (c : ax_C) : Option (List ax_B) :=
  bif Nat.beq i.1 58 || Nat.beq i.1 62 then (match c.2.2.1 with
    | x :: _ => ax_wf c.2.2.2.2 x
    | _ => none)
  else bif Nat.beq i.1 59 then (match c.2.2.1 with
    | _ :: x :: _ => ax_wf c.2.2.2.2 x
    | _ => none)
  else bif Nat.beq i.1 11 then (match c.2.2.1 with
    | y :: x :: _ => (match ax_wf c.2.2.2.2 x with
      | some s => some s
      | none => ax_wf c.2.2.2.2 y)
    | _ => none)
  else bif Nat.beq i.1 36 || Nat.beq i.1 37 then (match c.2.2.1 with
    | x :: _ => ax_wv c.2.2.2.2 x 0 0
    | _ => none)
  else bif Nat.beq i.1 42 || Nat.beq i.1 43 then (match c.2.2.1 with
    | y :: x :: _ => ax_w2 c.2.2.2.2 (ax_nrm c.2.2.2.2 x) (ax_nrm c.2.2.2.2 y)
    | _ => none)
  else bif Nat.beq i.1 49 then (match c.2.2.1 with
    | x :: _ => ax_wv c.2.2.2.2 x (Int32.ofNat i.2.2.1).toInt ((Int32.ofNat i.2.2.1).toInt + i.2.2.2.length - 1)
    | _ => none)
  else none
def ac_fn (o : Nat) (a y : Int32) : Int32 := match o with
  | 14 => a / y
  | 15 => a - a / y * y
  | _ => a &&& y
/-- numbers that are made of a known one are known -/
def ax_fix1 (DT : ax_T) (n0 : Nat) (e : Nat × Nat × Int32) (B : ax_B) : Option ax_B := match mx_nth B e.2.1 with
  | some (l, h) => bif l == h && (Int32.ofInt l).toInt == l then (match ax_der e.1 e.2.1 e.2.2 DT n0 with
    | some t => (match mx_nth B t with
      | some (a, b) => bif decide (a ≤ (ac_fn e.1 (Int32.ofInt l) e.2.2).toInt) && decide ((ac_fn e.1 (Int32.ofInt l) e.2.2).toInt ≤ b) then some (ax_upd B t ((ac_fn e.1 (Int32.ofInt l) e.2.2).toInt, (ac_fn e.1 (Int32.ofInt l) e.2.2).toInt)) else none
      | none => some B)
    | none => some B) else some B
  | none => some B
def ax_fix (DT : ax_T) (n0 : Nat) : ax_T → ax_B → Option ax_B
  | [], B => some B
  | e :: r, B => match ax_fix1 DT n0 e B with
    | some B' => ax_fix DT n0 r B'
    | none => none
def ax_all {α : Type} (f : α → Option (List ax_O)) : List α → Option (List ax_O)
  | [] => some []
  | c :: cs => (match f c with
    | some l => (match ax_all f cs with
      | some r => some (l ++ r)
      | none => none)
    | none => none)
def ax_fit (a : Nat) (v : ax_V) : Bool := match v with
  | .inl (.int x) => mx_fit a x
  | .inr (.inl _) => Nat.beq a 0
  | .inr (.inr true) => Nat.beq a 0
  | _ => false
def ax_ret (i : mx_I) (B : ax_B) (st : List ax_V) : Option (Option ax_V) := bif Nat.beq i.1 80 then (match st with
    | [v] => bif ax_fit i.2.1 (ax_nrm B v) then some (some (ax_nrm B v)) else none
    | _ => none)
  else bif Nat.beq i.1 81 then (match st with
    | [v] => bif Nat.beq (ax_kind v) 1 then some (some v) else none
    | _ => none)
  else bif Nat.beq i.1 82 then (match st with
    | [v] => bif Nat.beq (ax_kind v) 2 then some (some v) else none
    | _ => none)
  else bif Nat.beq i.1 83 then (match st with
    | [] => some none
    | _ => none)
  else none
/-- the arguments of a call: the n topmost, the last one first -/
def ax_args : Nat → List ax_V → List ax_V → Option (List ax_V × List ax_V)
  | 0, st, as => some (as, st)
  | n + 1, v :: st, as => ax_args n st (v :: as)
  | _ + 1, [], _ => none
def ax_rcv (L : List Nat) (as : List ax_V) (M : ax_M) : Bool := match L with
  | [] => true
  | ci :: _ => (match as with
    | .inl (.ref b) :: _ => bif Nat.beq ci 98 then true else bif Nat.beq ci 99 then Nat.ble 1100 b && Nat.blt b 1114 else (match ax_mg M b with
      | some (.inl (cj, _)) => Nat.beq cj ci
      | _ => false)
    | _ => false)
def ax_opt (r : Option ax_V) (st : List ax_V) : List ax_V := match r with
  | some v => v :: st
  | none => st
def ax_lva : Nat → List ax_V → ax_L
  | _, [] => []
  | k, v :: as => (k, v) :: ax_lva (bif ax_is2 v then k + 2 else k + 1) as
def ar_fix (DT : ax_T) (n0 : Nat) (rec : ax_C → Option (List ax_O)) (c : ax_C) (B : ax_B) : Option (List ax_O) := match ax_fix DT n0 DT B with
  | some B' => rec (c.1, c.2.1, c.2.2.1, c.2.2.2.1, B')
  | none => some []
/-- all values of a number that an instruction must know -/
def ar_split (DT : ax_T) (n0 : Nat) (rec : ax_C → Option (List ax_O)) (Bs : List ax_B) (c : ax_C) : Option (List ax_O) := ax_all (ar_fix DT n0 rec c) Bs
def ar_next (DT : ax_T) (n0 : Nat) (rec : ax_C → Option (List ax_O)) (r : Option (List ax_C)) : Option (List ax_O) := match r with
  | some [d] => rec d
  | some ds => ax_all (fun d => ar_fix DT n0 rec d d.2.2.2.2) ds
  | none => none
def ar_plain (rec : ax_C → Option (List ax_O)) (SA : mx_S) (P : ax_P) (DT : ax_T) (n0 : Nat) (i : mx_I) (c : ax_C) : Option (List ax_O) := match ax_want i c with
  | some Bs => ar_split DT n0 rec Bs c
  | none => ar_next DT n0 rec (ax_op SA P DT n0 i c)
def ar_back (rec : ax_C → Option (List ax_O)) (pc : Nat) (lv : ax_L) (st : List ax_V) (r : Option (List ax_O)) : Option (List ax_O) := match r with
  | some [o] => rec (pc + 3, lv, ax_opt o.1 st, o.2.1, o.2.2)
  | some os => ax_all (fun o => rec (pc + 3, lv, ax_opt o.1 st, o.2.1, o.2.2)) os
  | none => none
def ar_call (rec : ax_C → Option (List ax_O)) (call : Nat → List ax_V → ax_M → ax_B → Option (List ax_O)) (i : mx_I) (c : ax_C) : Option (List ax_O) := match ax_args i.2.2.1 c.2.2.1 [] with
  | some p => bif Nat.ble (ax_cat p.2) 8 && ax_rcv i.2.2.2 p.1 c.2.2.2.1 then ar_back rec c.1 c.2.1 p.2 (call i.2.1 p.1 c.2.2.2.1 c.2.2.2.2) else none
  | none => none
def ar_end (i : mx_I) (c : ax_C) : Option (List ax_O) := match ax_ret i c.2.2.2.2 c.2.2.1 with
  | some r => some [(r, c.2.2.2.1, c.2.2.2.2)]
  | none => none
def ar_one (rec : ax_C → Option (List ax_O)) (SA : mx_S) (P : ax_P) (DT : ax_T) (n0 : Nat) (call : Nat → List ax_V → ax_M → ax_B → Option (List ax_O)) (c : ax_C) (f : Option mx_I) : Option (List ax_O) := match f with
  | none => none
  | some i => bif Nat.blt i.1 70 then ar_plain rec SA P DT n0 i c else bif Nat.beq i.1 70 then ar_call rec call i c else ar_end i c
def ax_run (SA : mx_S) (P : ax_P) (DT : ax_T) (n0 : Nat) (call : Nat → List ax_V → ax_M → ax_B → Option (List ax_O)) (t : List (List (Nat × mx_I))) : Nat → ax_C → Option (List ax_O)
  | 0, _ => none
  | n + 1, c => ar_one (ax_run SA P DT n0 call t n) SA P DT n0 call c (mx_fetch t c.1)
def ax_call (SA : mx_S) (P : ax_P) (DT : ax_T) (n0 : Nat) (n : Nat) : Nat → Nat → List ax_V → ax_M → ax_B → Option (List ax_O)
  | 0, _, _, _, _ => none
  | d + 1, k, as, M, B => bif Nat.ble (ax_cat as) (mx_code k).1 && Nat.ble M.1 250 then ax_run SA P DT n0 (ax_call SA P DT n0 n d) (mx_code k).2 n (0, ax_lva 0 as, [], M, B) else none
/-- static arrays as the claim has them -/
def mx_SAx (j : Nat) : Option (Nat × vp_A) := match mx_SAL.find? (fun q => Nat.beq q.1 j) with
  | some (_, t, l) => some (t, l.length, bif Nat.beq t 3 then .inr (.inl fun i => Int64.ofInt (l.getD i 0)) else .inl fun i => Int32.ofInt (l.getD i 0))
  | none => none
end
section
/-! WHAT THE UNKNOWN NUMBERS STAND FOR -/
def ac_V (σ : Nat → Int) (a : ax_V) (v : Value) : Prop := match a with
  | .inl w => v = w
  | .inr (.inl (s, k)) => ∃ x : Int32, v = .int x ∧ x.toInt = σ s + k
  | .inr (.inr true) => ∃ x : Int32, v = .int x
  | .inr (.inr false) => ∃ x : Int64, v = .long x
def ac_Vs (σ : Nat → Int) : List ax_V → List Value → Prop
  | [], [] => True
  | a :: as, v :: vs => ac_V σ a v ∧ ac_Vs σ as vs
  | _, _ => False
def ac_L (σ : Nat → Int) : ax_L → mx_L → Prop
  | [], [] => True
  | a :: as, v :: vs => (a.1 = v.1 ∧ ac_V σ a.2 v.2) ∧ ac_L σ as vs
  | _, _ => False
/-- two contents are alike as far as they go -/
def ac_ag (x y : vp_A) : Prop := x.1 = y.1 ∧ match x.2, y.2 with
  | .inl f, .inl g => ∀ j, j < x.1 → f j = g j
  | .inr (.inl f), .inr (.inl g) => ∀ j, j < x.1 → f j = g j
  | _, _ => False
def ac_E (σ : Nat → Int) (a : ax_E) (e : mx_E) : Prop := match a with
  | .inl (ci, fs) => ∃ gs, e = .inl (ci, gs) ∧ ac_Vs σ fs gs
  | .inr (.inl (t, x)) => ∃ y : vp_A, e = .inr (t, y) ∧ ac_ag x y
  | .inr (.inr (t, n)) => ∃ x : vp_A, e = .inr (t, x) ∧ x.1 = n ∧ mx_kd t x = true
def ac_M (σ : Nat → Int) (M : ax_M) (N : mx_M) : Prop := M.1 = N.length ∧ M.1 ≤ 256 ∧ ∀ q, q < M.1 → ∃ a e, ax_tg 8 M.2 q = some a ∧ N[q]? = some e ∧ ac_E σ a e
def ac_B (σ : Nat → Int) (B : ax_B) : Prop := ∀ (s : Nat) (p : Int × Int), B[s]? = some p → p.1 ≤ σ s ∧ σ s ≤ p.2
def ac_D (σ : Nat → Int) (DT : ax_T) (n0 : Nat) : Prop := ∀ (o s t : Nat) (y : Int32), ax_der o s y DT n0 = some t → ∀ a : Int32, a.toInt = σ s → (ac_fn o a y).toInt = σ t
/-- the configurations that an unknown one stands for -/
def ac_C (σ : Nat → Int) (c : ax_C) (d : mx_C) : Prop := c.1 = d.1 ∧ ac_L σ c.2.1 d.2.1 ∧ ac_Vs σ c.2.2.1 d.2.2.1 ∧ ac_M σ c.2.2.2.1 d.2.2.2
theorem ac_V_int {σ : Nat → Int} {a : ax_V} {v : Value} (h : ac_V σ a v) (hk : ax_kind a = 0) : ∃ x, v = .int x := by
  match a, h, hk with
  | .inl (.int x), h, _ => exact ⟨x, h⟩
  | .inr (.inl (s, k)), h, _ => exact ⟨h.choose, h.choose_spec.1⟩
  | .inr (.inr true), h, _ => exact h
theorem ac_V_long {σ : Nat → Int} {a : ax_V} {v : Value} (h : ac_V σ a v) (hk : ax_kind a = 1) : ∃ x, v = .long x := by
  match a, h, hk with
  | .inl (.long x), h, _ => exact ⟨x, h⟩
  | .inr (.inr false), h, _ => exact h
theorem ac_V_ref {σ : Nat → Int} {a : ax_V} {v : Value} (h : ac_V σ a v) (hk : ax_kind a = 2) : ∃ x, v = .ref x ∧ a = .inl (.ref x) := by
  match a, h, hk with
  | .inl (.ref x), h, _ => exact ⟨x, h, rfl⟩
theorem ac_V_is2 {σ : Nat → Int} {a : ax_V} {v : Value} (h : ac_V σ a v) : ax_is2 a = mx_is2 v := by
  match a, h with
  | .inl w, h => cases h; rfl
  | .inr (.inl (s, k)), h => obtain ⟨x, rfl, -⟩ := h; rfl
  | .inr (.inr true), h => obtain ⟨x, rfl⟩ := h; rfl
  | .inr (.inr false), h => obtain ⟨x, rfl⟩ := h; rfl
theorem mx_beq (a b : Nat) : Nat.beq a b = (a == b) := by
  cases h : Nat.beq a b with
  | true => rw [Nat.eq_of_beq_eq_true h]; simp
  | false => have := Nat.ne_of_beq_eq_false h; simp [this]
theorem mx_is2_eq (v : Value) : (v.category == 2) = mx_is2 v := by cases v <;> rfl
theorem ac_L_lk {σ : Nat → Int} {i : Nat} {a : ax_V} : ∀ {l : ax_L} {r : mx_L}, ac_L σ l r → ax_lk i l = some a → ∃ v, mx_lk i r = some v ∧ ac_V σ a v
  | [], _, _, h => by simp [ax_lk] at h
  | (j, b) :: l, [], h, _ => h.elim
  | (j, b) :: l, (k, w) :: r, h, hl => by
    obtain ⟨⟨e, hb⟩, ht⟩ := h
    have e : j = k := e
    subst e
    unfold ax_lk at hl
    unfold mx_lk
    cases hj : Nat.beq j i with
    | true =>
      rw [hj] at hl
      simp only [cond_true, Option.some.injEq] at hl
      subst hl
      exact ⟨w, rfl, hb⟩
    | false =>
      rw [hj] at hl
      exact ac_L_lk ht hl
theorem ac_L_filter {σ : Nat → Int} {p : Nat × ax_V → Bool} {p' : Nat × Value → Bool} (hp : ∀ (i : Nat) (a : ax_V) (v : Value), ac_V σ a v → p (i, a) = p' (i, v)) : ∀ {l : ax_L} {r : mx_L}, ac_L σ l r → ac_L σ (l.filter p) (r.filter p')
  | [], [], _ => trivial
  | [], _ :: _, h => h.elim
  | _ :: _, [], h => h.elim
  | (j, b) :: l, (k, w) :: r, h => by
    obtain ⟨⟨e, hb⟩, ht⟩ := h
    have e : j = k := e
    subst e
    have h1 := hp j b w hb
    rw [List.filter_cons, List.filter_cons, h1]
    cases p' (j, w) with
    | true => exact ⟨⟨rfl, hb⟩, ac_L_filter hp ht⟩
    | false => exact ac_L_filter hp ht
theorem ac_L_sto {σ : Nat → Int} {i : Nat} {a : ax_V} {v : Value} {l : ax_L} {r : mx_L} (h : ac_L σ l r) (ha : ac_V σ a v) : ac_L σ (ax_sto i a l) (mx_sto i v r) := by
  refine ⟨⟨rfl, ha⟩, ac_L_filter (fun j b w hb => ?_) h⟩
  show (!(Nat.beq j i) && !(Nat.beq (j + 1) i && ax_is2 b)) = (!(j == i) && !(j + 1 == i && w.category == 2))
  rw [ac_V_is2 hb, mx_is2_eq]
  simp only [mx_beq]
theorem ac_L_sto2 {σ : Nat → Int} {i : Nat} {a : ax_V} {v : Value} {l : ax_L} {r : mx_L} (h : ac_L σ l r) (ha : ac_V σ a v) : ac_L σ (ax_sto2 i a l) (mx_sto2 i v r) := by
  refine ⟨⟨rfl, ha⟩, ac_L_filter (fun j b w hb => ?_) h⟩
  show (!(Nat.beq j i) && (!(Nat.beq j (i + 1)) && !(Nat.beq (j + 1) i && ax_is2 b))) = (!(j == i) && (!(j == i + 1) && !(j + 1 == i && w.category == 2)))
  rw [ac_V_is2 hb, mx_is2_eq]
  simp only [mx_beq]
theorem ax_tg_ts : ∀ (n : Nat) (t : ax_Tr n) (q q' : Nat) (e : ax_E), q < 2 ^ n → q' < 2 ^ n → ax_tg n (ax_ts n t q e) q' = if q' = q then some e else ax_tg n t q'
  | 0, t, q, q', e, h1, h2 => by
    have e1 : q = 0 := by simp at h1; exact h1
    have e2 : q' = 0 := by simp at h2; exact h2
    rw [e1, e2, if_pos rfl]
    rfl
  | n + 1, t, q, q', e, h1, h2 => by
    have hp : 2 ^ (n + 1) = 2 * 2 ^ n := by rw [Nat.pow_succ, Nat.mul_comm]
    rw [hp] at h1 h2
    have i1 := ax_tg_ts n t.1 (q / 2) (q' / 2) e (by omega) (by omega)
    have i2 := ax_tg_ts n t.2 (q / 2) (q' / 2) e (by omega) (by omega)
    by_cases z1 : q % 2 = 0
    · have b1 : Nat.beq (q % 2) 0 = true := by rw [z1]; rfl
      have es : ax_ts (n + 1) t q e = (ax_ts n t.1 (q / 2) e, t.2) := by
        show (bif Nat.beq (q % 2) 0 then (ax_ts n t.1 (q / 2) e, t.2) else (t.1, ax_ts n t.2 (q / 2) e)) = _
        rw [b1]; rfl
      rw [es]
      show (bif Nat.beq (q' % 2) 0 then ax_tg n (ax_ts n t.1 (q / 2) e) (q' / 2) else ax_tg n t.2 (q' / 2)) = if q' = q then some e else (bif Nat.beq (q' % 2) 0 then ax_tg n t.1 (q' / 2) else ax_tg n t.2 (q' / 2))
      by_cases z2 : q' % 2 = 0
      · have b2 : Nat.beq (q' % 2) 0 = true := by rw [z2]; rfl
        rw [b2]
        simp only [cond_true]
        rw [i1]
        by_cases z3 : q' = q
        · rw [if_pos z3, if_pos (by rw [z3])]
        · rw [if_neg z3, if_neg (by omega)]
      · have b2 : Nat.beq (q' % 2) 0 = false := by
          cases hb : Nat.beq (q' % 2) 0 with
          | false => rfl
          | true => exact absurd (Nat.eq_of_beq_eq_true hb) z2
        rw [b2]
        simp only [cond_false]
        rw [if_neg (by intro z; rw [z] at z2; exact z2 z1)]
    · have b1 : Nat.beq (q % 2) 0 = false := by
        cases hb : Nat.beq (q % 2) 0 with
        | false => rfl
        | true => exact absurd (Nat.eq_of_beq_eq_true hb) z1
      have es : ax_ts (n + 1) t q e = (t.1, ax_ts n t.2 (q / 2) e) := by
        show (bif Nat.beq (q % 2) 0 then (ax_ts n t.1 (q / 2) e, t.2) else (t.1, ax_ts n t.2 (q / 2) e)) = _
        rw [b1]; rfl
      rw [es]
      show (bif Nat.beq (q' % 2) 0 then ax_tg n t.1 (q' / 2) else ax_tg n (ax_ts n t.2 (q / 2) e) (q' / 2)) = if q' = q then some e else (bif Nat.beq (q' % 2) 0 then ax_tg n t.1 (q' / 2) else ax_tg n t.2 (q' / 2))
      by_cases z2 : q' % 2 = 0
      · have b2 : Nat.beq (q' % 2) 0 = true := by rw [z2]; rfl
        rw [b2]
        simp only [cond_true]
        rw [if_neg (by intro z; rw [z] at z2; exact z1 z2)]
      · have b2 : Nat.beq (q' % 2) 0 = false := by
          cases hb : Nat.beq (q' % 2) 0 with
          | false => rfl
          | true => exact absurd (Nat.eq_of_beq_eq_true hb) z2
        rw [b2]
        simp only [cond_false]
        rw [i2]
        by_cases z3 : q' = q
        · rw [if_pos z3, if_pos (by rw [z3])]
        · rw [if_neg z3, if_neg (by omega)]
theorem ax_mg_some {M : ax_M} {q : Nat} {a : ax_E} (h : ax_mg M q = some a) : q < M.1 ∧ ax_tg 8 M.2 q = some a := by
  unfold ax_mg at h
  cases hb : Nat.blt q M.1 with
  | false => rw [hb] at h; cases h
  | true =>
    rw [hb] at h
    exact ⟨Nat.le_of_ble_eq_true hb, h⟩
theorem ac_M_nth {σ : Nat → Int} {a : ax_E} {M : ax_M} {N : mx_M} {q : Nat} (h : ac_M σ M N) (hq : ax_mg M q = some a) : ∃ e, mx_nth N q = some e ∧ ac_E σ a e := by
  obtain ⟨h1, h2⟩ := ax_mg_some hq
  obtain ⟨a', e, e1, e2, e3⟩ := h.2.2 q h1
  rw [h2] at e1
  cases e1
  exact ⟨e, by rw [mx_nth_eq]; exact e2, e3⟩
theorem ac_M_set {σ : Nat → Int} {a : ax_E} {e : mx_E} (he : ac_E σ a e) {M : ax_M} {N : mx_M} {q : Nat} (hq : q < M.1) (h : ac_M σ M N) : ac_M σ (ax_ms M q a) (N.set q e) := by
  refine ⟨by rw [List.length_set]; exact h.1, h.2.1, fun q' hq' => ?_⟩
  have hq' : q' < M.1 := hq'
  have hl := h.2.1
  have key := ax_tg_ts 8 M.2 q q' a (by omega) (by omega)
  by_cases z : q' = q
  · rw [if_pos z] at key
    refine ⟨a, e, key, ?_, he⟩
    rw [z, List.getElem?_set_self (by rw [← h.1]; exact hq)]
  · rw [if_neg z] at key
    obtain ⟨a', e', e1, e2, e3⟩ := h.2.2 q' hq'
    exact ⟨a', e', key.trans e1, by rw [List.getElem?_set_ne (Ne.symm z)]; exact e2, e3⟩
theorem ac_M_app {σ : Nat → Int} {a : ax_E} {e : mx_E} (he : ac_E σ a e) {M : ax_M} {N : mx_M} (hl : M.1 < 256) (h : ac_M σ M N) : ac_M σ (ax_ma M a) (N ++ [e]) := by
  refine ⟨by rw [List.length_append, ← h.1]; rfl, hl, fun q' hq' => ?_⟩
  have hq' : q' < M.1 + 1 := hq'
  have key := ax_tg_ts 8 M.2 M.1 q' a (by omega) (by omega)
  by_cases z : q' = M.1
  · rw [if_pos z] at key
    refine ⟨a, e, key, ?_, he⟩
    rw [z, h.1]
    simp
  · rw [if_neg z] at key
    obtain ⟨a', e', e1, e2, e3⟩ := h.2.2 q' (by omega)
    exact ⟨a', e', key.trans e1, by rw [List.getElem?_append_left (by rw [← h.1]; omega)]; exact e2, e3⟩
theorem ac_Vs_nth {σ : Nat → Int} {a : ax_V} : ∀ {l : List ax_V} {r : List Value} {k : Nat}, ac_Vs σ l r → mx_nth l k = some a → ∃ v, mx_nth r k = some v ∧ ac_V σ a v
  | [], _, _, _, h => by simp [mx_nth] at h
  | b :: l, [], _, h, _ => h.elim
  | b :: l, v :: r, 0, h, hq => by
    have hq : some b = some a := hq
    cases hq
    exact ⟨v, rfl, h.1⟩
  | b :: l, v :: r, k + 1, h, hq => ac_Vs_nth (l := l) (r := r) (k := k) h.2 hq
theorem ac_Vs_set {σ : Nat → Int} {a : ax_V} {v : Value} (he : ac_V σ a v) : ∀ {l : List ax_V} {r : List Value} {k : Nat}, ac_Vs σ l r → ac_Vs σ (l.set k a) (r.set k v)
  | [], [], _, _ => trivial
  | [], _ :: _, _, h => h.elim
  | _ :: _, [], _, h => h.elim
  | b :: l, c :: r, 0, h => ⟨he, h.2⟩
  | b :: l, c :: r, k + 1, h => ⟨h.1, ac_Vs_set he h.2⟩
theorem ac_Vs_len {σ : Nat → Int} : ∀ {l : List ax_V} {r : List Value}, ac_Vs σ l r → l.length = r.length
  | [], [], _ => rfl
  | [], _ :: _, h => h.elim
  | _ :: _, [], h => h.elim
  | b :: l, c :: r, h => by rw [List.length_cons, List.length_cons, ac_Vs_len h.2]
theorem ac_Vs_emb {σ : Nat → Int} : ∀ l : List Value, ac_Vs σ (ax_emb l) l
  | [] => trivial
  | v :: l => ⟨rfl, ac_Vs_emb l⟩
theorem ac_Vs_app {σ : Nat → Int} : ∀ {l1 l2 : List ax_V} {r1 r2 : List Value}, ac_Vs σ l1 r1 → ac_Vs σ l2 r2 → ac_Vs σ (l1 ++ l2) (r1 ++ r2)
  | [], _, [], _, _, h => h
  | [], _, _ :: _, _, h, _ => h.elim
  | _ :: _, _, [], _, h, _ => h.elim
  | a :: l1, l2, v :: r1, r2, h, h2 => ⟨h.1, ac_Vs_app h.2 h2⟩
theorem ac_Vs_cat {σ : Nat → Int} : ∀ {l : List ax_V} {r : List Value}, ac_Vs σ l r → ax_cat l = mx_cat r
  | [], [], _ => rfl
  | [], _ :: _, h => h.elim
  | _ :: _, [], h => h.elim
  | b :: l, c :: r, h => by
    unfold ax_cat mx_cat
    rw [ac_Vs_cat h.2, ac_V_is2 h.1]
theorem ac_nrm {σ : Nat → Int} {B : ax_B} {a : ax_V} {v : Value} (hB : ac_B σ B) (h : ac_V σ a v) : ac_V σ (ax_nrm B a) v := by
  match a, h with
  | .inl w, h => exact h
  | .inr (.inr b), h => exact h
  | .inr (.inl (s, k)), h =>
    unfold ax_nrm
    simp only
    split
    · next lo hi hs =>
      cases he : lo == hi with
      | false => exact h
      | true =>
        have he := eq_of_beq he
        obtain ⟨x, rfl, hx⟩ := h
        have h2 := hB s (lo, hi) (by rw [← mx_nth_eq]; exact hs)
        have e : σ s = lo := by have := h2.1; have := h2.2; simp only at *; omega
        show Value.int x = .int (Int32.ofInt (lo + k))
        rw [← e, ← hx, Int32.ofInt_toInt]
    · exact h
theorem ax_kind_nrm {σ : Nat → Int} {B : ax_B} {a : ax_V} (h : ax_kind a = 0) : ax_kind (ax_nrm B a) = 0 := by
  match a, h with
  | .inl (.int x), _ => rfl
  | .inr (.inr true), _ => rfl
  | .inr (.inl (s, k)), _ =>
    unfold ax_nrm
    simp only
    split
    · next lo hi hs => cases lo == hi <;> rfl
    · rfl
theorem ac_top {σ : Nat → Int} : ∀ {n : Nat} {st : List ax_V} {l : List Value} {r : List ax_V} {st' : List Value}, ax_top n st = some (l, r) → ac_Vs σ st st' → ∃ r', st' = l ++ r' ∧ ac_Vs σ r r'
  | 0, st, l, r, st', h, hs => by
    cases h
    exact ⟨st', rfl, hs⟩
  | n + 1, [], l, r, st', h, hs => by cases h
  | n + 1, .inr x :: st, l, r, st', h, hs => by cases h
  | n + 1, .inl v :: st, l, r, [], h, hs => hs.elim
  | n + 1, .inl v :: st, l, r, w :: st', h, hs => by
    unfold ax_top at h
    split at h
    · next l2 r2 h2 =>
      cases h
      obtain ⟨r', e, hr⟩ := ac_top h2 hs.2
      have e1 : w = v := hs.1
      subst e1
      exact ⟨r', by rw [e]; rfl, hr⟩
    · cases h
/-! an operation on the stack alone sees no more than its operands -/
theorem mf_ii {f : Int32 → Int32 → Option Value} {pc : Nat} {l : List Value} {c' : mx_C} (h : mx_ii f (pc, [], l, []) = some c') (lv : mx_L) (r : List Value) (M : mx_M) : mx_ii f (pc, lv, l ++ r, M) = some (c'.1, lv, c'.2.2.1 ++ r, M) := by
  obtain ⟨x, y, v, st, e1, e2, rfl⟩ := mx_ii_inv h
  have e1 : l = .int y :: .int x :: st := e1
  subst e1
  show mx_ii f (pc, lv, .int y :: .int x :: (st ++ r), M) = _
  simp [mx_ii, e2]
theorem mf_ll {f : Int64 → Int64 → Option Value} {pc : Nat} {l : List Value} {c' : mx_C} (h : mx_ll f (pc, [], l, []) = some c') (lv : mx_L) (r : List Value) (M : mx_M) : mx_ll f (pc, lv, l ++ r, M) = some (c'.1, lv, c'.2.2.1 ++ r, M) := by
  obtain ⟨x, y, v, st, e1, e2, rfl⟩ := mx_ll_inv h
  have e1 : l = .long y :: .long x :: st := e1
  subst e1
  show mx_ll f (pc, lv, .long y :: .long x :: (st ++ r), M) = _
  simp [mx_ll, e2]
theorem mf_li {f : Int64 → Int32 → Value} {pc : Nat} {l : List Value} {c' : mx_C} (h : mx_li f (pc, [], l, []) = some c') (lv : mx_L) (r : List Value) (M : mx_M) : mx_li f (pc, lv, l ++ r, M) = some (c'.1, lv, c'.2.2.1 ++ r, M) := by
  obtain ⟨x, y, st, e1, rfl⟩ := mx_li_inv h
  have e1 : l = .int y :: .long x :: st := e1
  subst e1
  rfl
theorem mf_i1 {f : Int32 → Value} {pc : Nat} {l : List Value} {c' : mx_C} (h : mx_i1 f (pc, [], l, []) = some c') (lv : mx_L) (r : List Value) (M : mx_M) : mx_i1 f (pc, lv, l ++ r, M) = some (c'.1, lv, c'.2.2.1 ++ r, M) := by
  obtain ⟨x, st, e1, rfl⟩ := mx_i1_inv h
  have e1 : l = .int x :: st := e1
  subst e1
  rfl
theorem mf_l1 {f : Int64 → Value} {pc : Nat} {l : List Value} {c' : mx_C} (h : mx_l1 f (pc, [], l, []) = some c') (lv : mx_L) (r : List Value) (M : mx_M) : mx_l1 f (pc, lv, l ++ r, M) = some (c'.1, lv, c'.2.2.1 ++ r, M) := by
  obtain ⟨x, st, e1, rfl⟩ := mx_l1_inv h
  have e1 : l = .long x :: st := e1
  subst e1
  rfl
theorem mf_dup {pc : Nat} {l : List Value} {c' : mx_C} (h : mx_dup (pc, [], l, []) = some c') (lv : mx_L) (r : List Value) (M : mx_M) : mx_dup (pc, lv, l ++ r, M) = some (c'.1, lv, c'.2.2.1 ++ r, M) := by
  match l, h with
  | v :: st, h =>
    have h : (bif mx_is2 v then none else some (pc + 1, [], v :: v :: st, [])) = some c' := h
    show (bif mx_is2 v then none else some (pc + 1, lv, v :: v :: (st ++ r), M)) = _
    cases hv : mx_is2 v with
    | true => rw [hv] at h; cases h
    | false => rw [hv] at h; cases h; rfl
theorem mf_pop {pc : Nat} {l : List Value} {c' : mx_C} (h : mx_pop (pc, [], l, []) = some c') (lv : mx_L) (r : List Value) (M : mx_M) : mx_pop (pc, lv, l ++ r, M) = some (c'.1, lv, c'.2.2.1 ++ r, M) := by
  match l, h with
  | v :: st, h =>
    have h : (bif mx_is2 v then none else some (pc + 1, [], st, [])) = some c' := h
    show (bif mx_is2 v then none else some (pc + 1, lv, st ++ r, M)) = _
    cases hv : mx_is2 v with
    | true => rw [hv] at h; cases h
    | false => rw [hv] at h; cases h; rfl
theorem mf_dup2 {pc : Nat} {l : List Value} {c' : mx_C} (h : mx_dup2 (pc, [], l, []) = some c') (lv : mx_L) (r : List Value) (M : mx_M) : mx_dup2 (pc, lv, l ++ r, M) = some (c'.1, lv, c'.2.2.1 ++ r, M) := by
  match l, h with
  | [v], h => cases h
  | v :: w :: st, h =>
    have h : (bif mx_is2 v || mx_is2 w then none else some (pc + 1, [], v :: w :: v :: w :: st, [])) = some c' := h
    show (bif mx_is2 v || mx_is2 w then none else some (pc + 1, lv, v :: w :: v :: w :: (st ++ r), M)) = _
    cases hv : (mx_is2 v || mx_is2 w) with
    | true => rw [hv] at h; cases h
    | false => rw [hv] at h; cases h; rfl
theorem mf_op {SA SA' : mx_S} {SF : List mx_F} {DF : List (List Value)} {N : Nat} {i : mx_I} {pc : Nat} {l : List Value} {c' : mx_C} (h1 : 9 ≤ i.1) (h2 : i.1 ≤ 35) (h : mx_op SA SF DF N i (pc, [], l, []) = some c') (lv : mx_L) (r : List Value) (M : mx_M) : mx_op SA' SF DF N i (pc, lv, l ++ r, M) = some (c'.1, lv, c'.2.2.1 ++ r, M) := by
  obtain ⟨o, a, b, L⟩ := i
  have h1 : 9 ≤ o := h1
  have h2 : o ≤ 35 := h2
  match o, h1, h2, h with
  | 9, _, _, h => exact mf_ii (f := fun x y => some (.int (x + y))) h lv r M
  | 10, _, _, h => exact mf_ii (f := fun x y => some (.int (x - y))) h lv r M
  | 11, _, _, h => exact mf_ii (f := fun x y => some (.int (x * y))) h lv r M
  | 12, _, _, h => exact mf_ii (f := fun x y => some (.int (x &&& y))) h lv r M
  | 13, _, _, h => exact mf_ii (f := fun x y => some (.int (x ||| y))) h lv r M
  | 14, _, _, h => exact mf_ii (f := mx_div) h lv r M
  | 15, _, _, h => exact mf_ii (f := mx_rem) h lv r M
  | 16, _, _, h => exact mf_i1 (f := fun x => .int (-x)) h lv r M
  | 17, _, _, h => exact mf_ii (f := fun x y => some (.int (x <<< (y &&& 31)))) h lv r M
  | 18, _, _, h => exact mf_ii (f := fun x y => some (.int (x >>> (y &&& 31)))) h lv r M
  | 19, _, _, h => exact mf_ll (f := fun x y => some (.long (x + y))) h lv r M
  | 20, _, _, h => exact mf_ll (f := fun x y => some (.long (x - y))) h lv r M
  | 21, _, _, h => exact mf_ll (f := fun x y => some (.long (x * y))) h lv r M
  | 22, _, _, h => exact mf_ll (f := mx_ldiv) h lv r M
  | 23, _, _, h => exact mf_ll (f := fun x y => some (.long (x &&& y))) h lv r M
  | 24, _, _, h => exact mf_ll (f := fun x y => some (.long (x ||| y))) h lv r M
  | 25, _, _, h => exact mf_li (f := fun x y => .long (x <<< (y.toInt64 &&& 63))) h lv r M
  | 26, _, _, h => exact mf_li (f := fun x y => .long (x >>> (y.toInt64 &&& 63))) h lv r M
  | 27, _, _, h => exact mf_ll (f := fun x y => some (.int (lg_cmp x y))) h lv r M
  | 28, _, _, h => exact mf_i1 (f := fun x => .long x.toInt64) h lv r M
  | 29, _, _, h => exact mf_l1 (f := fun x => .int x.toInt32) h lv r M
  | 30, _, _, h => exact mf_i1 (f := fun x => .int x.toInt8.toInt32) h lv r M
  | 31, _, _, h => exact mf_i1 (f := fun x => .int x.toInt16.toInt32) h lv r M
  | 32, _, _, h => exact mf_i1 (f := fun x => .int (x.toUInt32 % 65536).toInt32) h lv r M
  | 33, _, _, h => exact mf_dup h lv r M
  | 34, _, _, h => exact mf_pop h lv r M
  | 35, _, _, h => exact mf_dup2 h lv r M
  | n + 36, _, h2, _ => exact absurd h2 (by omega)
end
section
/-! EACH ABSTRACT INSTRUCTION STANDS FOR THE SMALL MACHINE'S -/
def ac_St (σ : Nat → Int) (SA' : mx_S) (i : mx_I) (c' : mx_C) (ds : List ax_C) : Prop := ∃ d ∈ ds, ac_B σ d.2.2.2.2 ∧ ∃ d', mx_op SA' mx_SF mx_DF 14 i c' = some d' ∧ ac_C σ d d'
def ac_S (σ : Nat → Int) (SA SA' : mx_S) (P : ax_P) : Prop := (∀ (j : Nat) (x : Nat × vp_A), SA j = some x → SA' j = some x) ∧ 1000 ≤ P.1 ∧ ∃ (L : Nat) (xs : Nat → Int32), SA' (P.1 - 1000) = some (0, (L, .inl xs)) ∧ (L : Int) = σ P.2.2 ∧ L < 2147483648 ∧ ∀ j, j < L → (xs j).toInt = σ (P.2.1 + j)
section ABS
variable {σ : Nat → Int} {SA SA' : mx_S} {P : ax_P} {DT : ax_T} {n0 : Nat} {c : ax_C} {c' : mx_C} {ds : List ax_C}
theorem ac_one {i : mx_I} {d : ax_C} {d' : mx_C} (hB : ac_B σ d.2.2.2.2) (hop : mx_op SA' mx_SF mx_DF 14 i c' = some d') (hC : ac_C σ d d') : ac_St σ SA' i c' [d] := ⟨d, List.mem_singleton.mpr rfl, hB, d', hop, hC⟩
theorem as_push {i : mx_I} {v : Value} {n : Nat} (hi : mx_op SA' mx_SF mx_DF 14 i c' = mx_push v n c') (h : ao_push v n c = some ds) (hB : ac_B σ c.2.2.2.2) (hC : ac_C σ c c') : ac_St σ SA' i c' ds := by
  have h := Option.some.inj h
  subst h
  refine ac_one hB (hi.trans rfl) ⟨?_, hC.2.1, ⟨rfl, hC.2.2.1⟩, hC.2.2.2⟩
  show c.1 + n = c'.1 + n
  rw [hC.1]
theorem ao_load_inv {kd a n : Nat} (h : ao_load kd a n c = some ds) : ∃ v, ax_lk a c.2.1 = some v ∧ ax_kind v = kd ∧ ds = [(c.1 + n, c.2.1, ax_nrm c.2.2.2.2 v :: c.2.2.1, c.2.2.2.1, c.2.2.2.2)] := by
  unfold ao_load at h
  split at h
  · next v hv =>
    cases hk : Nat.beq (ax_kind v) kd with
    | false => rw [hk] at h; cases h
    | true =>
      rw [hk] at h
      exact ⟨v, hv, Nat.eq_of_beq_eq_true hk, (Option.some.inj h).symm⟩
  · cases h
theorem as_load {i : mx_I} {kd a n : Nat} {w : Value} (h : ao_load kd a n c = some ds) (hB : ac_B σ c.2.2.2.2) (hC : ac_C σ c c') (hi : ∀ w : Value, mx_lk a c'.2.1 = some w → (kd = 0 → ∃ x, w = .int x) → (kd = 1 → ∃ x, w = .long x) → (kd = 2 → ∃ x, w = .ref x) → mx_op SA' mx_SF mx_DF 14 i c' = some (c'.1 + n, c'.2.1, w :: c'.2.2.1, c'.2.2.2)) : ac_St σ SA' i c' ds := by
  obtain ⟨v, h1, h2, rfl⟩ := ao_load_inv h
  obtain ⟨w, h3, h4⟩ := ac_L_lk hC.2.1 h1
  refine ac_one hB (hi w h3 (fun z => ac_V_int h4 (h2.trans z)) (fun z => ac_V_long h4 (h2.trans z)) (fun z => by obtain ⟨x, e, -⟩ := ac_V_ref h4 (h2.trans z); exact ⟨x, e⟩)) ⟨?_, hC.2.1, ⟨ac_nrm hB h4, hC.2.2.1⟩, hC.2.2.2⟩
  show c.1 + n = c'.1 + n
  rw [hC.1]
theorem ac_st1 {v : ax_V} {st : List ax_V} (h : c.2.2.1 = v :: st) (hC : ac_C σ c c') : ∃ v' st', c'.2.2.1 = v' :: st' ∧ ac_V σ v v' ∧ ac_Vs σ st st' := by
  have h1 := hC.2.2.1
  rw [h] at h1
  match hc : c'.2.2.1, h1 with
  | v' :: st', h1 => exact ⟨v', st', rfl, h1.1, h1.2⟩
theorem ac_Vs_cons {v : ax_V} {st : List ax_V} {l : List Value} (h : ac_Vs σ (v :: st) l) : ∃ v' st', l = v' :: st' ∧ ac_V σ v v' ∧ ac_Vs σ st st' := by
  match l, h with
  | v' :: st', h => exact ⟨v', st', rfl, h.1, h.2⟩
theorem ao_store_inv {kd a n : Nat} (h : ao_store kd a n c = some ds) : ∃ v st, c.2.2.1 = v :: st ∧ ax_kind v = kd ∧ ds = [(c.1 + n, (bif Nat.beq kd 1 then ax_sto2 a v c.2.1 else ax_sto a v c.2.1), st, c.2.2.2.1, c.2.2.2.2)] := by
  unfold ao_store at h
  split at h
  · next v st hv =>
    cases hk : Nat.beq (ax_kind v) kd with
    | false => rw [hk] at h; cases h
    | true =>
      rw [hk] at h
      exact ⟨v, st, hv, Nat.eq_of_beq_eq_true hk, (Option.some.inj h).symm⟩
  · cases h
theorem as_store0 {a n b : Nat} {L : List Nat} (h : ao_store 0 a n c = some ds) (hB : ac_B σ c.2.2.2.2) (hC : ac_C σ c c') : ac_St σ SA' (5, a, n, L) c' ds := by
  obtain ⟨v, st, h1, h2, rfl⟩ := ao_store_inv h
  obtain ⟨v', st', e1, e2, e3⟩ := ac_st1 h1 hC
  obtain ⟨x, rfl⟩ := ac_V_int e2 h2
  refine ac_one hB (d' := (c'.1 + n, mx_sto a (.int x) c'.2.1, st', c'.2.2.2)) ?_ ⟨?_, ac_L_sto hC.2.1 e2, e3, hC.2.2.2⟩
  · show mx_sti a n c' = _
    unfold mx_sti
    rw [e1]
  · show c.1 + n = c'.1 + n
    rw [hC.1]
theorem as_store1 {a n b : Nat} {L : List Nat} (h : ao_store 1 a n c = some ds) (hB : ac_B σ c.2.2.2.2) (hC : ac_C σ c c') : ac_St σ SA' (6, a, n, L) c' ds := by
  obtain ⟨v, st, h1, h2, rfl⟩ := ao_store_inv h
  obtain ⟨v', st', e1, e2, e3⟩ := ac_st1 h1 hC
  obtain ⟨x, rfl⟩ := ac_V_long e2 h2
  refine ac_one hB (d' := (c'.1 + n, mx_sto2 a (.long x) c'.2.1, st', c'.2.2.2)) ?_ ⟨?_, ac_L_sto2 hC.2.1 e2, e3, hC.2.2.2⟩
  · show mx_stl a n c' = _
    unfold mx_stl
    rw [e1]
  · show c.1 + n = c'.1 + n
    rw [hC.1]
theorem as_store2 {a n b : Nat} {L : List Nat} (h : ao_store 2 a n c = some ds) (hB : ac_B σ c.2.2.2.2) (hC : ac_C σ c c') : ac_St σ SA' (7, a, n, L) c' ds := by
  obtain ⟨v, st, h1, h2, rfl⟩ := ao_store_inv h
  obtain ⟨v', st', e1, e2, e3⟩ := ac_st1 h1 hC
  obtain ⟨x, rfl, rfl⟩ := ac_V_ref e2 h2
  refine ac_one hB (d' := (c'.1 + n, mx_sto a (.ref x) c'.2.1, st', c'.2.2.2)) ?_ ⟨?_, ac_L_sto hC.2.1 e2, e3, hC.2.2.2⟩
  · show mx_sta a n c' = _
    unfold mx_sta
    rw [e1]
  · show c.1 + n = c'.1 + n
    rw [hC.1]
theorem ax_bmod {z : Int} (h1 : -2147483648 ≤ z) (h2 : z ≤ 2147483647) : z.bmod (2 ^ 32) = z := by
  rw [Int.bmod_def]
  split <;> omega
theorem ac_off {B : ax_B} {s : Nat} {k d : Int} {x z : Int32} (hB : ac_B σ B) (hx : x.toInt = σ s + k) (hz : z.toInt = (x.toInt + d).bmod (2 ^ 32)) : ac_V σ (ax_off B s k d) (.int z) := by
  unfold ax_off
  split
  · next lo hi hs =>
    have h2 := hB s (lo, hi) (by rw [← mx_nth_eq]; exact hs)
    cases hb : decide (-2147483648 ≤ lo + k + d) && decide (hi + k + d ≤ 2147483647) with
    | false => exact ⟨z, rfl⟩
    | true =>
      simp only [Bool.and_eq_true, decide_eq_true_eq] at hb
      have h3 : lo ≤ σ s := h2.1
      have h4 : σ s ≤ hi := h2.2
      refine ⟨z, rfl, ?_⟩
      rw [hz, hx, ax_bmod (by omega) (by omega)]
      omega
  · exact ⟨z, rfl⟩
theorem as_inc {a d : Nat} {L : List Nat} (h : ao_inc a d c = some ds) (hB : ac_B σ c.2.2.2.2) (hC : ac_C σ c c') : ac_St σ SA' (8, a, d, L) c' ds := by
  unfold ao_inc at h
  split at h
  · next v hv =>
    split at h
    · next w hw =>
      have h := Option.some.inj h
      subst h
      obtain ⟨v', h3, h4⟩ := ac_L_lk hC.2.1 hv
      have h5 := ac_nrm hB h4
      have key : ∃ x, v' = .int x ∧ ac_V σ w (.int (x + Int32.ofNat d)) := by
        generalize ax_nrm c.2.2.2.2 v = u at hw h5
        match u, hw, h5 with
        | .inl (.int x), hw, h5 =>
          cases hw
          exact ⟨x, h5, rfl⟩
        | .inr (.inl (s, k)), hw, h5 =>
          cases hw
          obtain ⟨x, e, hx⟩ := h5
          exact ⟨x, e, ac_off hB hx (Int32.toInt_add _ _)⟩
        | .inr (.inr true), hw, h5 =>
          cases hw
          obtain ⟨x, e⟩ := h5
          exact ⟨x, e, _, rfl⟩
      obtain ⟨x, rfl, hx⟩ := key
      refine ac_one hB (d' := (c'.1 + 3, mx_sto a (.int (x + Int32.ofNat d)) c'.2.1, c'.2.2.1, c'.2.2.2)) ?_ ⟨?_, ac_L_sto hC.2.1 hx, hC.2.2.1, hC.2.2.2⟩
      · show mx_inc a d c' = _
        unfold mx_inc
        rw [h3]
      · show c.1 + 3 = c'.1 + 3
        rw [hC.1]
    · cases h
  · cases h
theorem ao_pp_op {o a b : Nat} {L : List Nat} {SF : List mx_F} {DF : List (List Value)} {N : Nat} {d : mx_C} (h1 : 9 ≤ o) (h2 : o ≤ 35) : ao_pp o d = mx_op SA SF DF N (o, a, b, L) d := by
  match o, h1, h2 with
  | 9, _, _ => rfl
  | 10, _, _ => rfl
  | 11, _, _ => rfl
  | 12, _, _ => rfl
  | 13, _, _ => rfl
  | 14, _, _ => rfl
  | 15, _, _ => rfl
  | 16, _, _ => rfl
  | 17, _, _ => rfl
  | 18, _, _ => rfl
  | 19, _, _ => rfl
  | 20, _, _ => rfl
  | 21, _, _ => rfl
  | 22, _, _ => rfl
  | 23, _, _ => rfl
  | 24, _, _ => rfl
  | 25, _, _ => rfl
  | 26, _, _ => rfl
  | 27, _, _ => rfl
  | 28, _, _ => rfl
  | 29, _, _ => rfl
  | 30, _, _ => rfl
  | 31, _, _ => rfl
  | 32, _, _ => rfl
  | 33, _, _ => rfl
  | 34, _, _ => rfl
  | 35, _, _ => rfl
  | n + 36, _, h2 => exact absurd h2 (by omega)
/-- two ints, one of them not known -/
def ai_fn (o : Nat) (x y : Int32) : Option Value := match o with
  | 9 => some (.int (x + y))
  | 10 => some (.int (x - y))
  | 11 => some (.int (x * y))
  | 12 => some (.int (x &&& y))
  | 13 => some (.int (x ||| y))
  | 14 => mx_div x y
  | 15 => mx_rem x y
  | 17 => some (.int (x <<< (y &&& 31)))
  | _ => some (.int (x >>> (y &&& 31)))
theorem ai_tot {o : Nat} {x y : Int32} (h : o = 14 ∨ o = 15 → ¬ y = 0) : ∃ z, ai_fn o x y = some (.int z) := by
  by_cases h14 : o = 14
  · subst h14
    exact ⟨_, by show mx_div x y = _; unfold mx_div; rw [if_neg (h (Or.inl rfl))]⟩
  · by_cases h15 : o = 15
    · subst h15
      exact ⟨_, by show mx_rem x y = _; unfold mx_rem; rw [if_neg (h (Or.inr rfl))]⟩
    · unfold ai_fn
      split <;> first
        | exact ⟨_, rfl⟩
        | exact absurd rfl h14
        | exact absurd rfl h15
theorem ac_drv {o s : Nat} {k : Int} {x y z : Int32} (ho : o = 12 ∨ o = 14 ∨ o = 15) (hD : ac_D σ DT n0) (hx : x.toInt = σ s + k) (hz : z = ac_fn o x y) : ac_V σ (ax_drv DT n0 o s k y) (.int z) := by
  unfold ax_drv
  split
  · next t ht =>
    cases hk : (k == 0) with
    | false => exact ⟨z, rfl⟩
    | true =>
      have hk := eq_of_beq hk
      rw [hk, Int.add_zero] at hx
      refine ⟨z, rfl, ?_⟩
      rw [hz, hD o s t y ht x hx, Int.add_zero]
  · exact ⟨z, rfl⟩
theorem ax_ii_sound {B : ax_B} {o : Nat} {x y v : ax_V} {x' y' : Value} (hB : ac_B σ B) (hD : ac_D σ DT n0) (h : ax_ii DT n0 B o x y = some v) (hx : ac_V σ x x') (hy : ac_V σ y y') : ∃ (a b : Int32) (z : Int32), x' = .int a ∧ y' = .int b ∧ ai_fn o a b = some (.int z) ∧ ac_V σ v (.int z) := by
  have any : ∀ (a b : Int32), (o = 14 ∨ o = 15 → ¬ b = 0) → v = ax_any → x' = .int a → y' = .int b → ∃ (a b : Int32) (z : Int32), x' = .int a ∧ y' = .int b ∧ ai_fn o a b = some (.int z) ∧ ac_V σ v (.int z) := by
    intro a b hz hv e1 e2
    obtain ⟨z, hz⟩ := ai_tot (o := o) (x := a) (y := b) hz
    exact ⟨a, b, z, e1, e2, hz, by rw [hv]; exact ⟨z, rfl⟩⟩
  unfold ax_ii at h
  split at h
  · next p b =>
    obtain ⟨a, rfl, ha⟩ := hx
    have hy : y' = .int b := hy
    subst hy
    unfold ax_iiC at h
    cases h9 : Nat.beq o 9 with
    | true =>
      rw [h9] at h
      have := Nat.eq_of_beq_eq_true h9
      subst this
      cases h
      exact ⟨a, b, a + b, rfl, rfl, rfl, ac_off hB ha (Int32.toInt_add _ _)⟩
    | false =>
      cases h10 : Nat.beq o 10 with
      | true =>
        rw [h9, h10] at h
        have := Nat.eq_of_beq_eq_true h10
        subst this
        cases h
        exact ⟨a, b, a - b, rfl, rfl, rfl, ac_off hB ha (by rw [Int32.toInt_sub, Int.sub_eq_add_neg])⟩
      | false =>
        cases h14 : Nat.beq o 14 with
        | true =>
          rw [h9, h10, h14] at h
          have := Nat.eq_of_beq_eq_true h14
          subst this
          cases hb : (b == 0) with
          | true => rw [hb] at h; cases h
          | false =>
            rw [hb] at h
            cases h
            have hb0 : ¬ b = 0 := by simpa using hb
            exact ⟨a, b, a / b, rfl, rfl, by show mx_div a b = _; unfold mx_div; rw [if_neg hb0], ac_drv (Or.inr (Or.inl rfl)) hD ha rfl⟩
        | false =>
          cases h15 : Nat.beq o 15 with
          | true =>
            rw [h9, h10, h14, h15] at h
            have := Nat.eq_of_beq_eq_true h15
            subst this
            cases hb : (b == 0) with
            | true => rw [hb] at h; cases h
            | false =>
              rw [hb] at h
              cases h
              have hb0 : ¬ b = 0 := by simpa using hb
              exact ⟨a, b, a - a / b * b, rfl, rfl, by show mx_rem a b = _; unfold mx_rem; rw [if_neg hb0], ac_drv (Or.inr (Or.inr rfl)) hD ha rfl⟩
          | false =>
            have n14 : ¬ (o = 14 ∨ o = 15) := by
              rintro (rfl | rfl)
              · cases h14
              · cases h15
            cases h12 : Nat.beq o 12 with
            | true =>
              rw [h9, h10, h14, h15, h12] at h
              have := Nat.eq_of_beq_eq_true h12
              subst this
              cases h
              exact ⟨a, b, a &&& b, rfl, rfl, rfl, ac_drv (Or.inl rfl) hD ha rfl⟩
            | false =>
              rw [h9, h10, h14, h15, h12] at h
              cases h
              exact any a b (fun z => absurd z n14) rfl rfl rfl
  · next a p =>
    obtain ⟨b, rfl, hb⟩ := hy
    have hx : x' = .int a := hx
    subst hx
    unfold ax_iiD at h
    cases h9 : Nat.beq o 9 with
    | true =>
      rw [h9] at h
      have := Nat.eq_of_beq_eq_true h9
      subst this
      cases h
      exact ⟨a, b, a + b, rfl, rfl, rfl, ac_off hB hb (by rw [Int32.toInt_add, Int.add_comm])⟩
    | false =>
      cases h14 : (Nat.beq o 14 || Nat.beq o 15) with
      | true => rw [h9, h14] at h; cases h
      | false =>
        rw [h9, h14] at h
        cases h
        refine any a b (fun z => ?_) rfl rfl rfl
        rcases z with rfl | rfl
        · cases h14
        · cases h14
  · cases hc : ((Nat.beq (ax_kind x) 0 && Nat.beq (ax_kind y) 0) && !((Nat.beq o 14 || Nat.beq o 15) && ax_zer y)) with
    | false => rw [hc] at h; cases h
    | true =>
      rw [hc] at h
      cases h
      simp only [Bool.and_eq_true, Bool.not_eq_true'] at hc
      obtain ⟨⟨b1, b2⟩, b3⟩ := hc
      obtain ⟨a, rfl⟩ := ac_V_int hx (Nat.eq_of_beq_eq_true b1)
      obtain ⟨b, rfl⟩ := ac_V_int hy (Nat.eq_of_beq_eq_true b2)
      refine any a b (fun z hb0 => ?_) rfl rfl rfl
      subst hb0
      have hz : ax_zer y = true := by
        match y, hy with
        | .inl (.int w), hy =>
          cases hy
          rfl
        | .inr _, _ => rfl
      rw [hz] at b3
      rcases z with rfl | rfl
      · cases b3
      · cases b3
end ABS
end
section
section ABT
variable {σ : Nat → Int} {SA SA' : mx_S} {P : ax_P} {DT : ax_T} {n0 : Nat} {c : ax_C} {c' : mx_C} {ds : List ax_C}
theorem ac_Vs_2 {y x : ax_V} {st : List ax_V} {l : List Value} (h : ac_Vs σ (y :: x :: st) l) : ∃ y' x' st', l = y' :: x' :: st' ∧ ac_V σ y y' ∧ ac_V σ x x' ∧ ac_Vs σ st st' := by
  obtain ⟨y', l1, rfl, h1, h2⟩ := ac_Vs_cons h
  obtain ⟨x', l2, rfl, h3, h4⟩ := ac_Vs_cons h2
  exact ⟨y', x', l2, rfl, h1, h3, h4⟩
theorem ai_op {o a b : Nat} {L : List Nat} {SF : List mx_F} {DF : List (List Value)} {N : Nat} {d : mx_C} (h1 : 9 ≤ o) (h2 : o ≤ 18) (h3 : o ≠ 16) : mx_op SA SF DF N (o, a, b, L) d = mx_ii (ai_fn o) d := by
  match o, h1, h2, h3 with
  | 9, _, _, _ => rfl
  | 10, _, _, _ => rfl
  | 11, _, _, _ => rfl
  | 12, _, _, _ => rfl
  | 13, _, _, _ => rfl
  | 14, _, _, _ => rfl
  | 15, _, _, _ => rfl
  | 16, _, _, h => exact absurd rfl h
  | 17, _, _, _ => rfl
  | 18, _, _, _ => rfl
  | n + 19, _, h2, _ => exact absurd h2 (by omega)
/-- longs: some answer there is -/
theorem al_op {o a b : Nat} {L : List Nat} {SF : List mx_F} {DF : List (List Value)} {N pc : Nat} {lv : mx_L} {M : mx_M} {x' y' : Value} {st : List Value} (h1 : 19 ≤ o) (h2 : o ≤ 27) (h3 : o ≠ 22) (hx : ∃ z, x' = .long z) (hy : (o = 25 ∨ o = 26) ∧ (∃ z, y' = .int z) ∨ ¬ (o = 25 ∨ o = 26) ∧ ∃ z, y' = .long z) :
    ∃ w, mx_op SA SF DF N (o, a, b, L) (pc, lv, y' :: x' :: st, M) = some (pc + 1, lv, w :: st, M) ∧ (o = 27 → ∃ z, w = .int z) ∧ (o ≠ 27 → ∃ z, w = .long z) := by
  obtain ⟨x, rfl⟩ := hx
  rcases hy with ⟨ho, z, rfl⟩ | ⟨ho, z, rfl⟩
  · rcases ho with rfl | rfl
    · exact ⟨_, rfl, fun h => by omega, fun _ => ⟨_, rfl⟩⟩
    · exact ⟨_, rfl, fun h => by omega, fun _ => ⟨_, rfl⟩⟩
  · match o, h1, h2, h3, ho with
    | 19, _, _, _, _ => exact ⟨_, rfl, fun h => by omega, fun _ => ⟨_, rfl⟩⟩
    | 20, _, _, _, _ => exact ⟨_, rfl, fun h => by omega, fun _ => ⟨_, rfl⟩⟩
    | 21, _, _, _, _ => exact ⟨_, rfl, fun h => by omega, fun _ => ⟨_, rfl⟩⟩
    | 22, _, _, h, _ => exact absurd rfl h
    | 23, _, _, _, _ => exact ⟨_, rfl, fun h => by omega, fun _ => ⟨_, rfl⟩⟩
    | 24, _, _, _, _ => exact ⟨_, rfl, fun h => by omega, fun _ => ⟨_, rfl⟩⟩
    | 25, _, _, _, h => exact absurd (Or.inl rfl) h
    | 26, _, _, _, h => exact absurd (Or.inr rfl) h
    | 27, _, _, _, _ => exact ⟨_, rfl, fun _ => ⟨_, rfl⟩, fun h => absurd rfl h⟩
    | n + 28, _, h2, _, _ => exact absurd h2 (by omega)
theorem as_un' {o a b : Nat} {L : List Nat} {pc : Nat} {lv : ax_L} {st : List ax_V} {M : ax_M} {B : ax_B} {lv' : mx_L} {st' : List Value} {M' : mx_M} (h1 : 9 ≤ o) (h2 : o ≤ 35) (hD : ac_D σ DT n0) (h : ax_un DT n0 o pc lv st M B = some ds) (hB : ac_B σ B) (hL : ac_L σ lv lv') (hV : ac_Vs σ st st') (hM : ac_M σ M M') : ac_St σ SA' (o, a, b, L) (pc, lv', st', M') ds := by
  unfold ax_un at h
  cases g1 : (Nat.ble 9 o && Nat.ble o 18) with
  | true =>
    rw [g1] at h
    simp only [Bool.and_eq_true] at g1
    have o18 : o ≤ 18 := Nat.le_of_ble_eq_true g1.2
    simp only [cond_true] at h
    cases g16 : Nat.beq o 16 with
    | true =>
      have := Nat.eq_of_beq_eq_true g16
      subst this
      rw [g16] at h
      simp only [cond_true] at h
      split at h
      · next x st =>
        cases hk : Nat.beq (ax_kind x) 0 with
        | false => rw [hk] at h; cases h
        | true =>
          rw [hk] at h
          cases h
          obtain ⟨x', r', rfl, v1, v2⟩ := ac_Vs_cons hV
          obtain ⟨z, rfl⟩ := ac_V_int v1 (Nat.eq_of_beq_eq_true hk)
          exact ac_one hB (d' := (pc + 1, lv', .int (-z) :: r', M')) rfl ⟨rfl, hL, ⟨⟨_, rfl⟩, v2⟩, hM⟩
      · cases h
    | false =>
      rw [g16] at h
      simp only [cond_false] at h
      split at h
      · next y x st =>
        split at h
        · next v hv =>
          cases h
          obtain ⟨y', x', r', rfl, v1, v2, v3⟩ := ac_Vs_2 hV
          obtain ⟨p, q, z, rfl, rfl, f1, f2⟩ := ax_ii_sound hB hD hv v2 v1
          have n16 : o ≠ 16 := by intro z; subst z; cases g16
          refine ac_one hB (d' := (pc + 1, lv', .int z :: r', M')) ?_ ⟨rfl, hL, ⟨f2, v3⟩, hM⟩
          rw [ai_op h1 o18 n16]
          show (match ai_fn o p q with
            | some v => some (pc + 1, lv', v :: r', M')
            | none => none) = _
          rw [f1]
        · cases h
      · cases h
  | false =>
    have o19 : 19 ≤ o := by
      rcases Nat.lt_or_ge o 19 with z | z
      · have e1 : Nat.ble 9 o = true := Nat.ble_eq_true_of_le h1
        have e2 : Nat.ble o 18 = true := Nat.ble_eq_true_of_le (by omega)
        rw [e1, e2] at g1
        cases g1
      · exact z
    rw [g1] at h
    simp only [cond_false] at h
    cases g2 : Nat.ble o 27 with
    | true =>
      have o27 : o ≤ 27 := Nat.le_of_ble_eq_true g2
      rw [g2] at h
      simp only [cond_true] at h
      split at h
      · next y x st =>
        cases hk : (Nat.beq (ax_kind x) 1 && (Nat.beq (ax_kind y) (bif Nat.beq o 25 || Nat.beq o 26 then 0 else 1) && !(Nat.beq o 22))) with
        | false => rw [hk] at h; cases h
        | true =>
          rw [hk] at h
          cases h
          simp only [Bool.and_eq_true, Bool.not_eq_true'] at hk
          obtain ⟨k1, k2, k3⟩ := hk
          obtain ⟨y', x', r', rfl, v1, v2, v3⟩ := ac_Vs_2 hV
          have hx := ac_V_long v2 (Nat.eq_of_beq_eq_true k1)
          have hy : (o = 25 ∨ o = 26) ∧ (∃ z, y' = .int z) ∨ ¬ (o = 25 ∨ o = 26) ∧ ∃ z, y' = .long z := by
            by_cases ho : o = 25 ∨ o = 26
            · refine Or.inl ⟨ho, ac_V_int v1 ?_⟩
              have k2 := Nat.eq_of_beq_eq_true k2
              rcases ho with rfl | rfl <;> exact k2
            · refine Or.inr ⟨ho, ac_V_long v1 ?_⟩
              have k2 := Nat.eq_of_beq_eq_true k2
              have e1 : (Nat.beq o 25 || Nat.beq o 26) = false := by
                cases hz : (Nat.beq o 25 || Nat.beq o 26) with
                | false => rfl
                | true =>
                  simp only [Bool.or_eq_true] at hz
                  exact absurd (hz.elim (fun z => Or.inl (Nat.eq_of_beq_eq_true z)) (fun z => Or.inr (Nat.eq_of_beq_eq_true z))) ho
              rw [e1] at k2
              exact k2
          obtain ⟨w, w1, w2, w3⟩ := al_op (SA := SA') (SF := mx_SF) (DF := mx_DF) (N := 14) (a := a) (b := b) (L := L) (pc := pc) (lv := lv') (M := M') (st := r') o19 o27 (by intro z; subst z; cases k3) hx hy
          refine ac_one hB w1 ⟨rfl, hL, ⟨?_, v3⟩, hM⟩
          by_cases ho : o = 27
          · subst ho
            exact w2 rfl
          · have e1 : Nat.beq o 27 = false := by
              cases hz : Nat.beq o 27 with
              | false => rfl
              | true => exact absurd (Nat.eq_of_beq_eq_true hz) ho
            show ac_V σ (bif Nat.beq o 27 then ax_any else ax_anyL) w
            rw [e1]
            exact w3 ho
      · cases h
    | false =>
      have o28 : 28 ≤ o := by
        rcases Nat.lt_or_ge o 28 with z | z
        · have e2 : Nat.ble o 27 = true := Nat.ble_eq_true_of_le (by omega)
          rw [e2] at g2
          cases g2
        · exact z
      rw [g2] at h
      simp only [cond_false] at h
      cases g3 : Nat.ble o 32 with
      | true =>
        have o32 : o ≤ 32 := Nat.le_of_ble_eq_true g3
        rw [g3] at h
        simp only [cond_true] at h
        split at h
        · next x st =>
          cases hk : Nat.beq (ax_kind x) (bif Nat.beq o 29 then 1 else 0) with
          | false => rw [hk] at h; cases h
          | true =>
            rw [hk] at h
            cases h
            obtain ⟨x', r', rfl, v1, v2⟩ := ac_Vs_cons hV
            have hk := Nat.eq_of_beq_eq_true hk
            match o, o28, o32, hk with
            | 28, _, _, hk =>
              obtain ⟨z, rfl⟩ := ac_V_int v1 hk
              exact ac_one hB (d' := (pc + 1, lv', .long z.toInt64 :: r', M')) rfl ⟨rfl, hL, ⟨⟨_, rfl⟩, v2⟩, hM⟩
            | 29, _, _, hk =>
              obtain ⟨z, rfl⟩ := ac_V_long v1 hk
              exact ac_one hB (d' := (pc + 1, lv', .int z.toInt32 :: r', M')) rfl ⟨rfl, hL, ⟨⟨_, rfl⟩, v2⟩, hM⟩
            | 30, _, _, hk =>
              obtain ⟨z, rfl⟩ := ac_V_int v1 hk
              exact ac_one hB (d' := (pc + 1, lv', .int z.toInt8.toInt32 :: r', M')) rfl ⟨rfl, hL, ⟨⟨_, rfl⟩, v2⟩, hM⟩
            | 31, _, _, hk =>
              obtain ⟨z, rfl⟩ := ac_V_int v1 hk
              exact ac_one hB (d' := (pc + 1, lv', .int z.toInt16.toInt32 :: r', M')) rfl ⟨rfl, hL, ⟨⟨_, rfl⟩, v2⟩, hM⟩
            | 32, _, _, hk =>
              obtain ⟨z, rfl⟩ := ac_V_int v1 hk
              exact ac_one hB (d' := (pc + 1, lv', .int (z.toUInt32 % 65536).toInt32 :: r', M')) rfl ⟨rfl, hL, ⟨⟨_, rfl⟩, v2⟩, hM⟩
            | n + 33, _, h2, _ => exact absurd h2 (by omega)
        · cases h
      | false =>
        have o33 : 33 ≤ o := by
          rcases Nat.lt_or_ge o 33 with z | z
          · have e2 : Nat.ble o 32 = true := Nat.ble_eq_true_of_le (by omega)
            rw [e2] at g3
            cases g3
          · exact z
        rw [g3] at h
        simp only [cond_false] at h
        cases g4 : Nat.beq o 33 with
        | true =>
          have := Nat.eq_of_beq_eq_true g4
          subst this
          rw [g4] at h
          simp only [cond_true] at h
          split at h
          · next x st =>
            cases hk : ax_is2 x with
            | true => rw [hk] at h; cases h
            | false =>
              rw [hk] at h
              cases h
              obtain ⟨x', r', rfl, v1, v2⟩ := ac_Vs_cons hV
              refine ac_one hB (d' := (pc + 1, lv', x' :: x' :: r', M')) ?_ ⟨rfl, hL, ⟨v1, v1, v2⟩, hM⟩
              show (bif mx_is2 x' then none else some (pc + 1, lv', x' :: x' :: r', M')) = _
              rw [← ac_V_is2 v1, hk]
              rfl
          · cases h
        | false =>
          rw [g4] at h
          simp only [cond_false] at h
          cases g5 : Nat.beq o 34 with
          | true =>
            have := Nat.eq_of_beq_eq_true g5
            subst this
            rw [g5] at h
            simp only [cond_true] at h
            split at h
            · next x st =>
              cases hk : ax_is2 x with
              | true => rw [hk] at h; cases h
              | false =>
                rw [hk] at h
                cases h
                obtain ⟨x', r', rfl, v1, v2⟩ := ac_Vs_cons hV
                refine ac_one hB (d' := (pc + 1, lv', r', M')) ?_ ⟨rfl, hL, v2, hM⟩
                show (bif mx_is2 x' then none else some (pc + 1, lv', r', M')) = _
                rw [← ac_V_is2 v1, hk]
                rfl
            · cases h
          | false =>
            rw [g5] at h
            simp only [cond_false] at h
            cases g6 : Nat.beq o 35 with
            | true =>
              have := Nat.eq_of_beq_eq_true g6
              subst this
              rw [g6] at h
              simp only [cond_true] at h
              split at h
              · next x y st =>
                cases hk : (ax_is2 x || ax_is2 y) with
                | true => rw [hk] at h; cases h
                | false =>
                  rw [hk] at h
                  cases h
                  obtain ⟨x', y', r', rfl, v1, v2, v3⟩ := ac_Vs_2 hV
                  refine ac_one hB (d' := (pc + 1, lv', x' :: y' :: x' :: y' :: r', M')) ?_ ⟨rfl, hL, ⟨v1, v2, v1, v2, v3⟩, hM⟩
                  show (bif mx_is2 x' || mx_is2 y' then none else some (pc + 1, lv', x' :: y' :: x' :: y' :: r', M')) = _
                  rw [← ac_V_is2 v1, ← ac_V_is2 v2, hk]
                  rfl
              · cases h
            | false =>
              rw [g6] at h
              cases h
theorem as_un {o a b : Nat} {L : List Nat} (h1 : 9 ≤ o) (h2 : o ≤ 35) (hD : ac_D σ DT n0) (h : ax_un DT n0 o c.1 c.2.1 c.2.2.1 c.2.2.2.1 c.2.2.2.2 = some ds) (hB : ac_B σ c.2.2.2.2) (hC : ac_C σ c c') : ac_St σ SA' (o, a, b, L) c' ds := by
  obtain ⟨pc', lv', st', M'⟩ := c'
  have e0 : c.1 = pc' := hC.1
  have g := as_un' (SA' := SA') (a := a) (b := b) (L := L) h1 h2 hD h hB hC.2.1 hC.2.2.1 hC.2.2.2
  rw [e0] at g
  exact g
theorem as_pure {o a b : Nat} {L : List Nat} (h1 : 9 ≤ o) (h2 : o ≤ 35) (hD : ac_D σ DT n0) (h : ao_pure DT n0 o c = some ds) (hB : ac_B σ c.2.2.2.2) (hC : ac_C σ c c') : ac_St σ SA' (o, a, b, L) c' ds := by
  unfold ao_pure at h
  split at h
  · next lr hlr =>
    split at h
    · next d hd =>
      cases h
      obtain ⟨r', e1, e2⟩ := ac_top (l := lr.1) (r := lr.2) hlr hC.2.2.1
      rw [ao_pp_op (SA := SA') (SF := mx_SF) (DF := mx_DF) (N := 14) (a := a) (b := b) (L := L) h1 h2] at hd
      have hf := mf_op (SA' := SA') (i := (o, a, b, L)) h1 h2 hd c'.2.1 r' c'.2.2.2
      have ec : c' = (c.1, c'.2.1, lr.1 ++ r', c'.2.2.2) := by rw [← e1, hC.1]
      rw [← ec] at hf
      exact ac_one hB hf ⟨rfl, hC.2.1, ac_Vs_app (ac_Vs_emb _) e2, hC.2.2.2⟩
    · cases h
  · exact as_un h1 h2 hD h hB hC
/-! branches -/
theorem ax_dec_i {o : Nat} {x y : Int32} (ho : o ≤ 5) : ax_dec o x.toInt y.toInt = (match o with
    | 0 => decide (x = y)
    | 1 => !decide (x = y)
    | 2 => decide (x < y)
    | 3 => decide (y ≤ x)
    | 4 => decide (y < x)
    | _ => decide (x ≤ y)) := by
  have e1 : (x.toInt == y.toInt) = decide (x = y) := by
    by_cases h : x = y
    · subst h; simp
    · have h2 : ¬ x.toInt = y.toInt := fun z => h (Int32.toInt_inj.mp z)
      simp [h, h2]
  match o, ho with
  | 0, _ => exact e1
  | 1, _ =>
    show (!(x.toInt == y.toInt)) = !decide (x = y)
    rw [e1]
  | 2, _ => exact decide_eq_decide.mpr Int32.lt_iff_toInt_lt.symm
  | 3, _ => exact decide_eq_decide.mpr Int32.le_iff_toInt_le.symm
  | 4, _ => exact decide_eq_decide.mpr Int32.lt_iff_toInt_lt.symm
  | 5, _ => exact decide_eq_decide.mpr Int32.le_iff_toInt_le.symm
  | n + 6, h => exact absurd h (by omega)
theorem ax_cmp_sound {o : Nat} {lo hi v k : Int} (h1 : lo ≤ v) (h2 : v ≤ hi) : (ax_dec o v k = true → ∃ p, (ax_cmp o lo hi k).1 = some p ∧ p.1 ≤ v ∧ v ≤ p.2) ∧ (ax_dec o v k = false → ∃ p, (ax_cmp o lo hi k).2 = some p ∧ p.1 ≤ v ∧ v ≤ p.2) := by
  have ok : ∀ p : Int × Int, p.1 ≤ v → v ≤ p.2 → ∃ q, (bif decide (p.1 ≤ p.2) then some p else none) = some q ∧ q.1 ≤ v ∧ v ≤ q.2 := by
    intro p z1 z2
    have : decide (p.1 ≤ p.2) = true := decide_eq_true (by omega)
    exact ⟨p, by rw [this]; rfl, z1, z2⟩
  have lt1 : v < k → ∃ q, (bif decide (lo ≤ min hi (k - 1)) then some (lo, min hi (k - 1)) else none) = some q ∧ q.1 ≤ v ∧ v ≤ q.2 := fun z => ok (lo, min hi (k - 1)) h1 (show v ≤ min hi (k - 1) by omega)
  have lt2 : ¬ v < k → ∃ q, (bif decide (max lo k ≤ hi) then some (max lo k, hi) else none) = some q ∧ q.1 ≤ v ∧ v ≤ q.2 := fun z => ok (max lo k, hi) (show max lo k ≤ v by omega) h2
  have le1 : v ≤ k → ∃ q, (bif decide (lo ≤ min hi k) then some (lo, min hi k) else none) = some q ∧ q.1 ≤ v ∧ v ≤ q.2 := fun z => ok (lo, min hi k) h1 (show v ≤ min hi k by omega)
  have le2 : ¬ v ≤ k → ∃ q, (bif decide (max lo (k + 1) ≤ hi) then some (max lo (k + 1), hi) else none) = some q ∧ q.1 ≤ v ∧ v ≤ q.2 := fun z => ok (max lo (k + 1), hi) (show max lo (k + 1) ≤ v by omega) h2
  have eq1 : v = k → ∃ q, (bif decide (max lo k ≤ min hi k) then some (max lo k, min hi k) else none) = some q ∧ q.1 ≤ v ∧ v ≤ q.2 := fun z => ok (max lo k, min hi k) (show max lo k ≤ v by omega) (show v ≤ min hi k by omega)
  have eq2 : ¬ v = k → ∃ q, (bif lo == k then (bif decide (lo + 1 ≤ hi) then some (lo + 1, hi) else none) else bif hi == k then (bif decide (lo ≤ hi - 1) then some (lo, hi - 1) else none) else some (lo, hi)) = some q ∧ q.1 ≤ v ∧ v ≤ q.2 := fun z => by
    cases hl : (lo == k) with
    | true =>
      have hl := eq_of_beq hl
      exact ok (lo + 1, hi) (show lo + 1 ≤ v by omega) h2
    | false =>
      cases hh : (hi == k) with
      | true =>
        have hh := eq_of_beq hh
        exact ok (lo, hi - 1) h1 (show v ≤ hi - 1 by omega)
      | false => exact ⟨(lo, hi), rfl, h1, h2⟩
  unfold ax_dec ax_cmp
  split
  · exact ⟨fun z => eq1 (eq_of_beq z), fun z => eq2 (fun e => by simp [e] at z)⟩
  · exact ⟨fun z => eq2 (fun e => by simp [e] at z), fun z => eq1 (by simpa using z)⟩
  · exact ⟨fun z => lt1 (of_decide_eq_true z), fun z => lt2 (of_decide_eq_false z)⟩
  · exact ⟨fun z => lt2 (by have := of_decide_eq_true z; omega), fun z => lt1 (by have := of_decide_eq_false z; omega)⟩
  · exact ⟨fun z => le2 (by have := of_decide_eq_true z; omega), fun z => le1 (by have := of_decide_eq_false z; omega)⟩
  · exact ⟨fun z => le1 (of_decide_eq_true z), fun z => le2 (of_decide_eq_false z)⟩
theorem ac_upd {B : ax_B} {s : Nat} {p : Int × Int} (hB : ac_B σ B) (h1 : p.1 ≤ σ s) (h2 : σ s ≤ p.2) : ac_B σ (ax_upd B s p) := by
  intro t q hq
  unfold ax_upd at hq
  rw [List.getElem?_set] at hq
  split at hq
  · next e =>
    subst e
    split at hq
    · cases hq; exact ⟨h1, h2⟩
    · cases hq
  · exact hB t q hq
theorem ax_br_sound {o s t f : Nat} {k cc : Int} {lv : ax_L} {st : List ax_V} {M : ax_M} {B : ax_B} (hB : ac_B σ B) (h : ax_br o s k cc t f lv st M B = some ds) : ∃ d ∈ ds, ac_B σ d.2.2.2.2 ∧ d = ((bif ax_dec o (σ s) (cc - k) then t else f), lv, st, M, d.2.2.2.2) := by
  unfold ax_br at h
  split at h
  · next lo hi hs =>
    have h2 := hB s (lo, hi) (by rw [← mx_nth_eq]; exact hs)
    have key := ax_cmp_sound (o := o) (lo := lo) (hi := hi) (v := σ s) (k := cc - k) h2.1 h2.2
    split at h
    next a b hab =>
    rw [hab] at key
    cases h
    cases hd : ax_dec o (σ s) (cc - k) with
    | true =>
      obtain ⟨p, e1, e2, e3⟩ := key.1 hd
      have e1 : a = some p := e1
      subst e1
      refine ⟨(t, lv, st, M, ax_upd B s p), ?_, ac_upd hB e2 e3, rfl⟩
      cases b <;> simp [ax_two]
    | false =>
      obtain ⟨p, e1, e2, e3⟩ := key.2 hd
      have e1 : b = some p := e1
      subst e1
      refine ⟨(f, lv, st, M, ax_upd B s p), ?_, ac_upd hB e2 e3, rfl⟩
      cases a <;> simp [ax_two]
  · cases h
theorem ai_beq (a b : Int) : (a == b) = decide (a = b) := by
  cases h : (a == b) with
  | true => exact (decide_eq_true (eq_of_beq h)).symm
  | false =>
    have : ¬ a = b := by simpa using h
    exact (decide_eq_false this).symm
theorem ax_dec_shift {o : Nat} {x k y : Int} (ho : o ≤ 5) : ax_dec o x (y - k) = ax_dec o (x + k) y := by
  match o, ho with
  | 0, _ =>
    show (x == y - k) = (x + k == y)
    rw [ai_beq, ai_beq]
    exact decide_eq_decide.mpr (by omega)
  | 1, _ =>
    show (!(x == y - k)) = !(x + k == y)
    rw [ai_beq, ai_beq]
    rw [decide_eq_decide.mpr (show x = y - k ↔ x + k = y by omega)]
  | 2, _ => exact decide_eq_decide.mpr (by omega)
  | 3, _ => exact decide_eq_decide.mpr (by omega)
  | 4, _ => exact decide_eq_decide.mpr (by omega)
  | 5, _ => exact decide_eq_decide.mpr (by omega)
  | n + 6, h => exact absurd h (by omega)
theorem ax_dec_flip {o : Nat} {x y : Int} (ho : o ≤ 5) : ax_dec (ax_flip o) y x = ax_dec o x y := by
  match o, ho with
  | 0, _ =>
    show (y == x) = (x == y)
    rw [ai_beq, ai_beq]
    exact decide_eq_decide.mpr (by omega)
  | 1, _ =>
    show (!(y == x)) = !(x == y)
    rw [ai_beq, ai_beq]
    rw [decide_eq_decide.mpr (show y = x ↔ x = y by omega)]
  | 2, _ => rfl
  | 3, _ => rfl
  | 4, _ => rfl
  | 5, _ => rfl
  | n + 6, h => exact absurd h (by omega)
theorem ax_flip_le {o : Nat} (ho : o ≤ 5) : ax_flip o ≤ 5 := by
  match o, ho with
  | 0, _ => exact (by decide)
  | 1, _ => exact (by decide)
  | 2, _ => exact (by decide)
  | 3, _ => exact (by decide)
  | 4, _ => exact (by decide)
  | 5, _ => exact (by decide)
  | n + 6, h => exact absurd h (by omega)
end ABT
end
section
section ABU
variable {σ : Nat → Int} {SA SA' : mx_S} {P : ax_P} {DT : ax_T} {n0 : Nat} {c : ax_C} {c' : mx_C} {ds : List ax_C}
theorem ax_both_sound {t f : Nat} {lv : ax_L} {st : List ax_V} {M : ax_M} {B : ax_B} (b : Bool) (hB : ac_B σ B) : ∃ d ∈ ax_both t f lv st M B, ac_B σ d.2.2.2.2 ∧ d = ((bif b then t else f), lv, st, M, d.2.2.2.2) := by
  cases b
  · exact ⟨(f, lv, st, M, B), by simp [ax_both], hB, rfl⟩
  · exact ⟨(t, lv, st, M, B), by simp [ax_both], hB, rfl⟩
theorem ax_if_sound {o t f : Nat} {lv : ax_L} {st : List ax_V} {M : ax_M} {B : ax_B} {x y : ax_V} {x' y' : Value} (ho : o ≤ 5) (hB : ac_B σ B) (h : ax_if o x y t f lv st M B = some ds) (hx : ac_V σ x x') (hy : ac_V σ y y') : ∃ a b : Int32, x' = .int a ∧ y' = .int b ∧ ∃ d ∈ ds, ac_B σ d.2.2.2.2 ∧ d = ((bif ax_dec o a.toInt b.toInt then t else f), lv, st, M, d.2.2.2.2) := by
  unfold ax_if at h
  split at h
  · next a b =>
    cases h
    exact ⟨a, b, hx, hy, _, List.mem_singleton.mpr rfl, hB, rfl⟩
  · next s k b =>
    obtain ⟨a, rfl, ha⟩ := hx
    refine ⟨a, b, rfl, hy, ?_⟩
    obtain ⟨d, d1, d2, d3⟩ := ax_br_sound hB h
    rw [ax_dec_shift ho, ← ha] at d3
    exact ⟨d, d1, d2, d3⟩
  · next a s k =>
    obtain ⟨b, rfl, hb⟩ := hy
    refine ⟨a, b, hx, rfl, ?_⟩
    obtain ⟨d, d1, d2, d3⟩ := ax_br_sound hB h
    rw [ax_dec_shift (ax_flip_le ho), ← hb, ax_dec_flip ho] at d3
    exact ⟨d, d1, d2, d3⟩
  · next s k u l =>
    obtain ⟨a, rfl, ha⟩ := hx
    obtain ⟨b, rfl, hb⟩ := hy
    refine ⟨a, b, rfl, rfl, ?_⟩
    cases hs : Nat.beq s u with
    | true =>
      rw [hs] at h
      have := Nat.eq_of_beq_eq_true hs
      subst this
      cases h
      refine ⟨_, List.mem_singleton.mpr rfl, hB, ?_⟩
      have e : ax_dec o k l = ax_dec o a.toInt b.toInt := by
        rw [ha, hb]
        have e1 : l = (σ s + l) - σ s := by omega
        have e2 := ax_dec_shift (o := o) (x := k) (k := σ s) (y := σ s + l) ho
        rw [← e1] at e2
        rw [e2, Int.add_comm k]
      rw [e]
    | false =>
      rw [hs] at h
      cases h
      exact ax_both_sound _ hB
  · next b =>
    obtain ⟨a, rfl⟩ := hx
    cases h
    exact ⟨a, b, rfl, hy, ax_both_sound _ hB⟩
  · next a =>
    obtain ⟨b, rfl⟩ := hy
    cases h
    exact ⟨a, b, hx, rfl, ax_both_sound _ hB⟩
  · obtain ⟨a, rfl⟩ := hx
    obtain ⟨b, rfl, -⟩ := hy
    cases h
    exact ⟨a, b, rfl, rfl, ax_both_sound _ hB⟩
  · obtain ⟨a, rfl, -⟩ := hx
    obtain ⟨b, rfl⟩ := hy
    cases h
    exact ⟨a, b, rfl, rfl, ax_both_sound _ hB⟩
  · obtain ⟨a, rfl⟩ := hx
    obtain ⟨b, rfl⟩ := hy
    cases h
    exact ⟨a, b, rfl, rfl, ax_both_sound _ hB⟩
  · cases h
theorem am_if1 {o t b : Nat} {L : List Nat} {x : Int32} {st : List Value} (ho : o ≤ 5) (hst : c'.2.2.1 = .int x :: st) : mx_op SA' mx_SF mx_DF 14 (36 + o, t, b, L) c' = some ((bif ax_dec o x.toInt (0 : Int32).toInt then t else c'.1 + 3), c'.2.1, st, c'.2.2.2) := by
  rw [ax_dec_i ho]
  match o, ho with
  | 0, _ => show mx_if _ _ _ = _; unfold mx_if; rw [hst]; rfl
  | 1, _ => show mx_if _ _ _ = _; unfold mx_if; rw [hst]; rfl
  | 2, _ => show mx_if _ _ _ = _; unfold mx_if; rw [hst]; rfl
  | 3, _ => show mx_if _ _ _ = _; unfold mx_if; rw [hst]; rfl
  | 4, _ => show mx_if _ _ _ = _; unfold mx_if; rw [hst]; rfl
  | 5, _ => show mx_if _ _ _ = _; unfold mx_if; rw [hst]; rfl
  | n + 6, h => exact absurd h (by omega)
theorem am_if2 {o t b : Nat} {L : List Nat} {x y : Int32} {st : List Value} (ho : o ≤ 5) (hst : c'.2.2.1 = .int y :: .int x :: st) : mx_op SA' mx_SF mx_DF 14 (42 + o, t, b, L) c' = some ((bif ax_dec o x.toInt y.toInt then t else c'.1 + 3), c'.2.1, st, c'.2.2.2) := by
  rw [ax_dec_i ho]
  match o, ho with
  | 0, _ => show mx_if2 _ _ _ = _; unfold mx_if2; rw [hst]; rfl
  | 1, _ => show mx_if2 _ _ _ = _; unfold mx_if2; rw [hst]; rfl
  | 2, _ => show mx_if2 _ _ _ = _; unfold mx_if2; rw [hst]; rfl
  | 3, _ => show mx_if2 _ _ _ = _; unfold mx_if2; rw [hst]; rfl
  | 4, _ => show mx_if2 _ _ _ = _; unfold mx_if2; rw [hst]; rfl
  | 5, _ => show mx_if2 _ _ _ = _; unfold mx_if2; rw [hst]; rfl
  | n + 6, h => exact absurd h (by omega)
theorem as_if1 {o t b : Nat} {L : List Nat} (ho : o ≤ 5) (h : ao_if1 o t c = some ds) (hB : ac_B σ c.2.2.2.2) (hC : ac_C σ c c') : ac_St σ SA' (36 + o, t, b, L) c' ds := by
  unfold ao_if1 at h
  split at h
  · next x st hst =>
    obtain ⟨x', r', e1, v1, v2⟩ := ac_st1 hst hC
    obtain ⟨a, z, rfl, hz, d, d1, d2, d3⟩ := ax_if_sound (y' := .int 0) ho hB h (ac_nrm hB v1) rfl
    have hz : (0 : Int32) = z := by cases hz; rfl
    subst hz
    refine ⟨d, d1, d2, _, am_if1 ho e1, ?_⟩
    rw [d3, hC.1]
    exact ⟨rfl, hC.2.1, v2, hC.2.2.2⟩
  · cases h
theorem as_if2 {o t b : Nat} {L : List Nat} (ho : o ≤ 5) (h : ao_if2 o t c = some ds) (hB : ac_B σ c.2.2.2.2) (hC : ac_C σ c c') : ac_St σ SA' (42 + o, t, b, L) c' ds := by
  unfold ao_if2 at h
  split at h
  · next y x st hst =>
    have hV := hC.2.2.1
    rw [hst] at hV
    obtain ⟨y', x', r', e1, v1, v2, v3⟩ := ac_Vs_2 hV
    obtain ⟨a, z, rfl, rfl, d, d1, d2, d3⟩ := ax_if_sound ho hB h (ac_nrm hB v2) (ac_nrm hB v1)
    refine ⟨d, d1, d2, _, am_if2 ho e1, ?_⟩
    rw [d3, hC.1]
    exact ⟨rfl, hC.2.1, v3, hC.2.2.2⟩
  · cases h
theorem as_goto {t b : Nat} {L : List Nat} (h : ao_goto t c = some ds) (hB : ac_B σ c.2.2.2.2) (hC : ac_C σ c c') : ac_St σ SA' (48, t, b, L) c' ds := by
  cases h
  exact ac_one hB (d' := (t, c'.2.1, c'.2.2.1, c'.2.2.2)) rfl ⟨rfl, hC.2⟩
/-! switches -/
theorem ax_sw_sound {s : Nat} {k lo a b : Int} {lv : ax_L} {st : List ax_V} {M : ax_M} {B : ax_B} (hB : ac_B σ B) (ha : a ≤ σ s) (hb : σ s ≤ b) : ∀ (ts : List Nat) (n m t : Nat), mx_nth ts m = some t → σ s + k = lo + (n + m : Nat) → ∃ d ∈ ax_sw s k lo lv st M B a b ts n, ac_B σ d.2.2.2.2 ∧ d = (t, lv, st, M, d.2.2.2.2)
  | [], n, m, t, h, _ => by simp [mx_nth] at h
  | u :: ts, n, 0, t, h, hv => by
    have h : some u = some t := h
    cases h
    have e : σ s = lo + n - k := by omega
    have hc : (decide (a ≤ lo + n - k) && decide (lo + n - k ≤ b)) = true := by
      rw [Bool.and_eq_true, decide_eq_true_eq, decide_eq_true_eq]
      omega
    refine ⟨(u, lv, st, M, ax_upd B s (lo + n - k, lo + n - k)), ?_, ac_upd hB (by show lo + n - k ≤ σ s; omega) (by show σ s ≤ lo + n - k; omega), rfl⟩
    unfold ax_sw
    rw [hc]
    simp
  | u :: ts, n, m + 1, t, h, hv => by
    have h : mx_nth ts m = some t := h
    obtain ⟨d, d1, d2⟩ := ax_sw_sound (k := k) (lo := lo) (lv := lv) (st := st) (M := M) hB ha hb ts (n + 1) m t h (by omega)
    refine ⟨d, ?_, d2⟩
    unfold ax_sw
    exact List.mem_append_right _ d1
theorem as_tsw {a b : Nat} {L : List Nat} (h : ao_tsw a b L c = some ds) (hB : ac_B σ c.2.2.2.2) (hC : ac_C σ c c') : ac_St σ SA' (49, a, b, L) c' ds := by
  unfold ao_tsw at h
  split at h
  · next x st hst =>
    obtain ⟨x', r', e1, v1, v2⟩ := ac_st1 hst hC
    have v1 := ac_nrm hB v1
    unfold ao_tswv at h
    split at h
    · next z hz =>
      rw [hz] at v1
      cases h
      have v1 : x' = .int z := v1
      subst v1
      refine ac_one hB (d' := (mx_tsw a (Int32.ofNat b).toInt L z.toInt, c'.2.1, r', c'.2.2.2)) ?_ ⟨rfl, hC.2.1, v2, hC.2.2.2⟩
      show mx_sw _ c' = _
      unfold mx_sw
      rw [e1]
    · next s k hz =>
      rw [hz] at v1
      split at h
      · next p hp =>
        cases h
        obtain ⟨z, rfl, hz⟩ := v1
        have hop : mx_op SA' mx_SF mx_DF 14 (49, a, b, L) c' = some (mx_tsw a (Int32.ofNat b).toInt L z.toInt, c'.2.1, r', c'.2.2.2) := by
          show mx_sw _ c' = _
          unfold mx_sw
          rw [e1]
        have hdef : mx_tsw a (Int32.ofNat b).toInt L z.toInt = a → ac_St σ SA' (49, a, b, L) c' (ax_sw s k (Int32.ofNat b).toInt c.2.1 st c.2.2.2.1 c.2.2.2.2 p.1 p.2 L 0 ++ [(a, c.2.1, st, c.2.2.2.1, c.2.2.2.2)]) := by
          intro e
          rw [e] at hop
          exact ⟨(a, c.2.1, st, c.2.2.2.1, c.2.2.2.2), by simp, hB, _, hop, rfl, hC.2.1, v2, hC.2.2.2⟩
        unfold mx_tsw at hdef hop
        split at hop
        · next m hm =>
          have hm : z.toInt - (Int32.ofNat b).toInt = (m : Int) := hm
          split at hop
          · next t ht =>
            have h2 := hB s p (by rw [← mx_nth_eq]; exact hp)
            obtain ⟨d, d1, d2, d3⟩ := ax_sw_sound (k := k) (lo := (Int32.ofNat b).toInt) (lv := c.2.1) (st := st) (M := c.2.2.2.1) hB h2.1 h2.2 L 0 m t ht (by rw [← hz]; omega)
            refine ⟨d, List.mem_append_left _ d1, d2, _, hop, ?_⟩
            rw [d3]
            exact ⟨rfl, hC.2.1, v2, hC.2.2.2⟩
          · next ht =>
            apply hdef
            rw [hm]
            show (match mx_nth L m with
              | some t => t
              | none => a) = a
            rw [ht]
        · next m hm =>
          apply hdef
          rw [hm]
      · cases h
    · cases h
  · cases h
theorem as_lsw {a b : Nat} {L : List Nat} (h : ao_lsw a L c = some ds) (hB : ac_B σ c.2.2.2.2) (hC : ac_C σ c c') : ac_St σ SA' (50, a, b, L) c' ds := by
  unfold ao_lsw at h
  split at h
  · next x st hst =>
    obtain ⟨x', r', e1, v1, v2⟩ := ac_st1 hst hC
    have v1 : x' = .int x := v1
    subst v1
    cases h
    refine ac_one hB (d' := (mx_lsw a x L, c'.2.1, r', c'.2.2.2)) ?_ ⟨rfl, hC.2.1, v2, hC.2.2.2⟩
    show mx_sw _ c' = _
    unfold mx_sw
    rw [e1]
  · cases h
/-! fields -/
theorem as_get {a b : Nat} {L : List Nat} (h : ao_get a b c = some ds) (hB : ac_B σ c.2.2.2.2) (hC : ac_C σ c c') : ac_St σ SA' (51, a, b, L) c' ds := by
  unfold ao_get at h
  split at h
  · next q st hst =>
    obtain ⟨x', r', e1, v1, v2⟩ := ac_st1 hst hC
    have v1 : x' = .ref q := v1
    subst v1
    split at h
    · next p hp =>
      cases hk : Nat.beq p.1 a with
      | false => rw [hk] at h; cases h
      | true =>
        rw [hk] at h
        simp only [cond_true] at h
        split at h
        · next v hv =>
          cases h
          obtain ⟨e, e2, gs, rfl, e4⟩ := ac_M_nth hC.2.2.2 hp
          obtain ⟨w, w1, w2⟩ := ac_Vs_nth e4 hv
          refine ac_one hB (d' := (c'.1 + 3, c'.2.1, w :: r', c'.2.2.2)) ?_ ⟨?_, hC.2.1, ⟨ac_nrm hB w2, v2⟩, hC.2.2.2⟩
          · show mx_get a b c' = _
            unfold mx_get
            rw [e1]
            simp only
            rw [e2]
            simp only
            rw [hk]
            simp only [cond_true]
            rw [w1]
          · show c.1 + 3 = c'.1 + 3
            rw [hC.1]
        · cases h
    · cases h
  · cases h
theorem as_gstr {a b : Nat} {L : List Nat} (h : ao_gstr a c = some ds) (hB : ac_B σ c.2.2.2.2) (hC : ac_C σ c c') : ac_St σ SA' (52, a, b, L) c' ds := by
  unfold ao_gstr at h
  split at h
  · next q st hst =>
    obtain ⟨x', r', e1, v1, v2⟩ := ac_st1 hst hC
    have v1 : x' = .ref q := v1
    subst v1
    cases hk : (Nat.ble 1100 q && Nat.blt q 1114) with
    | false => rw [hk] at h; cases h
    | true =>
      rw [hk] at h
      cases h
      refine ac_one hB (d' := (c'.1 + 3, c'.2.1, (bif Nat.beq a 0 then .ref (q + 100) else .int 0) :: r', c'.2.2.2)) ?_ ⟨?_, hC.2.1, ⟨rfl, v2⟩, hC.2.2.2⟩
      · show mx_gstr a 14 c' = _
        unfold mx_gstr
        rw [e1]
        simp only
        rw [show (Nat.ble 1100 q && Nat.blt q (1100 + 14)) = true from hk]
        rfl
      · show c.1 + 3 = c'.1 + 3
        rw [hC.1]
  · cases h
theorem ao_put_inv {kd a b : Nat} (h : ao_put kd a b c = some ds) : ∃ v q st p, c.2.2.1 = v :: .inl (.ref q) :: st ∧ ax_mg c.2.2.2.1 q = some (.inl p) ∧ p.1 = a ∧ b < p.2.length ∧ ax_kind v = kd ∧ ds = [(c.1 + 3, c.2.1, st, ax_ms c.2.2.2.1 q (.inl (p.1, p.2.set b v)), c.2.2.2.2)] := by
  unfold ao_put at h
  split at h
  · next v q st hst =>
    split at h
    · next p hp =>
      cases hk : (Nat.beq p.1 a && (Nat.blt b p.2.length && Nat.beq (ax_kind v) kd)) with
      | false => rw [hk] at h; cases h
      | true =>
        rw [hk] at h
        simp only [Bool.and_eq_true] at hk
        exact ⟨v, q, st, p, hst, hp, Nat.eq_of_beq_eq_true hk.1, Nat.le_of_ble_eq_true hk.2.1, Nat.eq_of_beq_eq_true hk.2.2, (Option.some.inj h).symm⟩
    · cases h
  · cases h
theorem as_put {a b : Nat} {L : List Nat} (h : ao_put 0 a b c = some ds) (hB : ac_B σ c.2.2.2.2) (hC : ac_C σ c c') : ac_St σ SA' (53, a, b, L) c' ds := by
  obtain ⟨v, q, st, p, hst, hp, ha, hb, hk, rfl⟩ := ao_put_inv h
  have hV := hC.2.2.1
  rw [hst] at hV
  obtain ⟨v', x', r', e1, v1, v2, v3⟩ := ac_Vs_2 hV
  have v2 : x' = .ref q := v2
  subst v2
  obtain ⟨x, rfl⟩ := ac_V_int v1 hk
  obtain ⟨e, e2, gs, rfl, e4⟩ := ac_M_nth hC.2.2.2 hp
  have hq := (ax_mg_some hp).1
  refine ac_one hB (d' := (c'.1 + 3, c'.2.1, r', c'.2.2.2.set q (.inl (p.1, gs.set b (.int x))))) ?_ ⟨?_, hC.2.1, v3, ac_M_set (a := .inl (p.1, p.2.set b v)) ⟨_, rfl, ac_Vs_set v1 e4⟩ hq hC.2.2.2⟩
  · show mx_put a b c' = _
    unfold mx_put
    rw [e1]
    simp only
    rw [e2]
    simp only
    have hk2 : (Nat.beq p.1 a && Nat.blt b gs.length) = true := by
      rw [← ac_Vs_len e4, Bool.and_eq_true]
      refine ⟨by rw [ha]; exact Nat.beq_refl a, Nat.ble_eq_true_of_le hb⟩
    rw [hk2]
    rfl
  · show c.1 + 3 = c'.1 + 3
    rw [hC.1]
theorem as_putF {a b : Nat} {L : List Nat} (h : ao_put 2 a b c = some ds) (hB : ac_B σ c.2.2.2.2) (hC : ac_C σ c c') : ac_St σ SA' (54, a, b, L) c' ds := by
  obtain ⟨v, q, st, p, hst, hp, ha, hb, hk, rfl⟩ := ao_put_inv h
  have hV := hC.2.2.1
  rw [hst] at hV
  obtain ⟨v', x', r', e1, v1, v2, v3⟩ := ac_Vs_2 hV
  have v2 : x' = .ref q := v2
  subst v2
  obtain ⟨x, rfl, -⟩ := ac_V_ref v1 hk
  obtain ⟨e, e2, gs, rfl, e4⟩ := ac_M_nth hC.2.2.2 hp
  have hq := (ax_mg_some hp).1
  refine ac_one hB (d' := (c'.1 + 3, c'.2.1, r', c'.2.2.2.set q (.inl (p.1, gs.set b (.ref x))))) ?_ ⟨?_, hC.2.1, v3, ac_M_set (a := .inl (p.1, p.2.set b v)) ⟨_, rfl, ac_Vs_set v1 e4⟩ hq hC.2.2.2⟩
  · show mx_putF a b c' = _
    unfold mx_putF
    rw [e1]
    simp only
    rw [e2]
    simp only
    have hk2 : (Nat.beq p.1 a && Nat.blt b gs.length) = true := by
      rw [← ac_Vs_len e4, Bool.and_eq_true]
      refine ⟨by rw [ha]; exact Nat.beq_refl a, Nat.ble_eq_true_of_le hb⟩
    rw [hk2]
    rfl
  · show c.1 + 3 = c'.1 + 3
    rw [hC.1]
theorem as_gets {a b : Nat} {L : List Nat} (h : ao_gets a c = some ds) (hB : ac_B σ c.2.2.2.2) (hC : ac_C σ c c') : ac_St σ SA' (55, a, b, L) c' ds := by
  unfold ao_gets at h
  split at h
  · next q hq =>
    refine as_push ?_ h hB hC
    show (match mx_nth mx_SF a with
      | some q => mx_push q.2.2.2 3 c'
      | none => none) = _
    rw [hq]
  · cases h
theorem as_ldcS {a b : Nat} {L : List Nat} (h : ao_ldcS a c = some ds) (hB : ac_B σ c.2.2.2.2) (hC : ac_C σ c c') : ac_St σ SA' (56, a, b, L) c' ds := by
  unfold ao_ldcS at h
  cases hk : Nat.blt a 14 with
  | false => rw [hk] at h; cases h
  | true =>
    rw [hk] at h
    refine as_push ?_ h hB hC
    show (bif Nat.blt a 14 then mx_push (.ref (1100 + a)) 2 c' else none) = _
    rw [hk]
    rfl
end ABU
end
section
section ABW
variable {σ : Nat → Int} {SA SA' : mx_S} {P : ax_P} {DT : ax_T} {n0 : Nat} {c : ax_C} {c' : mx_C} {ds : List ax_C}
/-! arrays -/
theorem ac_ag_kd {t : Nat} {x y : vp_A} (h : ac_ag x y) (hk : mx_kd t x = true) : mx_kd t y = true := by
  obtain ⟨n, f | f | f | f | f⟩ := x <;> obtain ⟨m, g | g | g | g | g⟩ := y <;> first
    | exact hk
    | exact h.2.elim
    | cases hk
theorem ac_ag_con {x y : vp_A} {j : Nat} (h : ac_ag x y) (hj : j < x.1) : mx_con x j = mx_con y j := by
  obtain ⟨n, f | f | f | f | f⟩ := x <;> obtain ⟨m, g | g | g | g | g⟩ := y <;> first
    | exact h.2.elim
    | exact congrArg Value.int (h.2 j hj)
    | exact congrArg Value.long (h.2 j hj)
theorem mx_inb_lt {i : Int32} {n : Nat} (h : mx_inb i n = true) : i.toNatClampNeg < n := Nat.not_le.mp fun z => mx_inb_in h (Or.inr z)
/-- an array that can be read, on both sides -/
theorem ax_arr_sound {M : ax_M} {N : mx_M} {q : Nat} {r : (Nat × vp_A) ⊕ (Nat × Nat)} (hS : ac_S σ SA SA' P) (hM : ac_M σ M N) (h : ax_arr SA M q = some r) :
    (∃ p, r = .inl p ∧ Nat.ble 1000 q = true ∧ mx_ar SA' N q = some p) ∨ (Nat.ble 1000 q = false ∧ ∃ e, mx_nth N q = some e ∧ ac_E σ (.inr r) e) := by
  unfold ax_arr at h
  cases hb : Nat.ble 1000 q with
  | true =>
    rw [hb] at h
    simp only [cond_true] at h
    split at h
    · next x hx =>
      cases h
      refine Or.inl ⟨x, rfl, rfl, ?_⟩
      unfold mx_ar
      rw [hb]
      exact hS.1 _ _ hx
    · cases h
  | false =>
    rw [hb] at h
    simp only [cond_false] at h
    split at h
    · next x hx =>
      cases h
      obtain ⟨e, e1, e2⟩ := ac_M_nth hM hx
      exact Or.inr ⟨rfl, e, e1, e2⟩
    · cases h
theorem mx_ar_m {N : mx_M} {q t : Nat} {x : vp_A} (h : Nat.ble 1000 q = false) (h2 : mx_nth N q = some (.inr (t, x))) (hk : mx_kd t x = true) : mx_ar SA' N q = some (t, x) := by
  unfold mx_ar
  rw [h]
  simp only [cond_false]
  rw [h2]
  simp only
  rw [hk]
  rfl
theorem ax_lenv_sound {M : ax_M} {N : mx_M} {q : Nat} {v : ax_V} (hS : ac_S σ SA SA' P) (hM : ac_M σ M N) (h : ax_lenv SA P M q = some v) : ∃ t x, mx_ar SA' N q = some (t, x) ∧ ac_V σ v (.int (Int32.ofNat x.1)) := by
  unfold ax_lenv at h
  cases hq : Nat.beq q P.1 with
  | true =>
    rw [hq] at h
    cases h
    have := Nat.eq_of_beq_eq_true hq
    subst this
    obtain ⟨-, h1, L, xs, h2, h3, h4, -⟩ := hS
    refine ⟨0, (L, .inl xs), ?_, _, rfl, ?_⟩
    · unfold mx_ar
      rw [Nat.ble_eq_true_of_le h1]
      exact h2
    · show (Int32.ofNat L).toInt = σ P.2.2 + 0
      rw [← h3, Int.add_zero]
      exact nI_toInt h4
  | false =>
    rw [hq] at h
    simp only [cond_false] at h
    split at h
    · next p hp =>
      cases hk : (Nat.ble 1000 q || mx_kd p.1 p.2) with
      | false => rw [hk] at h; cases h
      | true =>
        rw [hk] at h
        cases h
        rcases ax_arr_sound hS hM hp with ⟨p', e1, e2, e3⟩ | ⟨e1, e, e2, y, rfl, e4⟩
        · cases e1
          exact ⟨p.1, p.2, e3, rfl⟩
        · rw [e1] at hk
          exact ⟨p.1, y, mx_ar_m e1 e2 (ac_ag_kd e4 hk), by rw [← e4.1]; rfl⟩
    · next p hp =>
      cases h
      rcases ax_arr_sound hS hM hp with ⟨p', e1, e2, e3⟩ | ⟨e1, e, e2, y, rfl, e4, e5⟩
      · cases e1
      · exact ⟨p.1, y, mx_ar_m e1 e2 e5, by rw [e4]; rfl⟩
    · cases h
theorem as_alen {a b : Nat} {L : List Nat} (hS : ac_S σ SA SA' P) (h : ao_alen SA P c = some ds) (hB : ac_B σ c.2.2.2.2) (hC : ac_C σ c c') : ac_St σ SA' (57, a, b, L) c' ds := by
  unfold ao_alen at h
  split at h
  · next q st hst =>
    obtain ⟨x', r', e1, v1, v2⟩ := ac_st1 hst hC
    have v1 : x' = .ref q := v1
    subst v1
    split at h
    · next v hv =>
      cases h
      obtain ⟨t, x, h1, h2⟩ := ax_lenv_sound hS hC.2.2.2 hv
      refine ac_one hB (d' := (c'.1 + 1, c'.2.1, .int (Int32.ofNat x.1) :: r', c'.2.2.2)) ?_ ⟨?_, hC.2.1, ⟨h2, v2⟩, hC.2.2.2⟩
      · show mx_alen SA' c' = _
        unfold mx_alen
        rw [e1]
        simp only
        rw [h1]
      · show c.1 + 1 = c'.1 + 1
        rw [hC.1]
    · cases h
  · cases h
theorem ax_ald_sound {M : ax_M} {N : mx_M} {B : ax_B} {q t : Nat} {i : Int32} {v : ax_V} (hS : ac_S σ SA SA' P) (hB : ac_B σ B) (hM : ac_M σ M N) (h : ax_ald SA P t M B q i = some v) : ∃ x, mx_ar SA' N q = some (t, x) ∧ mx_inb i x.1 = true ∧ ac_V σ v (mx_con x i.toNatClampNeg) := by
  unfold ax_ald at h
  cases hq : Nat.beq q P.1 with
  | true =>
    rw [hq] at h
    simp only [cond_true] at h
    have := Nat.eq_of_beq_eq_true hq
    subst this
    split at h
    · next j hj =>
      split at h
      · next lo hi hs =>
        cases hc : (decide ((j : Int) < lo) && Nat.beq t 0) with
        | false => rw [hc] at h; cases h
        | true =>
          rw [hc] at h
          cases h
          simp only [Bool.and_eq_true, decide_eq_true_eq] at hc
          have ht := Nat.eq_of_beq_eq_true hc.2
          subst ht
          obtain ⟨-, h1, L, xs, h2, h3, h4, h5⟩ := hS
          have h6 := (hB P.2.2 (lo, hi) (by rw [← mx_nth_eq]; exact hs)).1
          have h6 : lo ≤ σ P.2.2 := h6
          have hj : i.toInt = (j : Int) := hj
          have hjL : j < L := by omega
          have hcl : i.toNatClampNeg = j := by
            show i.toInt.toNat = j
            rw [hj]
            rfl
          refine ⟨(L, .inl xs), ?_, ?_, xs i.toNatClampNeg, rfl, ?_⟩
          · unfold mx_ar
            rw [Nat.ble_eq_true_of_le h1]
            exact h2
          · unfold mx_inb
            rw [hj]
            exact Nat.ble_eq_true_of_le hjL
          · rw [hcl, h5 j hjL, Int.add_zero]
      · cases h
    · cases h
  | false =>
    rw [hq] at h
    simp only [cond_false] at h
    split at h
    · next u x hx =>
      cases hk : (Nat.beq u t && (Nat.ble 1000 q || mx_kd u x)) with
      | false => rw [hk] at h; cases h
      | true =>
        rw [hk] at h
        simp only [Bool.and_eq_true] at hk
        have hu := Nat.eq_of_beq_eq_true hk.1
        subst hu
        have h : (bif mx_inb i x.1 then some (.inl (mx_con x i.toNatClampNeg)) else none) = some v := h
        cases hin : mx_inb i x.1 with
        | false => rw [hin] at h; cases h
        | true =>
          rw [hin] at h
          cases h
          rcases ax_arr_sound hS hM hx with ⟨p', e1, e2, e3⟩ | ⟨e1, e, e2, y, rfl, e4⟩
          · cases e1
            exact ⟨x, e3, hin, rfl⟩
          · have hk2 := hk.2
            rw [e1] at hk2
            have e5 := e4.1
            refine ⟨y, mx_ar_m e1 e2 (ac_ag_kd e4 hk2), by rw [← e5]; exact hin, ?_⟩
            exact (ac_ag_con e4 (mx_inb_lt hin)).symm
    · next u n hx =>
      cases hk : (Nat.beq u t && mx_inb i n) with
      | false => rw [hk] at h; cases h
      | true =>
        rw [hk] at h
        simp only [Bool.and_eq_true] at hk
        have hu := Nat.eq_of_beq_eq_true hk.1
        subst hu
        cases h
        rcases ax_arr_sound hS hM hx with ⟨p', e1, e2, e3⟩ | ⟨e1, e, e2, y, rfl, e4, e5⟩
        · cases e1
        · refine ⟨y, mx_ar_m e1 e2 e5, by rw [e4]; exact hk.2, ?_⟩
          obtain ⟨m, g | g | g | g | g⟩ := y
          · have h3 : u < 3 := Nat.le_of_ble_eq_true e5
            have e6 : Nat.beq u 3 = false := by
              cases hz : Nat.beq u 3 with
              | false => rfl
              | true => have := Nat.eq_of_beq_eq_true hz; omega
            rw [e6]
            exact ⟨_, rfl⟩
          · have e6 : Nat.beq u 3 = true := e5
            rw [e6]
            exact ⟨_, rfl⟩
          · cases e5
          · cases e5
          · cases e5
    · cases h
theorem as_ald {a b : Nat} {L : List Nat} (hS : ac_S σ SA SA' P) (h : ao_ald SA P a c = some ds) (hB : ac_B σ c.2.2.2.2) (hC : ac_C σ c c') : ac_St σ SA' (58, a, b, L) c' ds := by
  unfold ao_ald at h
  split at h
  · next x q st hst =>
    have hV := hC.2.2.1
    rw [hst] at hV
    obtain ⟨x', y', r', e1, v1, v2, v3⟩ := ac_Vs_2 hV
    have v2 : y' = .ref q := v2
    subst v2
    have v1 := ac_nrm hB v1
    split at h
    · next j hj =>
      rw [hj] at v1
      have v1 : x' = .int j := v1
      subst v1
      split at h
      · next v hv =>
        cases h
        obtain ⟨y, h1, h2, h3⟩ := ax_ald_sound hS hB hC.2.2.2 hv
        refine ac_one hB (d' := (c'.1 + 1, c'.2.1, mx_con y j.toNatClampNeg :: r', c'.2.2.2)) ?_ ⟨?_, hC.2.1, ⟨h3, v3⟩, hC.2.2.2⟩
        · show mx_ald SA' a c' = _
          unfold mx_ald
          rw [e1]
          simp only
          rw [h1]
          simp only
          rw [h2, Nat.beq_refl]
          rfl
        · show c.1 + 1 = c'.1 + 1
          rw [hC.1]
      · cases h
    · cases h
  · cases h
end ABW
end
section
section ABX
variable {σ : Nat → Int} {SA SA' : mx_S} {P : ax_P} {DT : ax_T} {n0 : Nat} {c : ax_C} {c' : mx_C} {ds : List ax_C}
/-! writing into arrays, new things -/
theorem ac_M_keep {a : ax_E} {e : mx_E} (he : ac_E σ a e) {M : ax_M} {N : mx_M} {q : Nat} (hq : ax_mg M q = some a) (h : ac_M σ M N) : ac_M σ M (N.set q e) := by
  obtain ⟨h1, h2⟩ := ax_mg_some hq
  refine ⟨by rw [List.length_set]; exact h.1, h.2.1, fun q' hq' => ?_⟩
  by_cases z : q' = q
  · refine ⟨a, e, by rw [z]; exact h2, ?_, he⟩
    rw [z, List.getElem?_set_self (by rw [← h.1]; exact h1)]
  · obtain ⟨a', e', e1, e2, e3⟩ := h.2.2 q' hq'
    exact ⟨a', e', e1, by rw [List.getElem?_set_ne (Ne.symm z)]; exact e2, e3⟩
theorem ac_ag_int {n : Nat} {f : Nat → Int32} {y : vp_A} (h : ac_ag (n, .inl f) y) : ∃ g, y = (n, .inl g) ∧ ∀ j, j < n → f j = g j := by
  obtain ⟨m, g | g | g | g | g⟩ := y
  · obtain ⟨h1, h2⟩ := h
    have h1 : n = m := h1
    subst h1
    exact ⟨g, rfl, h2⟩
  · exact h.2.elim
  · exact h.2.elim
  · exact h.2.elim
  · exact h.2.elim
theorem ac_ag_long {n : Nat} {f : Nat → Int64} {y : vp_A} (h : ac_ag (n, .inr (.inl f)) y) : ∃ g, y = (n, .inr (.inl g)) ∧ ∀ j, j < n → f j = g j := by
  obtain ⟨m, g | g | g | g | g⟩ := y
  · exact h.2.elim
  · obtain ⟨h1, h2⟩ := h
    have h1 : n = m := h1
    subst h1
    exact ⟨g, rfl, h2⟩
  · exact h.2.elim
  · exact h.2.elim
  · exact h.2.elim
theorem mx_kd_int {u : Nat} {y : vp_A} (hu : u < 3) (h : mx_kd u y = true) : ∃ g, y = (y.1, .inl g) := by
  have hn : Nat.beq u 3 = false := by
    cases hz : Nat.beq u 3 with
    | false => rfl
    | true => have := Nat.eq_of_beq_eq_true hz; omega
  obtain ⟨m, g | g | g | g | g⟩ := y
  · exact ⟨g, rfl⟩
  · have h : Nat.beq u 3 = true := h
    rw [hn] at h
    cases h
  · cases h
  · cases h
  · cases h
theorem mx_kd_long {y : vp_A} (h : mx_kd 3 y = true) : ∃ g, y = (y.1, .inr (.inl g)) := by
  obtain ⟨m, g | g | g | g | g⟩ := y
  · cases h
  · exact ⟨g, rfl⟩
  · cases h
  · cases h
  · cases h
theorem upd_ag {f g : Nat → Int32} {n k : Nat} {x : Int32} (h : ∀ j, j < n → f j = g j) (j : Nat) (hj : j < n) : upd f k x j = upd g k x j := by
  unfold upd
  split
  · rfl
  · exact h j hj
theorem updL_ag {f g : Nat → Int64} {n k : Nat} {x : Int64} (h : ∀ j, j < n → f j = g j) (j : Nat) (hj : j < n) : vp_updL f k x j = vp_updL g k x j := by
  unfold vp_updL
  split
  · rfl
  · exact h j hj
theorem ax_ast_sound {t : Nat} {M M2 : ax_M} {N : mx_M} {q : Nat} {i : Int32} {v : ax_V} {v' : Value} (hM : ac_M σ M N) (h : ax_ast t M q i v = some M2) (hv : ac_V σ v v') : ∃ (w : Int32) (n : Nat) (f : Nat → Int32), v' = .int w ∧ mx_nth N q = some (.inr (t, n, .inl f)) ∧ mx_inb i n = true ∧ ac_M σ M2 (N.set q (.inr (t, n, .inl (upd f i.toNatClampNeg (mx_nar t w))))) := by
  unfold ax_ast at h
  split at h
  · next u n f hg =>
    cases hk : (Nat.beq u t && (Nat.blt u 3 && mx_inb i n)) with
    | false => rw [hk] at h; cases h
    | true =>
      rw [hk] at h
      simp only [cond_true] at h
      simp only [Bool.and_eq_true] at hk
      obtain ⟨k1, k2, k3⟩ := hk
      have := Nat.eq_of_beq_eq_true k1
      subst this
      obtain ⟨e, e1, e2⟩ := ac_M_nth hM hg
      obtain ⟨y, rfl, e4⟩ := e2
      obtain ⟨g, rfl, e5⟩ := ac_ag_int e4
      have hq := (ax_mg_some hg).1
      split at h
      · next x =>
        cases h
        have hv : v' = .int x := hv
        subst hv
        exact ⟨x, n, g, rfl, e1, k3, ac_M_set (a := .inr (.inl (u, n, .inl (upd f i.toNatClampNeg (mx_nar u x))))) ⟨(n, .inl (upd g i.toNatClampNeg (mx_nar u x))), rfl, rfl, fun j hj => upd_ag e5 j hj⟩ hq hM⟩
      · next p =>
        cases h
        obtain ⟨x, rfl, -⟩ := hv
        exact ⟨x, n, g, rfl, e1, k3, ac_M_set (a := .inr (.inr (u, n))) ⟨(n, .inl (upd g i.toNatClampNeg (mx_nar u x))), rfl, rfl, k2⟩ hq hM⟩
      · cases h
        obtain ⟨x, rfl⟩ := hv
        exact ⟨x, n, g, rfl, e1, k3, ac_M_set (a := .inr (.inr (u, n))) ⟨(n, .inl (upd g i.toNatClampNeg (mx_nar u x))), rfl, rfl, k2⟩ hq hM⟩
      · cases h
  · next u n hg =>
    cases hk : (Nat.beq u t && (Nat.blt u 3 && (mx_inb i n && Nat.beq (ax_kind v) 0))) with
    | false => rw [hk] at h; cases h
    | true =>
      rw [hk] at h
      cases h
      simp only [Bool.and_eq_true] at hk
      obtain ⟨k1, k2, k3, k4⟩ := hk
      have := Nat.eq_of_beq_eq_true k1
      subst this
      obtain ⟨x, rfl⟩ := ac_V_int hv (Nat.eq_of_beq_eq_true k4)
      obtain ⟨e, e1, e2⟩ := ac_M_nth hM hg
      obtain ⟨y, rfl, e4, e5⟩ := e2
      obtain ⟨g, e6⟩ := mx_kd_int (Nat.le_of_ble_eq_true k2) e5
      rw [e4] at e6
      subst e6
      exact ⟨x, n, g, rfl, e1, k3, ac_M_keep (a := .inr (.inr (u, n))) ⟨(n, .inl (upd g i.toNatClampNeg (mx_nar u x))), rfl, rfl, k2⟩ hg hM⟩
  · cases h
theorem as_ast {t b : Nat} {L : List Nat} (h : ao_ast t c = some ds) (hB : ac_B σ c.2.2.2.2) (hC : ac_C σ c c') : ac_St σ SA' (59, t, b, L) c' ds := by
  unfold ao_ast at h
  split at h
  · next v x q st hst =>
    have hV := hC.2.2.1
    rw [hst] at hV
    obtain ⟨v', r0, rfl', v1, hV2⟩ := ac_Vs_cons hV
    obtain ⟨x', q', r', e1, v2, v3, v4⟩ := ac_Vs_2 hV2
    have v3 : q' = .ref q := v3
    subst v3
    subst e1
    have v2 := ac_nrm hB v2
    have v1 := ac_nrm hB v1
    split at h
    · next j hj =>
      rw [hj] at v2
      have v2 : x' = .int j := v2
      subst v2
      split at h
      · next M hM =>
        cases h
        obtain ⟨w, n, f, rfl, h1, h2, h3⟩ := ax_ast_sound hC.2.2.2 hM v1
        refine ac_one hB (d' := (c'.1 + 1, c'.2.1, r', c'.2.2.2.set q (.inr (t, n, .inl (upd f j.toNatClampNeg (mx_nar t w)))))) ?_ ⟨?_, hC.2.1, v4, h3⟩
        · show mx_ast t c' = _
          unfold mx_ast
          rw [rfl']
          simp only
          rw [h1]
          simp only
          rw [h2, Nat.beq_refl]
          rfl
        · show c.1 + 1 = c'.1 + 1
          rw [hC.1]
      · cases h
    · cases h
  · cases h
theorem ax_last_sound {M M2 : ax_M} {N : mx_M} {q : Nat} {i : Int32} {v : ax_V} {v' : Value} (hM : ac_M σ M N) (h : ax_last M q i v = some M2) (hv : ac_V σ v v') : ∃ (w : Int64) (n : Nat) (f : Nat → Int64), v' = .long w ∧ mx_nth N q = some (.inr (3, n, .inr (.inl f))) ∧ mx_inb i n = true ∧ ac_M σ M2 (N.set q (.inr (3, n, .inr (.inl (vp_updL f i.toNatClampNeg w))))) := by
  unfold ax_last at h
  split at h
  · next u n f hg =>
    cases hk : (Nat.beq u 3 && mx_inb i n) with
    | false => rw [hk] at h; cases h
    | true =>
      rw [hk] at h
      simp only [cond_true] at h
      simp only [Bool.and_eq_true] at hk
      obtain ⟨k1, k3⟩ := hk
      have := Nat.eq_of_beq_eq_true k1
      subst this
      obtain ⟨e, e1, e2⟩ := ac_M_nth hM hg
      obtain ⟨y, rfl, e4⟩ := e2
      obtain ⟨g, rfl, e5⟩ := ac_ag_long e4
      have hq := (ax_mg_some hg).1
      split at h
      · next x =>
        cases h
        have hv : v' = .long x := hv
        subst hv
        exact ⟨x, n, g, rfl, e1, k3, ac_M_set (a := .inr (.inl (3, n, .inr (.inl (vp_updL f i.toNatClampNeg x))))) ⟨(n, .inr (.inl (vp_updL g i.toNatClampNeg x))), rfl, rfl, fun j hj => updL_ag e5 j hj⟩ hq hM⟩
      · cases h
        obtain ⟨x, rfl⟩ := hv
        exact ⟨x, n, g, rfl, e1, k3, ac_M_set (a := .inr (.inr (3, n))) ⟨(n, .inr (.inl (vp_updL g i.toNatClampNeg x))), rfl, rfl, rfl⟩ hq hM⟩
      · cases h
  · next u n hg =>
    cases hk : (Nat.beq u 3 && (mx_inb i n && Nat.beq (ax_kind v) 1)) with
    | false => rw [hk] at h; cases h
    | true =>
      rw [hk] at h
      cases h
      simp only [Bool.and_eq_true] at hk
      obtain ⟨k1, k3, k4⟩ := hk
      have := Nat.eq_of_beq_eq_true k1
      subst this
      obtain ⟨x, rfl⟩ := ac_V_long hv (Nat.eq_of_beq_eq_true k4)
      obtain ⟨e, e1, e2⟩ := ac_M_nth hM hg
      obtain ⟨y, rfl, e4, e5⟩ := e2
      obtain ⟨g, e6⟩ := mx_kd_long e5
      rw [e4] at e6
      subst e6
      exact ⟨x, n, g, rfl, e1, k3, ac_M_keep (a := .inr (.inr (3, n))) ⟨(n, .inr (.inl (vp_updL g i.toNatClampNeg x))), rfl, rfl, rfl⟩ hg hM⟩
  · cases h
theorem as_last {a b : Nat} {L : List Nat} (h : ao_last c = some ds) (hB : ac_B σ c.2.2.2.2) (hC : ac_C σ c c') : ac_St σ SA' (60, a, b, L) c' ds := by
  unfold ao_last at h
  split at h
  · next v j q st hst =>
    have hV := hC.2.2.1
    rw [hst] at hV
    obtain ⟨v', r0, rfl', v1, hV2⟩ := ac_Vs_cons hV
    obtain ⟨x', q', r', e1, v2, v3, v4⟩ := ac_Vs_2 hV2
    have v3 : q' = .ref q := v3
    subst v3
    subst e1
    have v2 : x' = .int j := v2
    subst v2
    split at h
    · next M hM =>
      cases h
      obtain ⟨w, n, f, rfl, h1, h2, h3⟩ := ax_last_sound hC.2.2.2 hM v1
      refine ac_one hB (d' := (c'.1 + 1, c'.2.1, r', c'.2.2.2.set q (.inr (3, n, .inr (.inl (vp_updL f j.toNatClampNeg w)))))) ?_ ⟨?_, hC.2.1, v4, h3⟩
      · show mx_last c' = _
        unfold mx_last
        rw [rfl']
        simp only
        rw [h1]
        simp only
        rw [h2, Nat.beq_refl]
        rfl
      · show c.1 + 1 = c'.1 + 1
        rw [hC.1]
    · cases h
  · cases h
theorem as_new {a b : Nat} {L : List Nat} (h : ao_new a c = some ds) (hB : ac_B σ c.2.2.2.2) (hC : ac_C σ c c') : ac_St σ SA' (61, a, b, L) c' ds := by
  unfold ao_new at h
  split at h
  · next fs hfs =>
    cases hk : Nat.blt c.2.2.2.1.1 250 with
    | false => rw [hk] at h; cases h
    | true =>
      rw [hk] at h
      cases h
      have hl := Nat.le_of_ble_eq_true hk
      have hn := hC.2.2.2.1
      refine ac_one hB (d' := (c'.1 + 3, c'.2.1, .ref c'.2.2.2.length :: c'.2.2.1, c'.2.2.2 ++ [.inl (a, fs)])) ?_ ⟨?_, hC.2.1, ⟨?_, hC.2.2.1⟩, ac_M_app (a := .inl (a, ax_emb fs)) ⟨fs, rfl, ac_Vs_emb fs⟩ (by omega) hC.2.2.2⟩
      · show (match mx_nth mx_DF a with
          | some fs => mx_new a fs c'
          | none => none) = _
        rw [hfs]
        show mx_new a fs c' = _
        unfold mx_new
        have : Nat.blt c'.2.2.2.length 999 = true := Nat.ble_eq_true_of_le (by rw [← hn]; omega)
        rw [this]
        rfl
      · show c.1 + 3 = c'.1 + 3
        rw [hC.1]
      · show Value.ref _ = Value.ref _
        rw [hn]
  · cases h
theorem mx_zero_kd {t n : Nat} (ht : t < 4) : mx_kd t (mx_zero t n) = true := by
  match t, ht with
  | 0, _ => rfl
  | 1, _ => rfl
  | 2, _ => rfl
  | 3, _ => rfl
theorem ac_ag_zero {t n : Nat} (ht : t < 4) : ac_ag (mx_zero t n) (mx_zero t n) := by
  match t, ht with
  | 0, _ => exact ⟨rfl, fun _ _ => rfl⟩
  | 1, _ => exact ⟨rfl, fun _ _ => rfl⟩
  | 2, _ => exact ⟨rfl, fun _ _ => rfl⟩
  | 3, _ => exact ⟨rfl, fun _ _ => rfl⟩
theorem as_newa {t b : Nat} {L : List Nat} (h : ao_newa t c = some ds) (hB : ac_B σ c.2.2.2.2) (hC : ac_C σ c c') : ac_St σ SA' (62, t, b, L) c' ds := by
  unfold ao_newa at h
  split at h
  · next x st hst =>
    obtain ⟨x', r', e1, v1, v2⟩ := ac_st1 hst hC
    have v1 := ac_nrm hB v1
    split at h
    · next n hn0 =>
      rw [hn0] at v1
      have v1 : x' = .int n := v1
      subst v1
      cases hk : (mx_inb n 2000 && (Nat.blt c.2.2.2.1.1 250 && Nat.blt t 4)) with
      | false => rw [hk] at h; cases h
      | true =>
        rw [hk] at h
        cases h
        simp only [Bool.and_eq_true] at hk
        obtain ⟨k1, k2, k3⟩ := hk
        have hl := Nat.le_of_ble_eq_true k2
        have hn := hC.2.2.2.1
        refine ac_one hB (d' := (c'.1 + 2, c'.2.1, .ref c'.2.2.2.length :: r', c'.2.2.2 ++ [.inr (t, mx_zero t n.toNatClampNeg)])) ?_ ⟨?_, hC.2.1, ⟨?_, v2⟩, ac_M_app (a := .inr (.inl (t, mx_zero t n.toNatClampNeg))) ⟨_, rfl, ac_ag_zero (Nat.le_of_ble_eq_true k3)⟩ (by omega) hC.2.2.2⟩
        · show mx_newa t c' = _
          unfold mx_newa
          rw [e1]
          simp only
          have : Nat.blt c'.2.2.2.length 999 = true := Nat.ble_eq_true_of_le (by rw [← hn]; omega)
          rw [this, k1]
          rfl
        · show c.1 + 2 = c'.1 + 2
          rw [hC.1]
        · show Value.ref _ = Value.ref _
          rw [hn]
    · cases h
  · cases h
theorem as_obj {a b : Nat} {L : List Nat} (h : ao_obj c = some ds) (hB : ac_B σ c.2.2.2.2) (hC : ac_C σ c c') : ac_St σ SA' (63, a, b, L) c' ds := by
  unfold ao_obj at h
  split at h
  · next q st hst =>
    cases hk : Nat.ble (ax_cat st) 8 with
    | false => rw [hk] at h; cases h
    | true =>
      rw [hk] at h
      cases h
      obtain ⟨x', r', e1, v1, v2⟩ := ac_st1 hst hC
      have v1 : x' = .ref q := v1
      subst v1
      refine ac_one hB (d' := (c'.1 + 3, c'.2.1, r', c'.2.2.2)) ?_ ⟨?_, hC.2.1, v2, hC.2.2.2⟩
      · show mx_obj c' = _
        unfold mx_obj
        rw [e1]
        simp only
        rw [← ac_Vs_cat v2, hk]
        rfl
      · show c.1 + 3 = c'.1 + 3
        rw [hC.1]
  · cases h
theorem as_mm {f : Int32 → Int32 → Int32} {i : mx_I} (hi : mx_op SA' mx_SF mx_DF 14 i c' = mx_mm f c') (h : ao_mm f c = some ds) (hB : ac_B σ c.2.2.2.2) (hC : ac_C σ c c') : ac_St σ SA' i c' ds := by
  unfold ao_mm at h
  split at h
  · next y x st hst =>
    cases hk : Nat.ble (ax_cat st) 8 with
    | false => rw [hk] at h; cases h
    | true =>
      rw [hk] at h
      cases h
      have hV := hC.2.2.1
      rw [hst] at hV
      obtain ⟨y', x', r', e1, v1, v2, v3⟩ := ac_Vs_2 hV
      have v1 : y' = .int y := v1
      have v2 : x' = .int x := v2
      subst v1
      subst v2
      refine ac_one hB (d' := (c'.1 + 3, c'.2.1, .int (f x y) :: r', c'.2.2.2)) ?_ ⟨?_, hC.2.1, ⟨rfl, v3⟩, hC.2.2.2⟩
      · rw [hi]
        unfold mx_mm
        rw [e1]
        simp only
        rw [← ac_Vs_cat v3, hk]
        rfl
      · show c.1 + 3 = c'.1 + 3
        rw [hC.1]
  · cases h
/-! any instruction that is no call and no end -/
theorem as_opA {o a b : Nat} {L : List Nat} (ho : o ≤ 8) (h : ax_opA (o, a, b, L) c = some ds) (hB : ac_B σ c.2.2.2.2) (hC : ac_C σ c c') : ac_St σ SA' (o, a, b, L) c' ds := by
  match o, ho, h with
  | 0, _, h => exact as_push (v := .int (Int32.ofNat a)) (n := b) rfl h hB hC
  | 1, _, h => exact as_push (v := .long (Int64.ofNat a)) (n := b) rfl h hB hC
  | 2, _, h =>
    refine as_load (w := .null) (kd := 0) (a := a) (n := b) h hB hC fun w hw h0 _ _ => ?_
    obtain ⟨x, rfl⟩ := h0 rfl
    show mx_ldi a b c' = _
    unfold mx_ldi
    rw [hw]
  | 3, _, h =>
    refine as_load (w := .null) (kd := 1) (a := a) (n := b) h hB hC fun w hw _ h0 _ => ?_
    obtain ⟨x, rfl⟩ := h0 rfl
    show mx_ldl a b c' = _
    unfold mx_ldl
    rw [hw]
  | 4, _, h =>
    refine as_load (w := .null) (kd := 2) (a := a) (n := b) h hB hC fun w hw _ _ h0 => ?_
    obtain ⟨x, rfl⟩ := h0 rfl
    show mx_lda a b c' = _
    unfold mx_lda
    rw [hw]
  | 5, _, h => exact as_store0 (b := 0) h hB hC
  | 6, _, h => exact as_store1 (b := 0) h hB hC
  | 7, _, h => exact as_store2 (b := 0) h hB hC
  | 8, _, h => exact as_inc h hB hC
  | n + 9, ho, _ => exact absurd ho (by omega)
theorem as_opB {o a b : Nat} {L : List Nat} (h1 : 36 ≤ o) (h2 : o ≤ 50) (h : ax_opB (o, a, b, L) c = some ds) (hB : ac_B σ c.2.2.2.2) (hC : ac_C σ c c') : ac_St σ SA' (o, a, b, L) c' ds := by
  match o, h1, h2, h with
  | 36, _, _, h => exact as_if1 (o := 0) (by omega) h hB hC
  | 37, _, _, h => exact as_if1 (o := 1) (by omega) h hB hC
  | 38, _, _, h => exact as_if1 (o := 2) (by omega) h hB hC
  | 39, _, _, h => exact as_if1 (o := 3) (by omega) h hB hC
  | 40, _, _, h => exact as_if1 (o := 4) (by omega) h hB hC
  | 41, _, _, h => exact as_if1 (o := 5) (by omega) h hB hC
  | 42, _, _, h => exact as_if2 (o := 0) (by omega) h hB hC
  | 43, _, _, h => exact as_if2 (o := 1) (by omega) h hB hC
  | 44, _, _, h => exact as_if2 (o := 2) (by omega) h hB hC
  | 45, _, _, h => exact as_if2 (o := 3) (by omega) h hB hC
  | 46, _, _, h => exact as_if2 (o := 4) (by omega) h hB hC
  | 47, _, _, h => exact as_if2 (o := 5) (by omega) h hB hC
  | 48, _, _, h => exact as_goto h hB hC
  | 49, _, _, h => exact as_tsw h hB hC
  | 50, _, _, h => exact as_lsw h hB hC
  | n + 51, _, h2, _ => exact absurd h2 (by omega)
theorem as_opC {o a b : Nat} {L : List Nat} (hS : ac_S σ SA SA' P) (h1 : 52 ≤ o) (h2 : o ≤ 60) (h : ax_opC SA P (o, a, b, L) c = some ds) (hB : ac_B σ c.2.2.2.2) (hC : ac_C σ c c') : ac_St σ SA' (o, a, b, L) c' ds := by
  match o, h1, h2, h with
  | 52, _, _, h => exact as_gstr h hB hC
  | 53, _, _, h => exact as_put h hB hC
  | 54, _, _, h => exact as_putF h hB hC
  | 55, _, _, h => exact as_gets h hB hC
  | 56, _, _, h => exact as_ldcS h hB hC
  | 57, _, _, h => exact as_alen hS h hB hC
  | 58, _, _, h => exact as_ald hS h hB hC
  | 59, _, _, h => exact as_ast h hB hC
  | 60, _, _, h => exact as_last h hB hC
  | n + 61, _, h2, _ => exact absurd h2 (by omega)
theorem as_opD {o a b : Nat} {L : List Nat} (h1 : 61 ≤ o) (h : ax_opD (o, a, b, L) c = some ds) (hB : ac_B σ c.2.2.2.2) (hC : ac_C σ c c') : ac_St σ SA' (o, a, b, L) c' ds := by
  match o, h1, h with
  | 61, _, h => exact as_new h hB hC
  | 62, _, h => exact as_newa h hB hC
  | 63, _, h => exact as_obj h hB hC
  | 64, _, h => cases h
  | 65, _, h => exact as_mm (f := fun x y => if x < y then y else x) rfl h hB hC
  | 66, _, h => exact as_mm (f := fun x y => if y < x then y else x) rfl h hB hC
  | n + 67, _, h => cases h
theorem ax_op_sound {i : mx_I} (hS : ac_S σ SA SA' P) (hD : ac_D σ DT n0) (h : ax_op SA P DT n0 i c = some ds) (hB : ac_B σ c.2.2.2.2) (hC : ac_C σ c c') : ac_St σ SA' i c' ds := by
  obtain ⟨o, a, b, L⟩ := i
  unfold ax_op at h
  simp only at h
  cases h8 : Nat.ble o 8 with
  | true =>
    rw [h8] at h
    exact as_opA (Nat.le_of_ble_eq_true h8) h hB hC
  | false =>
    have n8 : 8 < o := Nat.lt_of_not_le fun z => by rw [Nat.ble_eq_true_of_le z] at h8; cases h8
    rw [h8] at h
    simp only [cond_false] at h
    cases h35 : Nat.ble o 35 with
    | true =>
      rw [h35] at h
      exact as_pure n8 (Nat.le_of_ble_eq_true h35) hD h hB hC
    | false =>
      have n35 : 35 < o := Nat.lt_of_not_le fun z => by rw [Nat.ble_eq_true_of_le z] at h35; cases h35
      rw [h35] at h
      simp only [cond_false] at h
      cases h51 : Nat.beq o 51 with
      | true =>
        rw [h51] at h
        have := Nat.eq_of_beq_eq_true h51
        subst this
        exact as_get h hB hC
      | false =>
        have n51 : o ≠ 51 := Nat.ne_of_beq_eq_false h51
        rw [h51] at h
        simp only [cond_false] at h
        cases h50 : Nat.ble o 50 with
        | true =>
          rw [h50] at h
          exact as_opB n35 (Nat.le_of_ble_eq_true h50) h hB hC
        | false =>
          have n50 : 50 < o := Nat.lt_of_not_le fun z => by rw [Nat.ble_eq_true_of_le z] at h50; cases h50
          rw [h50] at h
          simp only [cond_false] at h
          cases h60 : Nat.ble o 60 with
          | true =>
            rw [h60] at h
            exact as_opC hS (by omega) (Nat.le_of_ble_eq_true h60) h hB hC
          | false =>
            have n60 : 60 < o := Nat.lt_of_not_le fun z => by rw [Nat.ble_eq_true_of_le z] at h60; cases h60
            rw [h60] at h
            exact as_opD n60 h hB hC
end ABX
end
section
/-! A RUN WITH UNKNOWN NUMBERS STANDS FOR THE RUNS OF THE SMALL MACHINE -/
def ac_R (σ : Nat → Int) (a : Option ax_V) (v : Option Value) : Prop := match a, v with
  | none, none => True
  | some a, some v => ac_V σ a v
  | _, _ => False
/-- one of the outcomes is what a call answers and leaves -/
def ac_Os (σ : Nat → Int) (os : List ax_O) (K : Option Value → mx_M → Prop) : Prop := ∃ o ∈ os, ac_B σ o.2.2 ∧ ∃ r N, K r N ∧ ac_R σ o.1 r ∧ ac_M σ o.2.1 N
theorem ac_Os.mono {σ : Nat → Int} {os os2 : List ax_O} {K K2 : Option Value → mx_M → Prop} (h : ac_Os σ os K) (h1 : ∀ o ∈ os, o ∈ os2) (h2 : ∀ r N, K r N → K2 r N) : ac_Os σ os2 K2 := by
  obtain ⟨o, a, b, r, N, e, f, g⟩ := h
  exact ⟨o, h1 o a, b, r, N, h2 r N e, f, g⟩
theorem ax_all_mem {α : Type} {f : α → Option (List ax_O)} : ∀ {l : List α} {os : List ax_O}, ax_all f l = some os → ∀ x ∈ l, ∃ l', f x = some l' ∧ ∀ o ∈ l', o ∈ os
  | [], _, _, x, hx => by cases hx
  | c :: cs, os, h, x, hx => by
    unfold ax_all at h
    split at h
    · next l hl =>
      split at h
      · next r hr =>
        cases h
        rcases List.mem_cons.mp hx with rfl | hx
        · exact ⟨l, hl, fun o ho => List.mem_append_left _ ho⟩
        · obtain ⟨l', h1, h2⟩ := ax_all_mem hr x hx
          exact ⟨l', h1, fun o ho => List.mem_append_right _ (h2 o ho)⟩
      · cases h
    · cases h
section ABY
variable {σ : Nat → Int} {SA SA' : mx_S} {P : ax_P} {DT : ax_T} {n0 : Nat} {c : ax_C} {c' : mx_C} {ds : List ax_C} {os : List ax_O}
theorem ax_spl_sound {B : ax_B} {s : Nat} {lo : Int} (hB : ac_B σ B) : ∀ (n : Nat), lo ≤ σ s → σ s ≤ lo + (n : Int) → ∃ B' ∈ ax_spl B s lo n, ac_B σ B'
  | 0, h1, h2 => ⟨_, List.mem_singleton.mpr rfl, ac_upd hB h1 (by simpa using h2)⟩
  | n + 1, h1, h2 => by
    by_cases z : σ s = lo + ((n + 1 : Nat) : Int)
    · exact ⟨_, List.mem_cons_self, ac_upd hB (by show lo + ((n + 1 : Nat) : Int) ≤ σ s; omega) (by show σ s ≤ lo + ((n + 1 : Nat) : Int); omega)⟩
    · obtain ⟨B', e1, e2⟩ := ax_spl_sound hB n h1 (by omega)
      exact ⟨B', List.mem_cons_of_mem _ e1, e2⟩
theorem ax_cut_sound {B : ax_B} {s : Nat} {a b : Int} {Bs : List ax_B} (hB : ac_B σ B) (h : ax_cut B s a b = some Bs) : ∃ B' ∈ Bs, ac_B σ B' := by
  unfold ax_cut at h
  split at h
  · next l u hs =>
    have hb := hB s (l, u) (by rw [← mx_nth_eq]; exact hs)
    have b1 : l ≤ σ s := hb.1
    have b2 : σ s ≤ u := hb.2
    cases hk : (decide (l < u) && (decide (max l a ≤ min u b) && decide (min u b - max l a ≤ 64))) with
    | false => rw [hk] at h; cases h
    | true =>
      rw [hk] at h
      cases h
      simp only [Bool.and_eq_true, decide_eq_true_eq] at hk
      obtain ⟨k1, k2, -⟩ := hk
      by_cases z1 : σ s < a
      · have : decide (l ≤ a - 1) = true := decide_eq_true (by omega)
        rw [this]
        exact ⟨ax_upd B s (l, a - 1), List.mem_append_left _ (List.mem_singleton.mpr rfl), ac_upd hB b1 (by show σ s ≤ a - 1; omega)⟩
      · by_cases z2 : b < σ s
        · have : decide (b + 1 ≤ u) = true := decide_eq_true (by omega)
          rw [this]
          exact ⟨ax_upd B s (b + 1, u), List.mem_append_right _ (List.mem_append_left _ (List.mem_singleton.mpr rfl)), ac_upd hB (by show b + 1 ≤ σ s; omega) b2⟩
        · obtain ⟨B', e1, e2⟩ := ax_spl_sound (B := B) (s := s) (lo := max l a) hB (min u b - max l a).toNat (by omega) (by omega)
          exact ⟨B', List.mem_append_right _ (List.mem_append_right _ e1), e2⟩
  · cases h
theorem ax_wv_sound {B : ax_B} {v : ax_V} {a b : Int} {Bs : List ax_B} (hB : ac_B σ B) (h : ax_wv B v a b = some Bs) : ∃ B' ∈ Bs, ac_B σ B' := by
  unfold ax_wv at h
  split at h
  · exact ax_cut_sound hB h
  · cases h
theorem ax_wf_sound {B : ax_B} {v : ax_V} {Bs : List ax_B} (hB : ac_B σ B) (h : ax_wf B v = some Bs) : ∃ B' ∈ Bs, ac_B σ B' := by
  unfold ax_wf at h
  split at h
  · split at h
    · exact ax_cut_sound hB h
    · cases h
  · cases h
theorem ax_w2_sound {B : ax_B} {x y : ax_V} {Bs : List ax_B} (hB : ac_B σ B) (h : ax_w2 B x y = some Bs) : ∃ B' ∈ Bs, ac_B σ B' := by
  unfold ax_w2 at h
  split at h
  · exact ax_wv_sound hB h
  · split at h
    · exact ax_wv_sound hB h
    · cases h
theorem ax_want_sound {i : mx_I} {Bs : List ax_B} (hB : ac_B σ c.2.2.2.2) (h : ax_want i c = some Bs) : ∃ B' ∈ Bs, ac_B σ B' := by
  unfold ax_want at h
  cases hk1 : (Nat.beq i.1 58 || Nat.beq i.1 62) with
  | true =>
    rw [hk1] at h
    simp only [cond_true] at h
    split at h
    · exact ax_wf_sound hB h
    · cases h
  | false =>
    rw [hk1] at h
    simp only [cond_false] at h
    cases hk2 : Nat.beq i.1 59 with
    | true =>
      rw [hk2] at h
      simp only [cond_true] at h
      split at h
      · exact ax_wf_sound hB h
      · cases h
    | false =>
      rw [hk2] at h
      simp only [cond_false] at h
      cases hk3 : Nat.beq i.1 11 with
      | true =>
        rw [hk3] at h
        simp only [cond_true] at h
        split at h
        · split at h
          · next s hs =>
            cases h
            exact ax_wf_sound hB hs
          · exact ax_wf_sound hB h
        · cases h
      | false =>
        rw [hk3] at h
        simp only [cond_false] at h
        cases hk4 : (Nat.beq i.1 36 || Nat.beq i.1 37) with
        | true =>
          rw [hk4] at h
          simp only [cond_true] at h
          split at h
          · exact ax_wv_sound hB h
          · cases h
        | false =>
          rw [hk4] at h
          simp only [cond_false] at h
          cases hk5 : (Nat.beq i.1 42 || Nat.beq i.1 43) with
          | true =>
            rw [hk5] at h
            simp only [cond_true] at h
            split at h
            · exact ax_w2_sound hB h
            · cases h
          | false =>
            rw [hk5] at h
            simp only [cond_false] at h
            cases hk6 : Nat.beq i.1 49 with
            | true =>
              rw [hk6] at h
              simp only [cond_true] at h
              split at h
              · exact ax_wv_sound hB h
              · cases h
            | false => rw [hk6] at h; cases h
theorem ax_fix1_sound {e : Nat × Nat × Int32} {B : ax_B} (hD : ac_D σ DT n0) (hB : ac_B σ B) : ∃ B', ax_fix1 DT n0 e B = some B' ∧ ac_B σ B' := by
  unfold ax_fix1
  split
  · next l h hs =>
    have hb := hB e.2.1 (l, h) (by rw [← mx_nth_eq]; exact hs)
    cases hk : (l == h && (Int32.ofInt l).toInt == l) with
    | false => exact ⟨B, rfl, hB⟩
    | true =>
      simp only [cond_true]
      rw [Bool.and_eq_true] at hk
      have k1 := eq_of_beq hk.1
      have k2 := eq_of_beq hk.2
      have b1 : l ≤ σ e.2.1 := hb.1
      have b2 : σ e.2.1 ≤ h := hb.2
      split
      · next t ht =>
        have key := hD e.1 e.2.1 t e.2.2 ht (Int32.ofInt l) (by omega)
        split
        · next a b hab =>
          have hc := hB t (a, b) (by rw [← mx_nth_eq]; exact hab)
          have c1 : a ≤ σ t := hc.1
          have c2 : σ t ≤ b := hc.2
          have d1 : decide (a ≤ (ac_fn e.1 (Int32.ofInt l) e.2.2).toInt) = true := decide_eq_true (by omega)
          have d2 : decide ((ac_fn e.1 (Int32.ofInt l) e.2.2).toInt ≤ b) = true := decide_eq_true (by omega)
          rw [d1, d2]
          exact ⟨_, rfl, ac_upd hB (by show (ac_fn e.1 (Int32.ofInt l) e.2.2).toInt ≤ σ t; omega) (by show σ t ≤ (ac_fn e.1 (Int32.ofInt l) e.2.2).toInt; omega)⟩
        · exact ⟨B, rfl, hB⟩
      · exact ⟨B, rfl, hB⟩
  · exact ⟨B, rfl, hB⟩
theorem ax_fix_sound (hD : ac_D σ DT n0) : ∀ {r : ax_T} {B : ax_B}, ac_B σ B → ∃ B', ax_fix DT n0 r B = some B' ∧ ac_B σ B'
  | [], B, hB => ⟨B, rfl, hB⟩
  | e :: r, B, hB => by
    obtain ⟨B1, h1, h2⟩ := ax_fix1_sound (e := e) hD hB
    obtain ⟨B2, h3, h4⟩ := ax_fix_sound hD (r := r) h2
    refine ⟨B2, ?_, h4⟩
    show (match ax_fix1 DT n0 e B with
      | some B' => ax_fix DT n0 r B'
      | none => none) = some B2
    rw [h1]
    exact h3
theorem ar_fix_some {rec : ax_C → Option (List ax_O)} {B : ax_B} (hD : ac_D σ DT n0) (hB : ac_B σ B) (h : ar_fix DT n0 rec c B = some os) : ∃ B', ac_B σ B' ∧ rec (c.1, c.2.1, c.2.2.1, c.2.2.2.1, B') = some os := by
  obtain ⟨B', h1, h2⟩ := ax_fix_sound (r := DT) hD hB
  unfold ar_fix at h
  rw [h1] at h
  exact ⟨B', h2, h⟩
theorem ax_args_sound : ∀ {n : Nat} {st as as2 rest : List ax_V} {st' as' : List Value}, ax_args n st as = some (as2, rest) → ac_Vs σ st st' → ac_Vs σ as as' → ∃ l rest', st' = l ++ rest' ∧ l.length = n ∧ ac_Vs σ as2 (l.reverse ++ as') ∧ ac_Vs σ rest rest'
  | 0, st, as, as2, rest, st', as', h, h1, h2 => by
    cases h
    exact ⟨[], st', rfl, rfl, h2, h1⟩
  | n + 1, [], as, as2, rest, st', as', h, h1, h2 => by cases h
  | n + 1, v :: st, as, as2, rest, st', as', h, h1, h2 => by
    obtain ⟨v', st1, rfl, e1, e2⟩ := ac_Vs_cons h1
    obtain ⟨l, rest', rfl, f1, f2, f3⟩ := ax_args_sound (n := n) (st := st) (as := v :: as) (as' := v' :: as') h e2 ⟨e1, h2⟩
    refine ⟨v' :: l, rest', rfl, by rw [List.length_cons, f1], ?_, f3⟩
    rw [List.reverse_cons, List.append_assoc]
    exact f2
theorem ax_rcv_sound {L : List Nat} {as : List ax_V} {as' : List Value} {M : ax_M} {N : mx_M} (h : ax_rcv L as M = true) (ha : ac_Vs σ as as') (hM : ac_M σ M N) : mx_rcv L as' N = true := by
  unfold ax_rcv at h
  unfold mx_rcv
  split at h
  · rfl
  · next ci L2 =>
    split at h
    · next b as2 =>
      obtain ⟨v', r', rfl, e1, e2⟩ := ac_Vs_cons ha
      have e1 : v' = .ref b := e1
      subst e1
      show mx_rcv1 ci (.ref b :: r') N = true
      unfold mx_rcv1
      simp only
      cases h98 : Nat.beq ci 98 with
      | true => rfl
      | false =>
        rw [h98] at h
        cases h99 : Nat.beq ci 99 with
        | true =>
          rw [h99] at h
          exact h
        | false =>
          rw [h99] at h
          simp only [cond_false] at h
          simp only [cond_false]
          split at h
          · next cj fs hg =>
            obtain ⟨e, e1, e2⟩ := ac_M_nth hM hg
            obtain ⟨gs, rfl, -⟩ := e2
            rw [e1]
            exact h
          · cases h
    · cases h
theorem ax_fit_sound {a : Nat} {v : ax_V} {v' : Value} (h : ax_fit a v = true) (hv : ac_V σ v v') : ∃ x, v' = .int x ∧ mx_fit a x = true := by
  unfold ax_fit at h
  split at h
  · next x => exact ⟨x, hv, h⟩
  · next p =>
    have := Nat.eq_of_beq_eq_true h
    subst this
    obtain ⟨x, rfl, -⟩ := hv
    exact ⟨x, rfl, rfl⟩
  · have := Nat.eq_of_beq_eq_true h
    subst this
    obtain ⟨x, rfl⟩ := hv
    exact ⟨x, rfl, rfl⟩
  · cases h
theorem ac_Vs_1 {a : ax_V} {l : List Value} (h : ac_Vs σ [a] l) : ∃ v, l = [v] ∧ ac_V σ a v := by
  obtain ⟨v, l1, rfl, h1, h2⟩ := ac_Vs_cons h
  match l1, h2 with
  | [], _ => exact ⟨v, rfl, h1⟩
theorem ax_ret_sound {i : mx_I} {B : ax_B} {st : List ax_V} {st' : List Value} {r : Option ax_V} (h : ax_ret i B st = some r) (hB : ac_B σ B) (hs : ac_Vs σ st st') : 80 ≤ i.1 ∧ ∃ r', mx_ret i st' = some r' ∧ ac_R σ r r' := by
  obtain ⟨o, a, b, L⟩ := i
  unfold ax_ret at h
  simp only at h
  cases h80 : Nat.beq o 80 with
  | true =>
    rw [h80] at h
    simp only [cond_true] at h
    have := Nat.eq_of_beq_eq_true h80
    subst this
    refine ⟨Nat.le_refl _, ?_⟩
    split at h
    · next v =>
      cases hf : ax_fit a (ax_nrm B v) with
      | false => rw [hf] at h; cases h
      | true =>
        rw [hf] at h
        cases h
        obtain ⟨v', rfl, e1⟩ := ac_Vs_1 hs
        have e1 := ac_nrm hB e1
        obtain ⟨x, rfl, e2⟩ := ax_fit_sound hf e1
        refine ⟨some (.int x), ?_, e1⟩
        show (bif mx_fit a x then some (some (Value.int x)) else none) = _
        rw [e2]
        rfl
    · cases h
  | false =>
    rw [h80] at h
    simp only [cond_false] at h
    cases h81 : Nat.beq o 81 with
    | true =>
      rw [h81] at h
      simp only [cond_true] at h
      have := Nat.eq_of_beq_eq_true h81
      subst this
      refine ⟨by show 80 ≤ 81; omega, ?_⟩
      split at h
      · next v =>
        cases hf : Nat.beq (ax_kind v) 1 with
        | false => rw [hf] at h; cases h
        | true =>
          rw [hf] at h
          cases h
          obtain ⟨v', rfl, e1⟩ := ac_Vs_1 hs
          obtain ⟨x, rfl⟩ := ac_V_long e1 (Nat.eq_of_beq_eq_true hf)
          exact ⟨some (.long x), rfl, e1⟩
      · cases h
    | false =>
      rw [h81] at h
      simp only [cond_false] at h
      cases h82 : Nat.beq o 82 with
      | true =>
        rw [h82] at h
        simp only [cond_true] at h
        have := Nat.eq_of_beq_eq_true h82
        subst this
        refine ⟨by show 80 ≤ 82; omega, ?_⟩
        split at h
        · next v =>
          cases hf : Nat.beq (ax_kind v) 2 with
          | false => rw [hf] at h; cases h
          | true =>
            rw [hf] at h
            cases h
            obtain ⟨v', rfl, e1⟩ := ac_Vs_1 hs
            obtain ⟨x, rfl, -⟩ := ac_V_ref e1 (Nat.eq_of_beq_eq_true hf)
            exact ⟨some (.ref x), rfl, e1⟩
        · cases h
      | false =>
        rw [h82] at h
        simp only [cond_false] at h
        cases h83 : Nat.beq o 83 with
        | true =>
          rw [h83] at h
          simp only [cond_true] at h
          have := Nat.eq_of_beq_eq_true h83
          subst this
          refine ⟨by show 80 ≤ 83; omega, ?_⟩
          split at h
          · cases h
            match st', hs with
            | [], _ => exact ⟨none, rfl, trivial⟩
          · cases h
        | false =>
          rw [h83] at h
          cases h
theorem ac_R_opt {r : Option ax_V} {r' : Option Value} {st : List ax_V} {st' : List Value} (h : ac_R σ r r') (hs : ac_Vs σ st st') : ac_Vs σ (ax_opt r st) (r'.toList ++ st') := by
  match r, r', h with
  | none, none, _ => exact hs
  | some a, some v, h => exact ⟨h, hs⟩
theorem ax_lva_sound : ∀ {k : Nat} {as : List ax_V} {as' : List Value}, ac_Vs σ as as' → ac_L σ (ax_lva k as) (lv_args k as')
  | _, [], [], _ => trivial
  | _, [], _ :: _, h => h.elim
  | _, _ :: _, [], h => h.elim
  | k, a :: as, v :: vs, h => by
    refine ⟨⟨rfl, h.1⟩, ?_⟩
    have e : (bif ax_is2 a then k + 2 else k + 1) = (if v.category = 2 then k + 2 else k + 1) := by
      rw [ac_V_is2 h.1]
      have := mx_is2_eq v
      cases hv : mx_is2 v with
      | true =>
        rw [hv] at this
        rw [if_pos (eq_of_beq this)]
        rfl
      | false =>
        rw [hv] at this
        rw [if_neg (by simpa using this)]
        rfl
    show ac_L σ (ax_lva (bif ax_is2 a then k + 2 else k + 1) as) (lv_args (if v.category = 2 then k + 2 else k + 1) vs)
    rw [e]
    exact ax_lva_sound h.2
theorem ax_run_sound {call : Nat → List ax_V → ax_M → ax_B → Option (List ax_O)} {call' : Nat → List Value → mx_M → Option Value → mx_M → Prop} {t : List (List (Nat × mx_I))} (hS : ac_S σ SA SA' P) (hD : ac_D σ DT n0)
    (hcall : ∀ k as as' M N B os, call k as M B = some os → ac_Vs σ as as' → ac_M σ M N → ac_B σ B → ac_Os σ os (call' k as' N)) :
    ∀ (n : Nat) (c : ax_C) (c' : mx_C) (os : List ax_O), ax_run SA P DT n0 call t n c = some os → ac_B σ c.2.2.2.2 → ac_C σ c c' → ac_Os σ os fun r N => ∃ m, mx_run call' (mx_op SA' mx_SF mx_DF 14) t m c' r N
  | 0, _, _, _, h, _, _ => by cases h
  | n + 1, c, c', os, h, hB, hC => by
    have ih := ax_run_sound (t := t) hS hD hcall n
    have h : ar_one (ax_run SA P DT n0 call t n) SA P DT n0 call c (mx_fetch t c.1) = some os := h
    cases hi : mx_fetch t c.1 with
    | none => rw [hi] at h; cases h
    | some i =>
      rw [hi] at h
      have hi' : mx_fetch t c'.1 = some i := by rw [← hC.1]; exact hi
      have h : (bif Nat.blt i.1 70 then ar_plain (ax_run SA P DT n0 call t n) SA P DT n0 i c else bif Nat.beq i.1 70 then ar_call (ax_run SA P DT n0 call t n) call i c else ar_end i c) = some os := h
      cases h70 : Nat.blt i.1 70 with
      | true =>
        rw [h70] at h
        have h : ar_plain (ax_run SA P DT n0 call t n) SA P DT n0 i c = some os := h
        unfold ar_plain at h
        split at h
        · next Bs hs =>
          obtain ⟨B1, e1, e2⟩ := ax_want_sound hB hs
          obtain ⟨l', f1, f2⟩ := ax_all_mem h B1 e1
          obtain ⟨B2, g1, g2⟩ := ar_fix_some hD e2 f1
          exact (ih (c.1, c.2.1, c.2.2.1, c.2.2.2.1, B2) c' l' g2 g1 hC).mono f2 fun _ _ z => z
        · have key : ∃ ds, ax_op SA P DT n0 i c = some ds ∧ ∀ d ∈ ds, ac_B σ d.2.2.2.2 → ∃ l' B2, ac_B σ B2 ∧ ax_run SA P DT n0 call t n (d.1, d.2.1, d.2.2.1, d.2.2.2.1, B2) = some l' ∧ ∀ o ∈ l', o ∈ os := by
            unfold ar_next at h
            split at h
            · next d hd => exact ⟨[d], hd, fun d2 h2 h3 => by
                have := List.mem_singleton.mp h2
                subst this
                exact ⟨os, d2.2.2.2.2, h3, h, fun _ z => z⟩⟩
            · refine ⟨_, by assumption, fun d2 h2 h3 => ?_⟩
              obtain ⟨l', f1, f2⟩ := ax_all_mem h d2 h2
              obtain ⟨B2, g1, g2⟩ := ar_fix_some hD h3 f1
              exact ⟨l', B2, g1, g2, f2⟩
            · cases h
          obtain ⟨ds, k1, k2⟩ := key
          obtain ⟨d, e1, e2, d', e3, e4⟩ := ax_op_sound hS hD k1 hB hC
          obtain ⟨l', B2, g1, f1, f2⟩ := k2 d e1 e2
          refine (ih (d.1, d.2.1, d.2.2.1, d.2.2.2.1, B2) d' l' f1 g1 e4).mono f2 fun r N z => ?_
          obtain ⟨m, z⟩ := z
          exact ⟨m + 1, i, hi', Or.inl ⟨Nat.le_of_ble_eq_true h70, d', e3, z⟩⟩
      | false =>
        rw [h70] at h
        simp only [cond_false] at h
        cases h7 : Nat.beq i.1 70 with
        | true =>
          rw [h7] at h
          have h : ar_call (ax_run SA P DT n0 call t n) call i c = some os := h
          unfold ar_call at h
          split at h
          · next p hp =>
            cases hk : (Nat.ble (ax_cat p.2) 8 && ax_rcv i.2.2.2 p.1 c.2.2.2.1) with
            | false => rw [hk] at h; cases h
            | true =>
              rw [hk] at h
              simp only [cond_true] at h
              simp only [Bool.and_eq_true] at hk
              obtain ⟨k1, k2⟩ := hk
              obtain ⟨l, rest', e1, e2, e3, e4⟩ := ax_args_sound (as2 := p.1) (rest := p.2) (as' := []) hp hC.2.2.1 trivial
              rw [List.append_nil] at e3
              have key : ∃ os1, call i.2.1 p.1 c.2.2.2.1 c.2.2.2.2 = some os1 ∧ ∀ o ∈ os1, ∃ l', ax_run SA P DT n0 call t n (c.1 + 3, c.2.1, ax_opt o.1 p.2, o.2.1, o.2.2) = some l' ∧ ∀ o ∈ l', o ∈ os := by
                unfold ar_back at h
                split at h
                · next o ho => exact ⟨[o], ho, fun d2 h2 => by rw [List.mem_singleton.mp h2]; exact ⟨os, h, fun _ z => z⟩⟩
                · exact ⟨_, by assumption, fun d2 h2 => ax_all_mem h d2 h2⟩
                · cases h
              obtain ⟨os1, g1, g2⟩ := key
              obtain ⟨o, f1, f2, r, N, f3, f4, f5⟩ := hcall _ _ _ _ _ _ _ g1 e3 hC.2.2.2 hB
              obtain ⟨l', g3, g4⟩ := g2 o f1
              refine (ih _ (c'.1 + 3, c'.2.1, r.toList ++ rest', N) l' g3 f2 ⟨?_, hC.2.1, ac_R_opt f4 e4, f5⟩).mono g4 fun r2 N2 z => ?_
              · show c.1 + 3 = c'.1 + 3
                rw [hC.1]
              · obtain ⟨m, z⟩ := z
                refine ⟨m + 1, i, hi', Or.inr (Or.inl ⟨Nat.eq_of_beq_eq_true h7, l.reverse, rest', r, N, ?_, ?_, ?_, ax_rcv_sound k2 e3 hC.2.2.2, f3, z⟩)⟩
                · rw [List.reverse_reverse]; exact e1
                · rw [List.length_reverse]; exact e2
                · rw [← ac_Vs_cat e4]; exact Nat.le_of_ble_eq_true k1
          · cases h
        | false =>
          rw [h7] at h
          have h : ar_end i c = some os := h
          unfold ar_end at h
          split at h
          · next r hr =>
            cases h
            obtain ⟨k1, r', k2, k3⟩ := ax_ret_sound hr hB hC.2.2.1
            exact ⟨_, List.mem_singleton.mpr rfl, hB, r', c'.2.2.2, ⟨1, i, hi', Or.inr (Or.inr ⟨k1, r', k2, rfl, rfl⟩)⟩, k3, hC.2.2.2⟩
          · cases h
theorem ax_call_sound {n : Nat} (hS : ac_S σ SA SA' P) (hD : ac_D σ DT n0) : ∀ (d k : Nat) (as : List ax_V) (as' : List Value) (M : ax_M) (N : mx_M) (B : ax_B) (os : List ax_O), ax_call SA P DT n0 n d k as M B = some os → ac_Vs σ as as' → ac_M σ M N → ac_B σ B → ac_Os σ os (mx_Ev SA' mx_code d k as' N)
  | 0, _, _, _, _, _, _, _, h, _, _, _ => by cases h
  | d + 1, k, as, as', M, N, B, os, h, ha, hM, hB => by
    unfold ax_call at h
    cases hk : (Nat.ble (ax_cat as) (mx_code k).1 && Nat.ble M.1 250) with
    | false => rw [hk] at h; cases h
    | true =>
      rw [hk] at h
      simp only [cond_true] at h
      simp only [Bool.and_eq_true] at hk
      obtain ⟨k1, k2⟩ := hk
      refine (ax_run_sound hS hD (ax_call_sound hS hD d) n _ (0, lv_args 0 as', [], N) os h hB ⟨rfl, ax_lva_sound ha, trivial, hM⟩).mono (fun _ z => z) fun r N2 z => ?_
      refine ⟨by rw [← ac_Vs_cat ha]; exact Nat.le_of_ble_eq_true k1, ?_, z⟩
      have := Nat.le_of_ble_eq_true k2
      rw [← hM.1]
      omega
end ABY
end
section
/-! MEMORIES THAT ARE ALIKE; CALLS WHOSE END IS KNOWN -/
def ae_V (a b : ax_V) : Bool := match a, b with
  | .inl (.int x), .inl (.int y) => x == y
  | .inl (.long x), .inl (.long y) => x == y
  | .inl (.ref x), .inl (.ref y) => Nat.beq x y
  | .inl .null, .inl .null => true
  | _, _ => false
def ae_Vs : List ax_V → List ax_V → Bool
  | [], [] => true
  | a :: l, b :: r => ae_V a b && ae_Vs l r
  | _, _ => false
def ae_fn (f g : Nat → Int32) : Nat → Bool
  | 0 => true
  | n + 1 => f n == g n && ae_fn f g n
def ae_fl (f g : Nat → Int64) : Nat → Bool
  | 0 => true
  | n + 1 => f n == g n && ae_fl f g n
def ae_A (x y : vp_A) : Bool := Nat.beq x.1 y.1 && (match x.2, y.2 with
  | .inl f, .inl g => ae_fn f g x.1
  | .inr (.inl f), .inr (.inl g) => ae_fl f g x.1
  | _, _ => false)
def ae_E (a b : ax_E) : Bool := match a, b with
  | .inl p, .inl q => Nat.beq p.1 q.1 && ae_Vs p.2 q.2
  | .inr (.inl p), .inr (.inl q) => Nat.beq p.1 q.1 && ae_A p.2 q.2
  | _, _ => false
def ae_Q (a b : Option ax_E) : Bool := match a, b with
  | some a, some b => ae_E a b
  | _, _ => false
def ae_Ms (M N : ax_M) : Nat → Bool
  | 0 => true
  | n + 1 => ae_Q (ax_tg 8 M.2 n) (ax_tg 8 N.2 n) && ae_Ms M N n
def ae_M (M N : ax_M) : Bool := Nat.beq M.1 N.1 && ae_Ms M N M.1
def ae_lit (n : Nat) (l : List Int) : vp_A := (n, .inl fun i => Int32.ofInt (l.getD i 0))
def ax_bld (M : ax_M) (l : List ax_E) : ax_M := l.foldl ax_ma M
abbrev ax_Or : Type := List (Nat × List ax_V × ax_M × ax_M)
def ae_find (k : Nat) (as : List ax_V) (M : ax_M) : ax_Or → Option ax_M
  | [] => none
  | e :: r => bif Nat.beq e.1 k && (ae_Vs as e.2.1 && ae_M M e.2.2.1) then some e.2.2.2 else ae_find k as M r
def ax_orc (O : ax_Or) (call : Nat → List ax_V → ax_M → ax_B → Option (List ax_O)) (k : Nat) (as : List ax_V) (M : ax_M) (B : ax_B) : Option (List ax_O) := match ae_find k as M O with
  | some N => some [(none, N, B)]
  | none => call k as M B
def ax_chk (P : ax_P) (e : Nat × List ax_V × ax_M × ax_M) : Bool := match ax_call mx_SAx P [] 7 5000 30 e.1 e.2.1 e.2.2.1 [] with
  | some [(none, M, _)] => ae_M M e.2.2.2
  | _ => false
theorem ae_V_eq {a b : ax_V} (h : ae_V a b = true) : a = b := by
  unfold ae_V at h
  split at h
  · rw [eq_of_beq h]
  · rw [eq_of_beq h]
  · rw [Nat.eq_of_beq_eq_true h]
  · rfl
  · cases h
theorem ae_Vs_eq : ∀ {a b : List ax_V}, ae_Vs a b = true → a = b
  | [], [], _ => rfl
  | [], _ :: _, h => by cases h
  | _ :: _, [], h => by cases h
  | a :: l, b :: r, h => by
    unfold ae_Vs at h
    rw [Bool.and_eq_true] at h
    rw [ae_V_eq h.1, ae_Vs_eq h.2]
theorem ae_fn_eq {f g : Nat → Int32} : ∀ {n : Nat}, ae_fn f g n = true → ∀ j, j < n → f j = g j
  | 0, _, j, hj => absurd hj (Nat.not_lt_zero j)
  | n + 1, h, j, hj => by
    unfold ae_fn at h
    rw [Bool.and_eq_true] at h
    by_cases z : j = n
    · rw [z]; exact eq_of_beq h.1
    · exact ae_fn_eq h.2 j (by omega)
theorem ae_fl_eq {f g : Nat → Int64} : ∀ {n : Nat}, ae_fl f g n = true → ∀ j, j < n → f j = g j
  | 0, _, j, hj => absurd hj (Nat.not_lt_zero j)
  | n + 1, h, j, hj => by
    unfold ae_fl at h
    rw [Bool.and_eq_true] at h
    by_cases z : j = n
    · rw [z]; exact eq_of_beq h.1
    · exact ae_fl_eq h.2 j (by omega)
theorem ae_A_ag {x x' y : vp_A} (h : ae_A x x' = true) (hy : ac_ag x y) : ac_ag x' y := by
  obtain ⟨n, f⟩ := x
  obtain ⟨n', f'⟩ := x'
  unfold ae_A at h
  rw [Bool.and_eq_true] at h
  obtain ⟨h1, h2⟩ := h
  have h1 : n = n' := Nat.eq_of_beq_eq_true h1
  subst h1
  simp only at h2
  split at h2
  · next f g =>
    obtain ⟨k, rfl, e⟩ := ac_ag_int hy
    exact ⟨rfl, fun j hj => (ae_fn_eq h2 j hj).symm.trans (e j hj)⟩
  · next f g =>
    obtain ⟨k, rfl, e⟩ := ac_ag_long hy
    exact ⟨rfl, fun j hj => (ae_fl_eq h2 j hj).symm.trans (e j hj)⟩
  · cases h2
theorem ae_E_sound {σ : Nat → Int} {a b : ax_E} {e : mx_E} (h : ae_E a b = true) (he : ac_E σ a e) : ac_E σ b e := by
  unfold ae_E at h
  split at h
  · next p q =>
    rw [Bool.and_eq_true] at h
    have h1 := Nat.eq_of_beq_eq_true h.1
    have h2 := ae_Vs_eq h.2
    obtain ⟨p1, p2⟩ := p
    obtain ⟨q1, q2⟩ := q
    have h1 : p1 = q1 := h1
    have h2 : p2 = q2 := h2
    subst h1
    subst h2
    exact he
  · next p q =>
    rw [Bool.and_eq_true] at h
    have h1 := Nat.eq_of_beq_eq_true h.1
    obtain ⟨p1, p2⟩ := p
    obtain ⟨q1, q2⟩ := q
    have h1 : p1 = q1 := h1
    subst h1
    obtain ⟨y, rfl, e2⟩ := he
    exact ⟨y, rfl, ae_A_ag h.2 e2⟩
  · cases h
theorem ae_Ms_at {M N : ax_M} : ∀ {n : Nat}, ae_Ms M N n = true → ∀ q, q < n → ae_Q (ax_tg 8 M.2 q) (ax_tg 8 N.2 q) = true
  | 0, _, q, hq => absurd hq (Nat.not_lt_zero q)
  | n + 1, h, q, hq => by
    unfold ae_Ms at h
    rw [Bool.and_eq_true] at h
    by_cases z : q = n
    · rw [z]; exact h.1
    · exact ae_Ms_at h.2 q (by omega)
theorem ae_M_sound {σ : Nat → Int} {M N : ax_M} {K : mx_M} (h : ae_M M N = true) (hM : ac_M σ M K) : ac_M σ N K := by
  unfold ae_M at h
  rw [Bool.and_eq_true] at h
  have h1 := Nat.eq_of_beq_eq_true h.1
  refine ⟨h1 ▸ hM.1, h1 ▸ hM.2.1, fun q hq => ?_⟩
  have hq : q < M.1 := by rw [h1]; exact hq
  obtain ⟨a, e, e1, e2, e3⟩ := hM.2.2 q hq
  have h3 := ae_Ms_at h.2 q hq
  rw [e1] at h3
  unfold ae_Q at h3
  split at h3
  · next a' b ha hb =>
    cases ha
    exact ⟨b, e, hb, e2, ae_E_sound h3 e3⟩
  · cases h3
/-- the known ends are right -/
def ac_Or (σ : Nat → Int) (SA' : mx_S) (d : Nat) (O : ax_Or) : Prop := ∀ e ∈ O, ∀ (as' : List Value) (N : mx_M), ac_Vs σ e.2.1 as' → ac_M σ e.2.2.1 N → ∃ N', mx_Ev SA' mx_code d e.1 as' N none N' ∧ ac_M σ e.2.2.2 N'
theorem ae_find_some {k : Nat} {as : List ax_V} {M N : ax_M} : ∀ {O : ax_Or}, ae_find k as M O = some N → ∃ e ∈ O, e.1 = k ∧ as = e.2.1 ∧ ae_M M e.2.2.1 = true ∧ N = e.2.2.2
  | [], h => by cases h
  | e :: r, h => by
    unfold ae_find at h
    cases hb : (Nat.beq e.1 k && (ae_Vs as e.2.1 && ae_M M e.2.2.1)) with
    | true =>
      rw [hb] at h
      cases h
      rw [Bool.and_eq_true, Bool.and_eq_true] at hb
      exact ⟨e, List.mem_cons_self, Nat.eq_of_beq_eq_true hb.1, ae_Vs_eq hb.2.1, hb.2.2, rfl⟩
    | false =>
      rw [hb] at h
      obtain ⟨e', h1, h2⟩ := ae_find_some (O := r) h
      exact ⟨e', List.mem_cons_of_mem _ h1, h2⟩
theorem ax_orc_sound {σ : Nat → Int} {SA' : mx_S} {d : Nat} {O : ax_Or} {call : Nat → List ax_V → ax_M → ax_B → Option (List ax_O)} (hO : ac_Or σ SA' d O)
    (hcall : ∀ k as as' M N B os, call k as M B = some os → ac_Vs σ as as' → ac_M σ M N → ac_B σ B → ac_Os σ os (mx_Ev SA' mx_code d k as' N)) :
    ∀ k as as' M N B os, ax_orc O call k as M B = some os → ac_Vs σ as as' → ac_M σ M N → ac_B σ B → ac_Os σ os (mx_Ev SA' mx_code d k as' N) := by
  intro k as as' M N B os h ha hM hB
  unfold ax_orc at h
  split at h
  · next N2 hN =>
    cases h
    obtain ⟨e, e1, rfl, rfl, e4, rfl⟩ := ae_find_some hN
    obtain ⟨N', f1, f2⟩ := hO e e1 as' N ha (ae_M_sound e4 hM)
    exact ⟨_, List.mem_singleton.mpr rfl, hB, none, N', f1, trivial, f2⟩
  · exact hcall k as as' M N B os h ha hM hB
theorem ac_B_nil {σ : Nat → Int} : ac_B σ [] := fun s p h => by simp at h
theorem ac_D_nil {σ : Nat → Int} {n0 : Nat} : ac_D σ [] n0 := fun o s t y h => by simp [ax_der] at h
theorem ax_chk_sound {σ : Nat → Int} {SA' : mx_S} {P : ax_P} {e : Nat × List ax_V × ax_M × ax_M} (hS : ac_S σ mx_SAx SA' P) (h : ax_chk P e = true) (as' : List Value) (N : mx_M) (ha : ac_Vs σ e.2.1 as') (hM : ac_M σ e.2.2.1 N) : ∃ N', mx_Ev SA' mx_code 30 e.1 as' N none N' ∧ ac_M σ e.2.2.2 N' := by
  unfold ax_chk at h
  split at h
  · next M B hM2 =>
    obtain ⟨o, e1, -, r, N', e2, e3, e4⟩ := ax_call_sound hS ac_D_nil 30 _ _ _ _ _ _ _ hM2 ha hM ac_B_nil
    rw [List.mem_singleton.mp e1] at e3 e4
    cases r with
    | some v => exact e3.elim
    | none => exact ⟨N', e2, ae_M_sound h e4⟩
  · cases h
/-- how many slots a memory has -/
def ax_szE : ax_E → Nat
  | .inl p => p.2.length
  | .inr (.inl p) => p.2.1
  | .inr (.inr p) => p.2
def ax_szs (M : ax_M) : Nat → Nat
  | 0 => 0
  | n + 1 => ax_szs M n + (match ax_tg 8 M.2 n with
    | some e => ax_szE e
    | none => 0)
theorem ax_szE_eq {σ : Nat → Int} {a : ax_E} {e : mx_E} (h : ac_E σ a e) : mx_szE e = ax_szE a := by
  match a, h with
  | .inl (ci, fs), h =>
    obtain ⟨gs, rfl, h2⟩ := h
    exact (ac_Vs_len h2).symm
  | .inr (.inl (t, x)), h =>
    obtain ⟨y, rfl, h2⟩ := h
    exact h2.1.symm
  | .inr (.inr (t, n)), h =>
    obtain ⟨y, rfl, h2, -⟩ := h
    exact h2
theorem ax_szs_take {σ : Nat → Int} {M : ax_M} {N : mx_M} (hM : ac_M σ M N) : ∀ n, n ≤ M.1 → mx_sz (N.take n) = ax_szs M n
  | 0, _ => by simp [mx_sz, ax_szs]
  | n + 1, h => by
    obtain ⟨a, e, e1, e2, e3⟩ := hM.2.2 n h
    have hl : n < N.length := (List.getElem?_eq_some_iff.mp e2).1
    have ht : N.take (n + 1) = N.take n ++ [e] := by
      rw [List.take_succ, e2]
      rfl
    rw [ht, mx_sz_app, ax_szs_take hM n (by omega), ax_szE_eq e3]
    show ax_szs M n + ax_szE a = ax_szs M n + (match ax_tg 8 M.2 n with
      | some e => ax_szE e
      | none => 0)
    rw [e1]
theorem ax_szs_eq {σ : Nat → Int} {M : ax_M} {N : mx_M} (hM : ac_M σ M N) : mx_sz N = ax_szs M M.1 := by
  rw [← ax_szs_take hM M.1 (Nat.le_refl _), hM.1, List.take_length]
/-- a run that answers 1 at every end, with no more slots than are allowed -/
def ax_small (n : Nat) (M : ax_M) : Bool := Nat.ble (ax_szs M M.1) n
def ax_yes1 (n : Nat) (o : ax_O) : Bool := match o.1 with
  | some (.inl (.int x)) => x == 1 && ax_small n o.2.1
  | _ => false
def ax_yes (n : Nat) (os : List ax_O) : Bool := os.all (ax_yes1 n)
theorem ax_yes_at {n : Nat} {os : List ax_O} (h : ax_yes n os = true) (o : ax_O) (ho : o ∈ os) : o.1 = some (.inl (.int 1)) ∧ ax_szs o.2.1 o.2.1.1 ≤ n := by
  have h1 := List.all_eq_true.mp h o ho
  unfold ax_yes1 at h1
  split at h1
  · next x hx =>
    rw [Bool.and_eq_true] at h1
    exact ⟨by rw [hx, eq_of_beq h1.1], Nat.le_of_ble_eq_true h1.2⟩
  · cases h1
def ax_law (P : ax_P) (DT : ax_T) (O : ax_Or) (B : ax_B) : Bool := match ax_run mx_SAx P DT 7 (ax_orc O (ax_call mx_SAx P DT 7 5000 30)) mt_L 5000 (0, [(0, .inl (.ref P.1))], [], (0, ax_te 8), B) with
  | some os => ax_yes 1000000 os
  | none => false
theorem ax_law_sound {σ : Nat → Int} {SA' : mx_S} {P : ax_P} {DT : ax_T} {O : ax_Or} {B : ax_B} (hS : ac_S σ mx_SAx SA' P) (hD : ac_D σ DT 7) (hO : ac_Or σ SA' 30 O) (hB : ac_B σ B) (h : ax_law P DT O B = true) : ∃ N m, mx_run (mx_Ev SA' mx_code 30) (mx_op SA' mx_SF mx_DF 14) mt_L m (0, [(0, .ref P.1)], [], []) (some (.int 1)) N ∧ N.length ≤ 256 ∧ mx_sz N ≤ 1000000 := by
  unfold ax_law at h
  split at h
  · next os hos =>
    obtain ⟨o, e1, -, r, N, ⟨m, e2⟩, e3, e4⟩ := ax_run_sound hS hD (ax_orc_sound hO (ax_call_sound hS hD 30)) 5000 _ (0, [(0, .ref P.1)], [], []) os hos hB ⟨rfl, ⟨⟨rfl, rfl⟩, trivial⟩, trivial, rfl, Nat.zero_le _, fun q hq => absurd hq (Nat.not_lt_zero q)⟩
    obtain ⟨hy, hz⟩ := ax_yes_at h o e1
    rw [hy] at e3
    cases r with
    | none => exact e3.elim
    | some v =>
      have e3 : v = .int 1 := e3
      subst e3
      exact ⟨N, m, e2, by rw [← e4.1]; exact e4.2.1, by rw [ax_szs_eq e4]; exact hz⟩
  · cases h
end
section
/-! THE MEMORY BEHIND THE CONSTRUCTORS: what the simulation shows, checked below -/
def as_c1 : List ax_E := [
  .inl (11, [.inl (.ref 1), .inl (.ref 24), .inl (.ref 39), .inl (.ref 48), .inl (.ref 66), .inl (.ref 89), .inl (.ref 100), .inl (.ref 112), .inl (.ref 115), .inl (.ref 122)]),
  .inl (0, [.inl (.int 0), .inl (.ref 2), .inl (.ref 4), .inl (.ref 6), .inl (.ref 8), .inl (.ref 10), .inl (.ref 12), .inl (.ref 14), .inl (.ref 16), .inl (.ref 18), .inl (.ref 20), .inl (.ref 22)]),
  .inl (6, [.inl (.ref 3), .inl (.int 0)]),
  .inr (.inl (0, mx_zero 0 12)),
  .inl (6, [.inl (.ref 5), .inl (.int 0)]),
  .inr (.inl (0, mx_zero 0 12)),
  .inl (6, [.inl (.ref 7), .inl (.int 0)]),
  .inr (.inl (0, mx_zero 0 60)),
  .inl (6, [.inl (.ref 9), .inl (.int 0)]),
  .inr (.inl (0, mx_zero 0 60)),
  .inl (6, [.inl (.ref 11), .inl (.int 0)]),
  .inr (.inl (0, mx_zero 0 60)),
  .inl (6, [.inl (.ref 13), .inl (.int 0)]),
  .inr (.inl (0, mx_zero 0 60)),
  .inl (6, [.inl (.ref 15), .inl (.int 0)]),
  .inr (.inl (0, mx_zero 0 60)),
  .inl (6, [.inl (.ref 17), .inl (.int 0)]),
  .inr (.inl (0, mx_zero 0 120)),
  .inl (6, [.inl (.ref 19), .inl (.int 0)]),
  .inr (.inl (0, mx_zero 0 120)),
  .inl (6, [.inl (.ref 21), .inl (.int 0)]),
  .inr (.inl (0, mx_zero 0 120)),
  .inl (6, [.inl (.ref 23), .inl (.int 0)]),
  .inr (.inl (0, mx_zero 0 60)),
  .inl (10, [.inl (.int 1), .inl (.ref 25), .inl (.ref 27), .inl (.ref 29), .inl (.ref 31), .inl (.ref 33), .inl (.ref 35), .inl (.ref 37)]),
  .inl (6, [.inl (.ref 26), .inl (.int 14)]),
  .inr (.inl (0, ae_lit 960 [3, 1, -257, 100, -43, -258, -44, -261, 2, -62, -260, 5, -62, -267])),
  .inl (6, [.inl (.ref 28), .inl (.int 0)]),
  .inr (.inl (0, ae_lit 24 [0, 1, 2, 7])),
  .inl (6, [.inl (.ref 30), .inl (.int 0)]),
  .inr (.inl (0, ae_lit 24 [1, 2, 7, 14])),
  .inl (6, [.inl (.ref 32), .inl (.int 0)]),
  .inr (.inl (0, mx_zero 0 6)),
  .inl (6, [.inl (.ref 34), .inl (.int 0)]),
  .inr (.inl (0, mx_zero 0 160)),
  .inl (6, [.inl (.ref 36), .inl (.int 0)]),
  .inr (.inl (0, mx_zero 0 20)),
  .inl (6, [.inl (.ref 38), .inl (.int 0)]),
  .inr (.inl (0, mx_zero 0 20)),
  .inl (5, [.inl (.ref 24), .inl (.ref 40), .inl (.ref 42), .inl (.ref 44), .inl (.ref 46), .inl (.int 22)]),
  .inl (6, [.inl (.ref 41), .inl (.int 0)]),
  .inr (.inl (0, ae_lit 160 [119, 105, 110, 32, 51, 32, 59, 32, 100, 114, 97, 119, 32, 49, 32, 59, 32, 108, 105, 107, 101, 32, 103, 111, 97, 108, 115, 32, 42, 32, 49, 48, 48, 32, 43, 32, 109, 97, 100, 101, 32, 59, 32, 98, 97, 110, 32, 107, 105, 110, 100, 32, 61, 32, 50, 32, 111, 114, 32, 99, 97, 114, 100, 115, 32, 61, 32, 53, 32, 59])),
  .inl (6, [.inl (.ref 43), .inl (.int 23)]),
  .inr (.inl (0, ae_lit 161 [262, 2, 59, 263, 2, 59, 264, 256, 42, 2, 43, 257, 59, 265, 260, 61, 2, 266, 259, 61, 2, 59])),
  .inl (6, [.inl (.ref 45), .inl (.int 23)]),
  .inr (.inl (0, ae_lit 161 [0, 4, 6, 8, 13, 15, 17, 22, 28, 30, 34, 36, 41, 43, 47, 52, 54, 56, 59, 65, 67, 69, 70])),
  .inl (6, [.inl (.ref 47), .inl (.int 23)]),
  .inr (.inl (0, ae_lit 161 [0, 3, 0, 0, 1, 0, 0, 0, 0, 100, 0, 0, 0, 0, 0, 0, 2, 0, 0, 0, 5])),
  .inl (9, [.inl (.ref 1), .inl (.ref 24), .inl (.ref 49), .inl (.ref 51), .inl (.ref 53), .inl (.ref 55), .inl (.ref 56), .inl (.ref 58), .inl (.ref 60), .inl (.ref 62), .inl (.ref 64), .inl (.int 0)]),
  .inl (6, [.inl (.ref 50), .inl (.int 0)]),
  .inr (.inl (0, mx_zero 0 30)),
  .inl (6, [.inl (.ref 52), .inl (.int 0)]),
  .inr (.inl (0, mx_zero 0 30)),
  .inl (6, [.inl (.ref 54), .inl (.int 0)]),
  .inr (.inl (0, mx_zero 0 30)),
  .inr (.inl (3, mx_zero 3 12)),
  .inl (6, [.inl (.ref 57), .inl (.int 0)]),
  .inr (.inl (0, mx_zero 0 12)),
  .inl (6, [.inl (.ref 59), .inl (.int 0)]),
  .inr (.inl (0, mx_zero 0 12)),
  .inl (6, [.inl (.ref 61), .inl (.int 0)]),
  .inr (.inl (0, mx_zero 0 12)),
  .inl (6, [.inl (.ref 63), .inl (.int 0)]),
  .inr (.inl (0, mx_zero 0 12)),
  .inl (6, [.inl (.ref 65), .inl (.int 0)]),
  .inr (.inl (0, mx_zero 0 12)),
  .inl (8, [.inl (.ref 1), .inl (.ref 24), .inl (.int 0), .inl (.ref 67), .inl (.ref 69), .inl (.ref 71), .inl (.ref 73), .inl (.ref 75), .inl (.ref 77), .inl (.ref 79), .inl (.ref 81), .inl (.ref 83), .inl (.ref 85), .inl (.ref 87)]),
  .inl (6, [.inl (.ref 68), .inl (.int 0)]),
  .inr (.inl (0, mx_zero 0 40)),
  .inl (6, [.inl (.ref 70), .inl (.int 0)]),
  .inr (.inl (0, mx_zero 0 40)),
  .inl (6, [.inl (.ref 72), .inl (.int 0)]),
  .inr (.inl (0, mx_zero 0 40)),
  .inl (6, [.inl (.ref 74), .inl (.int 0)]),
  .inr (.inl (0, mx_zero 0 40)),
  .inl (6, [.inl (.ref 76), .inl (.int 0)]),
  .inr (.inl (0, mx_zero 0 40)),
  .inl (6, [.inl (.ref 78), .inl (.int 0)]),
  .inr (.inl (0, mx_zero 0 40)),
  .inl (6, [.inl (.ref 80), .inl (.int 0)]),
  .inr (.inl (0, mx_zero 0 60)),
  .inl (6, [.inl (.ref 82), .inl (.int 0)]),
  .inr (.inl (0, mx_zero 0 60)),
  .inl (6, [.inl (.ref 84), .inl (.int 0)]),
  .inr (.inl (0, mx_zero 0 60)),
  .inl (6, [.inl (.ref 86), .inl (.int 0)]),
  .inr (.inl (0, mx_zero 0 60)),
  .inl (6, [.inl (.ref 88), .inl (.int 0)]),
  .inr (.inl (0, mx_zero 0 60)),
  .inl (2, [.inl (.ref 1), .inl (.int 0), .inl (.ref 90), .inl (.ref 92), .inl (.ref 94), .inl (.ref 96), .inl (.ref 98)]),
  .inl (6, [.inl (.ref 91), .inl (.int 0)]),
  .inr (.inl (0, mx_zero 0 12)),
  .inl (6, [.inl (.ref 93), .inl (.int 0)]),
  .inr (.inl (0, mx_zero 0 60)),
  .inl (6, [.inl (.ref 95), .inl (.int 0)]),
  .inr (.inl (0, mx_zero 0 720)),
  .inl (6, [.inl (.ref 97), .inl (.int 0)]),
  .inr (.inl (0, mx_zero 0 720)),
  .inl (6, [.inl (.ref 99), .inl (.int 0)]),
  .inr (.inl (0, mx_zero 0 720)),
  .inl (1, [.inl (.ref 1), .inl (.ref 24), .inl (.ref 48), .inl (.ref 101), .inl (.ref 103), .inl (.ref 105), .inl (.ref 107), .inl (.ref 109), .inl (.ref 111), .inl (.int 0)]),
  .inl (6, [.inl (.ref 102), .inl (.int 0)]),
  .inr (.inl (0, mx_zero 0 60)),
  .inl (6, [.inl (.ref 104), .inl (.int 0)]),
  .inr (.inl (0, mx_zero 0 6)),
  .inl (6, [.inl (.ref 106), .inl (.int 0)]),
  .inr (.inl (0, mx_zero 0 6)),
  .inl (6, [.inl (.ref 108), .inl (.int 0)]),
  .inr (.inl (0, mx_zero 0 6)),
  .inl (6, [.inl (.ref 110), .inl (.int 0)]),
  .inr (.inl (0, mx_zero 0 729)),
  .inr (.inl (3, mx_zero 3 729)),
  .inl (4, [.inl (.ref 1), .inl (.ref 48), .inl (.ref 113)]),
  .inl (6, [.inl (.ref 114), .inl (.int 0)]),
  .inr (.inl (0, mx_zero 0 12)),
  .inl (3, [.inl (.ref 1), .inl (.ref 116), .inl (.ref 118), .inl (.ref 120), .inl (.int 0), .inl (.int 0)]),
  .inl (6, [.inl (.ref 117), .inl (.int 0)]),
  .inr (.inl (0, mx_zero 0 6)),
  .inl (6, [.inl (.ref 119), .inl (.int 0)]),
  .inr (.inl (0, mx_zero 0 6)),
  .inl (6, [.inl (.ref 121), .inl (.int 0)]),
  .inr (.inl (0, mx_zero 0 12)),
  .inl (7, [.inl (.ref 123), .inl (.ref 125), .inl (.ref 127)]),
  .inl (6, [.inl (.ref 124), .inl (.int 0)]),
  .inr (.inl (0, mx_zero 0 4)),
  .inl (6, [.inl (.ref 126), .inl (.int 0)]),
  .inr (.inl (0, mx_zero 0 4)),
  .inl (6, [.inl (.ref 128), .inl (.int 0)]),
  .inr (.inl (0, mx_zero 0 160))]
def as_n2 : List ax_E := [
  .inl (12, [.inl (.int 0), .inl (.int 0), .inl (.int 0), .inl .null, .inl .null, .inl (.int 0), .inl .null, .inl .null, .inl .null, .inl .null, .inl (.int 0), .inl .null, .inl .null, .inl .null, .inl .null, .inl (.int 0), .inl (.int 0), .inl .null, .inl .null, .inl .null, .inl (.int 0), .inl (.int 0), .inl (.int 0), .inl (.int 0), .inl (.int 0), .inl (.int 0), .inl (.int 0), .inl (.int 0), .inl .null, .inl .null, .inl .null, .inl .null, .inl (.int 0), .inl .null, .inl .null, .inl .null, .inl .null, .inl .null, .inl .null, .inl .null, .inl .null, .inl (.int 0), .inl (.int 0), .inl .null, .inl .null, .inl .null, .inl (.int 0), .inl .null, .inl .null, .inl .null, .inl (.int 0), .inl .null, .inl .null, .inl .null, .inl .null, .inl .null, .inl .null, .inl .null, .inl .null, .inl .null, .inl .null, .inl .null, .inl .null, .inl (.int 0), .inl .null, .inl .null, .inl .null, .inl .null, .inl .null, .inl .null, .inl .null, .inl (.int 0), .inl .null, .inl .null, .inl .null, .inl .null, .inl .null, .inl .null])]
def as_c2 : List ax_E := [
  .inl (12, [.inl (.int 0), .inl (.int 0), .inl (.int 0), .inl (.ref 130), .inl (.ref 131), .inl (.int 0), .inl (.ref 132), .inl (.ref 133), .inl (.ref 134), .inl (.ref 135), .inl (.int 0), .inl (.ref 136), .inl (.ref 137), .inl (.ref 138), .inl (.ref 139), .inl (.int 0), .inl (.int 1), .inl (.ref 140), .inl (.ref 141), .inl (.ref 142), .inl (.int 70), .inl (.int 70), .inl (.int 0), .inl (.int 5), .inl (.int (Int32.ofInt (-1))), .inl (.int 0), .inl (.int 14), .inl (.int 0), .inl (.ref 143), .inl (.ref 144), .inl (.ref 145), .inl (.ref 146), .inl (.int 0), .inl (.ref 147), .inl (.ref 148), .inl (.ref 149), .inl (.ref 150), .inl (.ref 151), .inl (.ref 152), .inl (.ref 153), .inl (.ref 154), .inl (.int 0), .inl (.int 0), .inl (.ref 155), .inl (.ref 156), .inl (.ref 157), .inl (.int 0), .inl (.ref 158), .inl (.ref 159), .inl (.ref 160), .inl (.int 0), .inl (.ref 161), .inl (.ref 162), .inl (.ref 163), .inl (.ref 164), .inl (.ref 165), .inl (.ref 166), .inl (.ref 167), .inl (.ref 168), .inl (.ref 169), .inl (.ref 170), .inl (.ref 171), .inl (.ref 172), .inl (.int 0), .inl (.ref 173), .inl (.ref 174), .inl (.ref 175), .inl (.ref 176), .inl (.ref 177), .inl (.ref 178), .inl (.ref 179), .inl (.int 0), .inl (.ref 180), .inl (.ref 181), .inl (.ref 182), .inl (.ref 183), .inl (.ref 184), .inl (.ref 185)]),
  .inr (.inl (0, mx_zero 0 12)),
  .inr (.inl (0, mx_zero 0 12)),
  .inr (.inl (0, mx_zero 0 60)),
  .inr (.inl (0, mx_zero 0 60)),
  .inr (.inl (0, mx_zero 0 60)),
  .inr (.inl (0, mx_zero 0 60)),
  .inr (.inl (0, mx_zero 0 120)),
  .inr (.inl (0, mx_zero 0 120)),
  .inr (.inl (0, mx_zero 0 120)),
  .inr (.inl (1, ae_lit 160 [119, 105, 110, 32, 51, 32, 59, 32, 100, 114, 97, 119, 32, 49, 32, 59, 32, 108, 105, 107, 101, 32, 103, 111, 97, 108, 115, 32, 42, 32, 49, 48, 48, 32, 43, 32, 109, 97, 100, 101, 32, 59, 32, 98, 97, 110, 32, 107, 105, 110, 100, 32, 61, 32, 50, 32, 111, 114, 32, 99, 97, 114, 100, 115, 32, 61, 32, 53, 32, 59])),
  .inr (.inl (0, ae_lit 28 [1, 2, 7, 14])),
  .inr (.inl (0, ae_lit 1190 [1, 1, 2, 1, 42, 2, 43, 2, 1, 61, 2, 1, 61, 6])),
  .inr (.inl (0, ae_lit 1190 [3, 1, 0, 100, 0, 1, 0, 4, 2, 0, 3, 5])),
  .inr (.inl (0, mx_zero 0 20)),
  .inr (.inl (0, mx_zero 0 20)),
  .inr (.inl (0, mx_zero 0 6)),
  .inr (.inl (0, mx_zero 0 170)),
  .inr (.inl (0, mx_zero 0 30)),
  .inr (.inl (0, mx_zero 0 30)),
  .inr (.inl (0, mx_zero 0 30)),
  .inr (.inl (0, mx_zero 0 12)),
  .inr (.inl (0, mx_zero 0 12)),
  .inr (.inl (0, mx_zero 0 12)),
  .inr (.inl (3, mx_zero 3 12)),
  .inr (.inl (3, mx_zero 3 12)),
  .inr (.inl (0, mx_zero 0 40)),
  .inr (.inl (0, mx_zero 0 40)),
  .inr (.inl (0, mx_zero 0 40)),
  .inr (.inl (0, mx_zero 0 40)),
  .inr (.inl (0, mx_zero 0 40)),
  .inr (.inl (0, mx_zero 0 40)),
  .inr (.inl (0, mx_zero 0 60)),
  .inr (.inl (0, mx_zero 0 60)),
  .inr (.inl (0, mx_zero 0 200)),
  .inr (.inl (0, mx_zero 0 40)),
  .inr (.inl (2, mx_zero 2 60)),
  .inr (.inl (2, mx_zero 2 12)),
  .inr (.inl (2, mx_zero 2 720)),
  .inr (.inl (0, mx_zero 0 720)),
  .inr (.inl (0, mx_zero 0 720)),
  .inr (.inl (0, mx_zero 0 720)),
  .inr (.inl (0, mx_zero 0 720)),
  .inr (.inl (0, mx_zero 0 60)),
  .inr (.inl (0, mx_zero 0 60)),
  .inr (.inl (0, mx_zero 0 729)),
  .inr (.inl (3, mx_zero 3 729)),
  .inr (.inl (3, mx_zero 3 12)),
  .inr (.inl (0, mx_zero 0 12)),
  .inr (.inl (0, mx_zero 0 12)),
  .inr (.inl (0, mx_zero 0 12)),
  .inr (.inl (0, mx_zero 0 6)),
  .inr (.inl (0, mx_zero 0 6)),
  .inr (.inl (0, ae_lit 4 [-1, -1, -1, -1])),
  .inr (.inl (0, mx_zero 0 4)),
  .inr (.inl (0, mx_zero 0 160)),
  .inr (.inl (0, mx_zero 0 40))]
def as_n1 : List ax_E := [
  .inl (11, [.inl .null, .inl .null, .inl .null, .inl .null, .inl .null, .inl .null, .inl .null, .inl .null, .inl .null, .inl .null])]

def at_P : ax_P := (1300, 0, 6)
def at_DT : ax_T := [(12, 0, 63), (14, 1, 100), (15, 1, 100)]
def at_I : Int × Int := (-2147483648, 2147483647)
def at_B (lo hi : Int) : ax_B := [at_I, at_I, at_I, at_I, at_I, at_I, (0, 6), (lo, hi), at_I, at_I]
def as_M0 : ax_M := ax_bld (0, ax_te 8) as_n1
def as_M1 : ax_M := ax_bld (0, ax_te 8) as_c1
def as_M2 : ax_M := ax_bld as_M1 as_n2
def as_M3 : ax_M := ax_bld as_M1 as_c2
def at_O1 : Nat × List ax_V × ax_M × ax_M := (118, [.inl (.ref 0)], as_M0, as_M1)
def at_O2 : Nat × List ax_V × ax_M × ax_M := (181, [.inl (.ref 129)], as_M2, as_M3)
def at_O : ax_Or := [at_O1, at_O2]
end
section
/-! THE CONSTRUCTORS END AS THE LITERALS SAY -/
set_option maxRecDepth 100000 in
theorem at_c1 : ax_chk at_P at_O1 = true := by decide +kernel
set_option maxRecDepth 100000 in
theorem at_c2 : ax_chk at_P at_O2 = true := by decide +kernel
end
section
/-! THE LAW, BY THE FIRST NUMBER -/
set_option maxRecDepth 100000 in
theorem at_l0 : ax_law at_P at_DT at_O (at_B 0 0) = true := by decide +kernel
set_option maxRecDepth 100000 in
theorem at_l1 : ax_law at_P at_DT at_O (at_B 1 1) = true := by decide +kernel
set_option maxRecDepth 100000 in
theorem at_l2 : ax_law at_P at_DT at_O (at_B 2 2) = true := by decide +kernel
set_option maxRecDepth 100000 in
theorem at_l3 : ax_law at_P at_DT at_O (at_B 3 3) = true := by decide +kernel
set_option maxRecDepth 100000 in
theorem at_l4 : ax_law at_P at_DT at_O (at_B 4 4) = true := by decide +kernel
set_option maxRecDepth 100000 in
theorem at_l5 : ax_law at_P at_DT at_O (at_B 5 5) = true := by decide +kernel
set_option maxRecDepth 100000 in
theorem at_l6 : ax_law at_P at_DT at_O (at_B 6 6) = true := by decide +kernel
set_option maxRecDepth 100000 in
theorem at_l7 : ax_law at_P at_DT at_O (at_B 7 7) = true := by decide +kernel
set_option maxRecDepth 100000 in
theorem at_l8 : ax_law at_P at_DT at_O (at_B 8 8) = true := by decide +kernel
set_option maxRecDepth 100000 in
theorem at_l9 : ax_law at_P at_DT at_O (at_B 9 9) = true := by decide +kernel
end
section
set_option maxRecDepth 100000 in
theorem at_l10 : ax_law at_P at_DT at_O (at_B 10 10) = true := by decide +kernel
set_option maxRecDepth 100000 in
theorem at_l11 : ax_law at_P at_DT at_O (at_B 11 11) = true := by decide +kernel
set_option maxRecDepth 100000 in
theorem at_l12 : ax_law at_P at_DT at_O (at_B 12 12) = true := by decide +kernel
set_option maxRecDepth 100000 in
theorem at_l13 : ax_law at_P at_DT at_O (at_B 13 13) = true := by decide +kernel
set_option maxRecDepth 100000 in
theorem at_l14 : ax_law at_P at_DT at_O (at_B 14 14) = true := by decide +kernel
set_option maxRecDepth 100000 in
theorem at_l15 : ax_law at_P at_DT at_O (at_B 15 15) = true := by decide +kernel
set_option maxRecDepth 100000 in
theorem at_l16 : ax_law at_P at_DT at_O (at_B 16 16) = true := by decide +kernel
set_option maxRecDepth 100000 in
theorem at_l17 : ax_law at_P at_DT at_O (at_B 17 17) = true := by decide +kernel
set_option maxRecDepth 100000 in
theorem at_l18 : ax_law at_P at_DT at_O (at_B 18 18) = true := by decide +kernel
set_option maxRecDepth 100000 in
theorem at_l19 : ax_law at_P at_DT at_O (at_B 19 19) = true := by decide +kernel
end
section
set_option maxRecDepth 100000 in
theorem at_l20 : ax_law at_P at_DT at_O (at_B 20 20) = true := by decide +kernel
set_option maxRecDepth 100000 in
theorem at_l21 : ax_law at_P at_DT at_O (at_B 21 21) = true := by decide +kernel
set_option maxRecDepth 100000 in
theorem at_l22 : ax_law at_P at_DT at_O (at_B 22 22) = true := by decide +kernel
set_option maxRecDepth 100000 in
theorem at_l23 : ax_law at_P at_DT at_O (at_B 23 23) = true := by decide +kernel
set_option maxRecDepth 100000 in
theorem at_l24 : ax_law at_P at_DT at_O (at_B 24 24) = true := by decide +kernel
set_option maxRecDepth 100000 in
theorem at_l25 : ax_law at_P at_DT at_O (at_B 25 25) = true := by decide +kernel
set_option maxRecDepth 100000 in
theorem at_l26 : ax_law at_P at_DT at_O (at_B 26 26) = true := by decide +kernel
set_option maxRecDepth 100000 in
theorem at_l27 : ax_law at_P at_DT at_O (at_B 27 27) = true := by decide +kernel
set_option maxRecDepth 100000 in
theorem at_l28 : ax_law at_P at_DT at_O (at_B 28 28) = true := by decide +kernel
set_option maxRecDepth 100000 in
theorem at_l29 : ax_law at_P at_DT at_O (at_B 29 29) = true := by decide +kernel
end
section
set_option maxRecDepth 100000 in
theorem at_l30 : ax_law at_P at_DT at_O (at_B 30 30) = true := by decide +kernel
set_option maxRecDepth 100000 in
theorem at_l31 : ax_law at_P at_DT at_O (at_B 31 31) = true := by decide +kernel
set_option maxRecDepth 100000 in
theorem at_l32 : ax_law at_P at_DT at_O (at_B 32 32) = true := by decide +kernel
set_option maxRecDepth 100000 in
theorem at_l33 : ax_law at_P at_DT at_O (at_B 33 33) = true := by decide +kernel
set_option maxRecDepth 100000 in
theorem at_l34 : ax_law at_P at_DT at_O (at_B 34 34) = true := by decide +kernel
set_option maxRecDepth 100000 in
theorem at_l35 : ax_law at_P at_DT at_O (at_B 35 35) = true := by decide +kernel
set_option maxRecDepth 100000 in
theorem at_l36 : ax_law at_P at_DT at_O (at_B 36 36) = true := by decide +kernel
set_option maxRecDepth 100000 in
theorem at_l37 : ax_law at_P at_DT at_O (at_B 37 37) = true := by decide +kernel
set_option maxRecDepth 100000 in
theorem at_l38 : ax_law at_P at_DT at_O (at_B 38 38) = true := by decide +kernel
set_option maxRecDepth 100000 in
theorem at_l39 : ax_law at_P at_DT at_O (at_B 39 39) = true := by decide +kernel
set_option maxRecDepth 100000 in
theorem at_l40 : ax_law at_P at_DT at_O (at_B 40 63) = true := by decide +kernel
end
section
/-! THE LAW'S START: what the claim's premises give of all that nobody writes -/
def we_F : List Cond := flatC (Jvm.Cond.and given_1 narrow_1)
def we_ty (t : Nat) (x : Int) : Term := bif Nat.beq t 3 then .long (Int64.ofInt x) else .int (Int32.ofInt x)
def we_arr (t : Nat) (l : List Int) : vp_A := (l.length, bif Nat.beq t 3 then .inr (.inl fun i => Int64.ofInt (l.getD i 0)) else .inl fun i => Int32.ofInt (l.getD i 0))
def we_seg (tm : Term) (t : Nat) (l : List Int) : List Cond := .arrayOf tm (mx_ty t) :: .eq (.length tm) (.int (Int32.ofNat l.length)) :: (List.range l.length).map fun j => .eq (.elem tm (.int (Int32.ofNat j))) (we_ty t (l.getD j 0))
def we_at (F seg : List Cond) : Bool := match seg with
  | [] => true
  | h :: _ => decide ((F.dropWhile fun w => !(decide (w = h))).take seg.length = seg)
theorem we_at_mem {F seg : List Cond} (h : we_at F seg = true) : ∀ w ∈ seg, w ∈ F := by
  intro w hw
  cases seg with
  | nil => cases hw
  | cons a l =>
    have h2 : (F.dropWhile fun w => !(decide (w = a))).take (a :: l).length = a :: l := of_decide_eq_true h
    rw [← h2] at hw
    exact (List.dropWhile_sublist _).subset (List.mem_of_mem_take hw)
theorem we_T {args : Array Value} {s : State} {A : Nat → Prop} {tm : Term} {t : Nat} {l : List Int} (hl : l.length < 2 ^ 31) (h : ∀ w ∈ we_seg tm t l, w.before args s = true) (hA : ∀ a : Nat, a < s.heap.size → ¬ A a) : ∃ a : Nat, tm.eval args s none [] s = some (.ref a) ∧ va_T (mx_ty t) a l.length (mx_con (we_arr t l)) A s s.heap := by
  refine va_Tof hl (h _ List.mem_cons_self) (va_eqt (h _ (List.mem_cons_of_mem _ List.mem_cons_self))) (fun j hj => ?_) hA
  have h2 := h (.eq (.elem tm (.int (Int32.ofNat j))) (we_ty t (l.getD j 0))) (List.mem_cons_of_mem _ (List.mem_cons_of_mem _ (List.mem_map.mpr ⟨j, List.mem_range.mpr hj, rfl⟩)))
  unfold we_ty at h2
  unfold mx_con we_arr
  cases ht : Nat.beq t 3 with
  | true =>
    rw [ht] at h2
    exact va_eqtl h2
  | false =>
    rw [ht] at h2
    exact va_eqt h2
def we_tm (j : Nat) : Term := bif Nat.ble 200 j then (match mx_SR[j - 200]? with
    | some q => .field (.string q.1 q.2.1) "java/lang/String" "value" "[B"
    | none => .int 0)
  else match mx_SF[5 + j]? with
    | some q => .static q.1 q.2.1 q.2.2.1
    | none => .int 0
def we_okT (e : Nat × Nat × List Int) : Bool := (Nat.blt e.1 50 || (Nat.blt 199 e.1 && Nat.blt e.1 300)) && (Nat.blt e.2.1 4 && (Nat.blt e.2.2.length 1000 && we_at we_F (we_seg (we_tm e.1) e.2.1 e.2.2)))
def we_okF (q : mx_F) : Bool := decide (Cond.laysStatic q.1 q.2.1 q.2.2.1 ∈ lw_tbl) && (decide (Cond.initialized q.1 ∈ lw_tbl) && (match q.2.2.2 with
  | .int z => decide (Cond.eq (.static q.1 q.2.1 q.2.2.1) (.int z) ∈ we_F)
  | .ref r => Nat.ble 1000 r && (Nat.blt r 1050 && (decide (we_tm (r - 1000) = .static q.1 q.2.1 q.2.2.1) && mx_SAL.any fun e => Nat.beq e.1 (r - 1000)))
  | .retAddr _ => decide (q.1 = "jdk/internal/util/Preconditions" ∧ q.2.1 = "SIOOBE_FORMATTER" ∧ q.2.2.1 = "Ljava/util/function/BiFunction;")
  | _ => false))
def we_okR (q : String × Nat × String) : Bool := decide (Cond.exactly (.string q.1 q.2.1) "java/lang/String" ∈ we_F) && (decide (Cond.eq (.field (.string q.1 q.2.1) "java/lang/String" "coder" "B") (.int 0) ∈ we_F) && decide (Cond.stringRef q.1 q.2.1 q.2.2 ∈ lw_tbl))
set_option maxRecDepth 100000 in
theorem we_allT : mx_SAL.all we_okT = true := by decide +kernel
set_option maxRecDepth 100000 in
theorem we_allF : mx_SF.all we_okF = true := by decide +kernel
set_option maxRecDepth 100000 in
theorem we_allR : mx_SR.all we_okR = true := by decide +kernel
theorem we_has : (List.range mx_SR.length).all (fun i => mx_SAL.any fun e => Nat.beq e.1 (200 + i)) = true := by decide +kernel
set_option maxRecDepth 100000 in
theorem we_fm : Cond.laysStatic "jdk/internal/util/Preconditions" "SIOOBE_FORMATTER" "Ljava/util/function/BiFunction;" ∈ lw_tbl ∧ Cond.initialized "jdk/internal/util/Preconditions" ∈ lw_tbl ∧ Cond.isRef (.static "jdk/internal/util/Preconditions" "SIOOBE_FORMATTER" "Ljava/util/function/BiFunction;") ∈ we_F := by decide +kernel
def we_fv (f : Nat) : Value := match f with
  | 0 => .null
  | n + 1 => .ref n
/-- the script and the arrays -/
def we_SA (L : Nat) (xs : Nat → Int32) (j : Nat) : Option (Nat × vp_A) := if j = 300 then some (0, (L, .inl xs)) else mx_SAx j
theorem mx_SAx_inv {j t : Nat} {x : vp_A} (h : mx_SAx j = some (t, x)) : ∃ l, (j, t, l) ∈ mx_SAL ∧ x = we_arr t l := by
  unfold mx_SAx at h
  split at h
  · next a t' l hf =>
    cases h
    have h1 := List.mem_of_find?_eq_some hf
    have h2 := List.find?_some hf
    have h2 : Nat.beq a j = true := h2
    have h2 := Nat.eq_of_beq_eq_true h2
    subst h2
    exact ⟨l, h1, rfl⟩
  · cases h
set_option maxRecDepth 100000 in
theorem we_inst : Cond.instantiable RX0 12 ∈ lw_tbl ∧ Cond.instantiable RX1 10 ∈ lw_tbl ∧ Cond.instantiable RX2 7 ∈ lw_tbl ∧ Cond.instantiable RX3 6 ∈ lw_tbl ∧ Cond.instantiable RX4 3 ∈ lw_tbl ∧ Cond.instantiable RX5 6 ∈ lw_tbl ∧ Cond.instantiable RX6 2 ∈ lw_tbl ∧ Cond.instantiable RX7 3 ∈ lw_tbl ∧ Cond.instantiable RX8 14 ∈ lw_tbl ∧ Cond.instantiable RX9 12 ∈ lw_tbl ∧ Cond.instantiable RX10 8 ∈ lw_tbl ∧ Cond.instantiable RX11 10 ∈ lw_tbl ∧ Cond.instantiable RX12 78 ∈ lw_tbl := by decide +kernel
set_option maxRecDepth 100000 in
theorem we_ac : Cond.arrayClass .int ∈ lw_tbl ∧ Cond.arrayClass .byte ∈ lw_tbl ∧ Cond.arrayClass .boolean ∈ lw_tbl ∧ Cond.arrayClass .long ∈ lw_tbl := by decide +kernel
theorem we_cls {args : Array Value} {s : State} (hts : ∀ w ∈ lw_tbl, w.before args s = true) : ∀ q ∈ vwCl, ∃ (cC : ClassId) (iS : Nat → Nat), u_Kn s q.1 q.2.1 q.2.2 cC iS := by
  have g : ∀ w ∈ mx_GT, w ∈ lw_tbl := fun w hw => (List.mem_filter.mp hw).1
  obtain ⟨h0, h1, h2, h3, h4, h5, h6, h7, h8, h9, h10, h11, h12⟩ := we_inst
  refine List.forall_mem_cons.mpr ⟨u_known hts (fun w hw => g w (mx_w0 w hw)) (hts _ h0), List.forall_mem_cons.mpr ⟨u_known hts (fun w hw => g w (mx_w1 w hw)) (hts _ h1), List.forall_mem_cons.mpr ⟨u_known hts (fun w hw => g w (mx_w2 w hw)) (hts _ h2), List.forall_mem_cons.mpr ⟨u_known hts (fun w hw => g w (mx_w3 w hw)) (hts _ h3), List.forall_mem_cons.mpr ⟨u_known hts (fun w hw => g w (mx_w4 w hw)) (hts _ h4), List.forall_mem_cons.mpr ⟨u_known hts (fun w hw => g w (mx_w5 w hw)) (hts _ h5), List.forall_mem_cons.mpr ⟨u_known hts (fun w hw => g w (mx_w6 w hw)) (hts _ h6), List.forall_mem_cons.mpr ⟨u_known hts (fun w hw => g w (mx_w7 w hw)) (hts _ h7), List.forall_mem_cons.mpr ⟨u_known hts (fun w hw => g w (mx_w8 w hw)) (hts _ h8), List.forall_mem_cons.mpr ⟨u_known hts (fun w hw => g w (mx_w9 w hw)) (hts _ h9), List.forall_mem_cons.mpr ⟨u_known hts (fun w hw => g w (mx_w10 w hw)) (hts _ h10), List.forall_mem_cons.mpr ⟨u_known hts (fun w hw => g w (mx_w11 w hw)) (hts _ h11), List.forall_mem_cons.mpr ⟨u_known hts (fun w hw => g w (mx_w12 w hw)) (hts _ h12), fun q hq => absurd hq List.not_mem_nil⟩⟩⟩⟩⟩⟩⟩⟩⟩⟩⟩⟩⟩
theorem we_acls {args : Array Value} {s : State} {ty : FieldType} (hw : (Cond.arrayClass ty).before args s = true) : ∃ c : ClassId, ArrOfT s c ty ∧ s.vm.findClass ("[" ++ ty.toString) = some c := by
  obtain ⟨c, k, comp, h1, h2, h3⟩ := Cond.arrayClass_spec hw
  exact ⟨c, fun n z => ⟨fun k h => (by cases h), k, h2, comp, h3⟩, h1⟩
theorem we_K {args : Array Value} {s : State} (hts : ∀ w ∈ lw_tbl, w.before args s = true) : ∃ (D : va_G) (ac : Nat → ClassId), ∀ (b : Nat) (st : Nat → Nat), va_K D vwCl (mx_tys (b, st, ac, D)) s := by
  have h0 : ∀ c : Nat, ∃ z : ClassId × (Nat → Nat), ∀ q, vwCl[c]? = some q → u_Kn s q.1 q.2.1 q.2.2 z.1 z.2 := by
    intro c
    cases hq : vwCl[c]? with
    | none => exact ⟨(0, fun _ => 0), fun q h => by cases h⟩
    | some q =>
      obtain ⟨cC, iS, h⟩ := we_cls hts q (List.mem_of_getElem? hq)
      exact ⟨(cC, iS), fun q' h' => by cases h'; exact h⟩
  obtain ⟨z, hz⟩ := Classical.axiomOfChoice h0
  obtain ⟨a0, a1, a2, a3⟩ := we_ac
  obtain ⟨c0, b0, d0⟩ := we_acls (hts _ a0)
  obtain ⟨c1, b1, d1⟩ := we_acls (hts _ a1)
  obtain ⟨c2, b2, d2⟩ := we_acls (hts _ a2)
  obtain ⟨c3, b3, d3⟩ := we_acls (hts _ a3)
  refine ⟨(fun c => (z c).1, fun c => (z c).2), fun t => match t with
    | 0 => c0
    | 1 => c1
    | 2 => c2
    | _ => c3, fun b st => ⟨fun c q hq => hz c q hq, fun k q hk => ?_⟩⟩
  match k, hk with
  | 0, hk => cases hk; exact ⟨b0, d0⟩
  | 1, hk => cases hk; exact ⟨b1, d1⟩
  | 2, hk => cases hk; exact ⟨b2, d2⟩
  | 3, hk => cases hk; exact ⟨b3, d3⟩
  | k + 4, hk => cases hk
theorem we_r {r : Nat} (h1 : 1000 ≤ r) (h2 : r < 1050) : r = 1000 + (r - 1000) ∧ r - 1000 < 50 := by omega
theorem we_env {args : Array Value} {s : State} {b L : Nat} {xs : Nat → Int32} (hts : ∀ w ∈ lw_tbl, w.before args s = true) (hX : va_X b L xs s s.heap) (hbl : b < s.heap.size) (hgv : (Jvm.Cond.and given_1 narrow_1).before args s = true) : ∃ (st : Nat → Nat) (ac : Nat → ClassId) (D : va_G), mx_Env (s.heap.size, st, ac, D) (we_SA L xs) mx_SF mx_SR s s.heap ∧ st 300 = b := by
  have hF : ∀ w ∈ we_F, w.before args s = true := flat_of_before _ hgv
  obtain ⟨D, ac, hK⟩ := we_K hts
  obtain ⟨A, hAe⟩ : ∃ A : Nat → Prop, A = fun q => s.heap.size ≤ q := ⟨_, rfl⟩
  have hA : ∀ a : Nat, a < s.heap.size → ¬ A a := fun a ha => by rw [hAe]; exact Nat.not_le.mpr ha
  have hT : ∀ e ∈ mx_SAL, ∃ a : Nat, (we_tm e.1).eval args s none [] s = some (.ref a) ∧ va_T (mx_ty e.2.1) a e.2.2.length (mx_con (we_arr e.2.1 e.2.2)) A s s.heap := by
    intro e he
    have h := List.all_eq_true.mp we_allT e he
    unfold we_okT at h
    simp only [Bool.and_eq_true] at h
    have h3 : e.2.2.length < 1000 := Nat.le_of_ble_eq_true h.2.2.1
    exact we_T (Nat.lt_trans h3 (by decide)) (fun w hw => hF w (we_at_mem h.2.2.2 w hw)) hA
  have h0 : ∀ j : Nat, ∃ a : Nat, ∀ e ∈ mx_SAL, e.1 = j → (we_tm j).eval args s none [] s = some (.ref a) ∧ va_T (mx_ty e.2.1) a e.2.2.length (mx_con (we_arr e.2.1 e.2.2)) A s s.heap := by
    intro j
    by_cases hj : ∃ e ∈ mx_SAL, e.1 = j
    · obtain ⟨e, he, rfl⟩ := hj
      obtain ⟨a, h1, -⟩ := hT e he
      refine ⟨a, fun e' he' e2 => ?_⟩
      obtain ⟨a', h3, h4⟩ := hT e' he'
      rw [e2, h1] at h3
      cases h3
      exact ⟨h1, h4⟩
    · exact ⟨0, fun e he e2 => absurd ⟨e, he, e2⟩ hj⟩
  obtain ⟨aT, haT⟩ := Classical.axiomOfChoice h0
  have h1 : ∀ i : Nat, ∃ a : Nat, ∀ q, mx_SR[i]? = some q → (Term.string q.1 q.2.1).eval args s none [] s = some (.ref a) ∧ va_O "java/lang/String" a A s s.heap := by
    intro i
    cases hq : mx_SR[i]? with
    | none => exact ⟨0, fun q h => by cases h⟩
    | some q =>
      have h := List.all_eq_true.mp we_allR q (List.mem_of_getElem? hq)
      unfold we_okR at h
      simp only [Bool.and_eq_true, decide_eq_true_eq] at h
      have hex := hF _ h.1
      obtain ⟨a, c, cA, kA, q1, q2, q3, q4, q5, q6, -⟩ := Cond.exactly_spec (args := args) (first := s) (o := none) (s := s) (idx := []) (t := .string q.1 q.2.1) (cls := "java/lang/String") hex
      exact ⟨a, fun q' h' => by cases h'; exact ⟨q1, va_Oof hex q1 hA⟩⟩
  obtain ⟨aS, haS⟩ := Classical.axiomOfChoice h1
  have hfm : ∃ f : Nat, va_Z "jdk/internal/util/Preconditions" "SIOOBE_FORMATTER" "Ljava/util/function/BiFunction;" (we_fv f) A s s.heap := by
    obtain ⟨f1, f2, f3⟩ := we_fm
    rcases va_Zqof (hts _ f1) (hts _ f2) (hF _ f3) hA with h | ⟨t, h⟩
    · exact ⟨0, h⟩
    · exact ⟨t + 1, h⟩
  obtain ⟨f, hf⟩ := hfm
  obtain ⟨st, hst⟩ : ∃ st : Nat → Nat, st = fun j => if j = 300 then b else if j = 50 then f else if 100 ≤ j ∧ j < 200 then aS (j - 100) else aT j := ⟨_, rfl⟩
  have s300 : st 300 = b := by rw [hst]; rfl
  have s50 : st 50 = f := by rw [hst]; rfl
  have sS : ∀ i, i < 100 → st (100 + i) = aS i := fun i hi => by
    rw [hst]
    show (if 100 + i = 300 then b else if 100 + i = 50 then f else if 100 ≤ 100 + i ∧ 100 + i < 200 then aS (100 + i - 100) else aT (100 + i)) = aS i
    rw [if_neg (by omega), if_neg (by omega), if_pos (by omega), Nat.add_sub_cancel_left]
  have sT : ∀ j, (j < 50 ∨ 199 < j ∧ j < 300) → st j = aT j := fun j hj => by
    rw [hst]
    show (if j = 300 then b else if j = 50 then f else if 100 ≤ j ∧ j < 200 then aS (j - 100) else aT j) = aT j
    rw [if_neg (by omega), if_neg (by omega), if_neg (by omega)]
  have okT : ∀ e ∈ mx_SAL, (e.1 < 50 ∨ 199 < e.1 ∧ e.1 < 300) ∧ e.2.1 < 4 := by
    intro e he
    have h := List.all_eq_true.mp we_allT e he
    unfold we_okT at h
    simp only [Bool.and_eq_true, Bool.or_eq_true] at h
    refine ⟨?_, Nat.le_of_ble_eq_true h.2.1⟩
    rcases h.1 with z | z
    · exact Or.inl (Nat.le_of_ble_eq_true z)
    · exact Or.inr ⟨Nat.le_of_ble_eq_true z.1, Nat.le_of_ble_eq_true z.2⟩
  have eA : mx_A (s.heap.size, st, ac, D) = A := hAe.symm
  refine ⟨st, ac, D, ⟨hK _ _, fun w hw => ?_, fun j t x hx => ?_, fun q hq => ?_, fun i q hq => ?_⟩, s300⟩
  · obtain ⟨hw1, hw2⟩ := List.mem_filter.mp hw
    have hb := hts w hw1
    cases w <;> first
      | exact va_Nw.of rfl hb
      | cases hw2
  · rw [eA]
    unfold we_SA at hx
    split at hx
    · next e =>
      cases hx
      subst e
      refine ⟨by decide, ?_⟩
      show va_T .int (st 300) L (mx_con (L, .inl xs)) A s s.heap
      rw [s300]
      obtain ⟨scr, x1, x2, x3, x4, x5⟩ := hX
      exact ⟨scr, x1, x2, x3, by rw [x4]; exact Nat.le_refl _, by rw [x4], x5, hA b hbl⟩
    · obtain ⟨l, hl, rfl⟩ := mx_SAx_inv hx
      obtain ⟨k1, k2⟩ := okT _ hl
      refine ⟨k2, ?_⟩
      show va_T (mx_ty t) (st j) l.length (mx_con (we_arr t l)) A s s.heap
      rw [sT j k1]
      exact (haT j _ hl rfl).2
  · rw [eA]
    have h := List.all_eq_true.mp we_allF q hq
    unfold we_okF at h
    rw [Bool.and_eq_true, Bool.and_eq_true, decide_eq_true_eq, decide_eq_true_eq] at h
    obtain ⟨l1, l2, l3⟩ := h
    split at l3
    · next z hz =>
      rw [hz]
      exact va_Zof (hts _ l1) (hts _ l2) (va_eqi (hF _ (of_decide_eq_true l3))) hA
    · next r hr =>
      rw [hr]
      simp only [Bool.and_eq_true, decide_eq_true_eq] at l3
      obtain ⟨r1, r2, r3, r4⟩ := l3
      have r1 : 1000 ≤ r := Nat.le_of_ble_eq_true r1
      have r2 : r < 1050 := Nat.le_of_ble_eq_true r2
      obtain ⟨e, he, e2⟩ := List.any_eq_true.mp r4
      have e2 := Nat.eq_of_beq_eq_true e2
      have hv := (haT (r - 1000) e he e2).1
      rw [r3] at hv
      have e3 : mx_ad (s.heap.size, st, ac, D) r = aT (r - 1000) := by
        have e4 : r = 1000 + (r - 1000) := (we_r r1 r2).1
        rw [e4, mx_ad_ge, ← e4]
        exact sT _ (Or.inl (we_r r1 r2).2)
      show va_Z q.1 q.2.1 q.2.2.1 (.ref (mx_ad (s.heap.size, st, ac, D) r)) A s s.heap
      rw [e3]
      exact va_Zref (hts _ l1) (hts _ l2) hv hA
    · next z hz =>
      rw [hz]
      obtain ⟨n1, n2, n3⟩ := of_decide_eq_true l3
      have e5 : mx_fv (s.heap.size, st, ac, D) = we_fv f := by
        show (match st 50 with
          | 0 => Value.null
          | n + 1 => .ref n) = we_fv f
        rw [s50]
        rfl
      show va_Z q.1 q.2.1 q.2.2.1 (mx_fv (s.heap.size, st, ac, D)) A s s.heap
      rw [e5, n1, n2, n3]
      exact hf
    · cases l3
  · rw [eA]
    have hi : i < mx_SR.length := (List.getElem?_eq_some_iff.mp hq).1
    have hi2 : i < 100 := Nat.lt_of_lt_of_le hi (by decide)
    have h := List.all_eq_true.mp we_allR q (List.mem_of_getElem? hq)
    unfold we_okR at h
    simp only [Bool.and_eq_true, decide_eq_true_eq] at h
    obtain ⟨k1, k2, k3⟩ := h
    obtain ⟨v1, v2⟩ := haS i q hq
    have hany := List.all_eq_true.mp we_has i (List.mem_range.mpr hi)
    obtain ⟨e, he, e2⟩ := List.any_eq_true.mp hany
    have e2 := Nat.eq_of_beq_eq_true e2
    have hv := (haT (200 + i) e he e2).1
    have etm : we_tm (200 + i) = .field (.string q.1 q.2.1) "java/lang/String" "value" "[B" := by
      unfold we_tm
      rw [Nat.ble_eq_true_of_le (Nat.le_add_right 200 i), Nat.add_sub_cancel_left, hq]
      rfl
    rw [etm] at hv
    show vk_R q.1 q.2.1 q.2.2 (st (100 + i)) s ∧ va_O "java/lang/String" (st (100 + i)) A s s.heap ∧ va_OF "java/lang/String" "coder" "B" (.int 0) (st (100 + i)) A s s.heap ∧ va_OF "java/lang/String" "value" "[B" (.ref (st (200 + i))) (st (100 + i)) A s s.heap
    rw [sS i hi2, sT (200 + i) (Or.inr ⟨by omega, by omega⟩)]
    exact ⟨vk_R.of (hts _ k3) v1, v2, vk_OFof v1 (va_eqt (hF _ k2)) hA, vk_OFof v1 hv hA⟩
end
section
/-! EVERY SCRIPT -/
def at_x (L : Nat) (xs : Nat → Int32) (j : Nat) : Int32 := if j < L then xs j else 0
def at_s (L : Nat) (xs : Nat → Int32) (j : Nat) : Int := match j with
  | 6 => L
  | 7 => (at_x L xs 0 &&& 63).toInt
  | 8 => (at_x L xs 1 / 100).toInt
  | 9 => (at_x L xs 1 - at_x L xs 1 / 100 * 100).toInt
  | j => (at_x L xs j).toInt
theorem at_and (x : Int32) : 0 ≤ (x &&& 63).toInt ∧ (x &&& 63).toInt ≤ 63 := by
  have h : (x &&& 63).toBitVec.toNat ≤ 63 := by
    rw [Int32.toBitVec_and, BitVec.toNat_and]
    exact Nat.and_le_right
  have e : (x &&& 63).toInt = ((x &&& 63).toBitVec.toNat : Int) := BitVec.toInt_eq_toNat_of_lt (by omega)
  omega
theorem at_rng (x : Int32) : -2147483648 ≤ x.toInt ∧ x.toInt ≤ 2147483647 := by
  have h1 := Int32.le_toInt x
  have h2 := Int32.toInt_lt x
  omega
theorem at_hB {L : Nat} {xs : Nat → Int32} {lo hi : Int} (hL : L ≤ 6) (h1 : lo ≤ at_s L xs 7) (h2 : at_s L xs 7 ≤ hi) : ac_B (at_s L xs) (at_B lo hi) := by
  intro j p h
  match j, h with
  | 0, h => cases h; exact at_rng _
  | 1, h => cases h; exact at_rng _
  | 2, h => cases h; exact at_rng _
  | 3, h => cases h; exact at_rng _
  | 4, h => cases h; exact at_rng _
  | 5, h => cases h; exact at_rng _
  | 6, h =>
    cases h
    show (0 : Int) ≤ (L : Int) ∧ (L : Int) ≤ 6
    omega
  | 7, h => cases h; exact ⟨h1, h2⟩
  | 8, h => cases h; exact at_rng _
  | 9, h => cases h; exact at_rng _
  | j + 10, h => cases h
theorem at_hD {L : Nat} {xs : Nat → Int32} : ac_D (at_s L xs) at_DT 7 := by
  have inj : ∀ {a b : Int32}, a.toInt = b.toInt → a = b := fun h => Int32.toInt_inj.mp h
  intro o s t y h a ha
  unfold at_DT ax_der at h
  cases h1 : (Nat.beq 12 o && (Nat.beq 0 s && (63 : Int32) == y)) with
  | true =>
    rw [h1] at h
    cases h
    simp only [Bool.and_eq_true] at h1
    obtain ⟨e1, e2, e3⟩ := h1
    have e1 := Nat.eq_of_beq_eq_true e1
    have e2 := Nat.eq_of_beq_eq_true e2
    have e3 := eq_of_beq e3
    subst e1
    subst e2
    subst e3
    have ha : a = at_x L xs 0 := inj ha
    subst ha
    rfl
  | false =>
    rw [h1] at h
    simp only [cond_false] at h
    unfold ax_der at h
    cases h2 : (Nat.beq 14 o && (Nat.beq 1 s && (100 : Int32) == y)) with
    | true =>
      rw [h2] at h
      cases h
      simp only [Bool.and_eq_true] at h2
      obtain ⟨e1, e2, e3⟩ := h2
      have e1 := Nat.eq_of_beq_eq_true e1
      have e2 := Nat.eq_of_beq_eq_true e2
      have e3 := eq_of_beq e3
      subst e1
      subst e2
      subst e3
      have ha : a = at_x L xs 1 := inj ha
      subst ha
      rfl
    | false =>
      rw [h2] at h
      simp only [cond_false] at h
      unfold ax_der at h
      cases h3 : (Nat.beq 15 o && (Nat.beq 1 s && (100 : Int32) == y)) with
      | true =>
        rw [h3] at h
        cases h
        simp only [Bool.and_eq_true] at h3
        obtain ⟨e1, e2, e3⟩ := h3
        have e1 := Nat.eq_of_beq_eq_true e1
        have e2 := Nat.eq_of_beq_eq_true e2
        have e3 := eq_of_beq e3
        subst e1
        subst e2
        subst e3
        have ha : a = at_x L xs 1 := inj ha
        subst ha
        rfl
      | false =>
        rw [h3] at h
        cases h
theorem at_hS {L : Nat} {xs : Nat → Int32} (hL : L ≤ 6) : ac_S (at_s L xs) mx_SAx (we_SA L xs) at_P := by
  refine ⟨fun j x h => ?_, (by show 1000 ≤ 1300; omega), L, xs, (if_pos rfl), rfl, by omega, fun j hj => ?_⟩
  · unfold we_SA
    by_cases e : j = 300
    · subst e
      have : mx_SAx 300 = none := by decide +kernel
      rw [this] at h
      cases h
    · rw [if_neg e]
      exact h
  · show (xs j).toInt = at_s L xs (0 + j)
    have e : at_x L xs j = xs j := if_pos hj
    rw [← e, Nat.zero_add]
    match j, hj with
    | 0, _ => rfl
    | 1, _ => rfl
    | 2, _ => rfl
    | 3, _ => rfl
    | 4, _ => rfl
    | 5, _ => rfl
    | j + 6, hj => exact absurd hj (by omega)
theorem at_hO {L : Nat} {xs : Nat → Int32} (hL : L ≤ 6) : ac_Or (at_s L xs) (we_SA L xs) 30 at_O := by
  have hS := at_hS (xs := xs) hL
  refine List.forall_mem_cons.mpr ⟨fun as' N ha hM => ax_chk_sound hS at_c1 as' N ha hM, List.forall_mem_cons.mpr ⟨fun as' N ha hM => ax_chk_sound hS at_c2 as' N ha hM, fun e he => absurd he List.not_mem_nil⟩⟩
theorem at_lts {n : Nat} {P : Nat → Prop} (h : ∀ a, a < n → P a) (hn : P n) : ∀ a, a < n + 1 → P a := fun a ha => by
  rcases Nat.lt_or_eq_of_le (Nat.le_of_lt_succ ha) with z | z
  · exact h a z
  · subst z; exact hn
theorem at_lall : ∀ k : Nat, k < 40 → ax_law at_P at_DT at_O (at_B k k) = true := at_lts (at_lts (at_lts (at_lts (at_lts (at_lts (at_lts (at_lts (at_lts (at_lts (at_lts (at_lts (at_lts (at_lts (at_lts (at_lts (at_lts (at_lts (at_lts (at_lts (at_lts (at_lts (at_lts (at_lts (at_lts (at_lts (at_lts (at_lts (at_lts (at_lts (at_lts (at_lts (at_lts (at_lts (at_lts (at_lts (at_lts (at_lts (at_lts (at_lts (fun a ha => absurd ha (Nat.not_lt_zero a)) at_l0) at_l1) at_l2) at_l3) at_l4) at_l5) at_l6) at_l7) at_l8) at_l9) at_l10) at_l11) at_l12) at_l13) at_l14) at_l15) at_l16) at_l17) at_l18) at_l19) at_l20) at_l21) at_l22) at_l23) at_l24) at_l25) at_l26) at_l27) at_l28) at_l29) at_l30) at_l31) at_l32) at_l33) at_l34) at_l35) at_l36) at_l37) at_l38) at_l39
theorem at_go (L : Nat) (xs : Nat → Int32) (hL : L ≤ 6) : ∃ N m, mx_run (mx_Ev (we_SA L xs) mx_code 30) (mx_op (we_SA L xs) mx_SF mx_DF 14) mt_L m (0, [(0, .ref 1300)], [], []) (some (.int 1)) N ∧ N.length ≤ 256 ∧ mx_sz N ≤ 1000000 := by
  obtain ⟨h1, h2⟩ := at_and (at_x L xs 0)
  have hS := at_hS (xs := xs) hL
  have hO := at_hO (xs := xs) hL
  obtain ⟨k, hk⟩ := Int.eq_ofNat_of_zero_le h1
  have e7 : at_s L xs 7 = (k : Int) := hk
  by_cases z : k < 40
  · exact ax_law_sound hS at_hD hO (at_hB hL (by rw [e7]; exact Int.le_refl _) (by rw [e7]; exact Int.le_refl _)) (at_lall k z)
  · exact ax_law_sound hS at_hD hO (at_hB (lo := 40) (hi := 63) hL (by omega) (by omega)) at_l40
end
