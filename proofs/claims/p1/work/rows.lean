section
-- ===== PART A: goes FIRST, ahead of the names: the tables' words, and 'selects' of the private methods out of them =====
/-- a private method of a class that the tables say can be made, by its rows of tables_1 -/
def lw_okq (q : MethodName × Nat) : Prop := (q.1.cls ≠ "java/lang/invoke/MethodHandle" ∧ q.1.cls ≠ "java/lang/invoke/VarHandle") ∧ Cond.instantiable q.1.cls q.2 ∈ tables_1 ∧ Cond.privateMethod q.1 ∈ tables_1 ∧ Cond.instanceMethod q.1 ∈ tables_1
theorem lw_p0 : lw_okq (⟨"LeagueOffice$Reader", "split", "()V"⟩, 6) := ⟨⟨by decide +kernel, by decide +kernel⟩, List.mem_of_getElem? (i := 169) (by decide +kernel), List.mem_of_getElem? (i := 499) (by decide +kernel), List.mem_of_getElem? (i := 500) (by decide +kernel)⟩
theorem lw_p1 : lw_okq (⟨"LeagueOffice$Reader", "behindBlanks", "(I)I"⟩, 6) := ⟨⟨by decide +kernel, by decide +kernel⟩, List.mem_of_getElem? (i := 169) (by decide +kernel), List.mem_of_getElem? (i := 507) (by decide +kernel), List.mem_of_getElem? (i := 508) (by decide +kernel)⟩
theorem lw_p2 : lw_okq (⟨"LeagueOffice$Reader", "addToken", "(III)V"⟩, 6) := ⟨⟨by decide +kernel, by decide +kernel⟩, List.mem_of_getElem? (i := 169) (by decide +kernel), List.mem_of_getElem? (i := 519) (by decide +kernel), List.mem_of_getElem? (i := 520) (by decide +kernel)⟩
theorem lw_p3 : lw_okq (⟨"LeagueOffice$Reader", "behindDigits", "(I)I"⟩, 6) := ⟨⟨by decide +kernel, by decide +kernel⟩, List.mem_of_getElem? (i := 169) (by decide +kernel), List.mem_of_getElem? (i := 527) (by decide +kernel), List.mem_of_getElem? (i := 528) (by decide +kernel)⟩
theorem lw_p4 : lw_okq (⟨"LeagueOffice$Reader", "numberAt", "(II)I"⟩, 6) := ⟨⟨by decide +kernel, by decide +kernel⟩, List.mem_of_getElem? (i := 169) (by decide +kernel), List.mem_of_getElem? (i := 531) (by decide +kernel), List.mem_of_getElem? (i := 532) (by decide +kernel)⟩
theorem lw_p5 : lw_okq (⟨"LeagueOffice$Reader", "behindLetters", "(I)I"⟩, 6) := ⟨⟨by decide +kernel, by decide +kernel⟩, List.mem_of_getElem? (i := 169) (by decide +kernel), List.mem_of_getElem? (i := 538) (by decide +kernel), List.mem_of_getElem? (i := 539) (by decide +kernel)⟩
theorem lw_p6 : lw_okq (⟨"LeagueOffice$Reader", "wordAt", "(II)I"⟩, 6) := ⟨⟨by decide +kernel, by decide +kernel⟩, List.mem_of_getElem? (i := 169) (by decide +kernel), List.mem_of_getElem? (i := 542) (by decide +kernel), List.mem_of_getElem? (i := 543) (by decide +kernel)⟩
theorem lw_p7 : lw_okq (⟨"LeagueOffice$Reader", "isWord", "(Ljava/lang/String;II)Z"⟩, 6) := ⟨⟨by decide +kernel, by decide +kernel⟩, List.mem_of_getElem? (i := 169) (by decide +kernel), List.mem_of_getElem? (i := 562) (by decide +kernel), List.mem_of_getElem? (i := 563) (by decide +kernel)⟩
theorem lw_p8 : lw_okq (⟨"LeagueOffice$Reader", "readPart", "(I)Z"⟩, 6) := ⟨⟨by decide +kernel, by decide +kernel⟩, List.mem_of_getElem? (i := 169) (by decide +kernel), List.mem_of_getElem? (i := 576) (by decide +kernel), List.mem_of_getElem? (i := 577) (by decide +kernel)⟩
theorem lw_p9 : lw_okq (⟨"LeagueOffice$Reader", "readToken", "(I)Z"⟩, 6) := ⟨⟨by decide +kernel, by decide +kernel⟩, List.mem_of_getElem? (i := 169) (by decide +kernel), List.mem_of_getElem? (i := 580) (by decide +kernel), List.mem_of_getElem? (i := 581) (by decide +kernel)⟩
theorem lw_p10 : lw_okq (⟨"LeagueOffice$Reader", "readLevel", "(II)Z"⟩, 6) := ⟨⟨by decide +kernel, by decide +kernel⟩, List.mem_of_getElem? (i := 169) (by decide +kernel), List.mem_of_getElem? (i := 593) (by decide +kernel), List.mem_of_getElem? (i := 594) (by decide +kernel)⟩
theorem lw_p11 : lw_okq (⟨"LeagueOffice$Reader", "readOne", "(I)Z"⟩, 6) := ⟨⟨by decide +kernel, by decide +kernel⟩, List.mem_of_getElem? (i := 169) (by decide +kernel), List.mem_of_getElem? (i := 597) (by decide +kernel), List.mem_of_getElem? (i := 598) (by decide +kernel)⟩
theorem lw_p12 : lw_okq (⟨"LeagueOffice$Reader", "readNot", "(I)Z"⟩, 6) := ⟨⟨by decide +kernel, by decide +kernel⟩, List.mem_of_getElem? (i := 169) (by decide +kernel), List.mem_of_getElem? (i := 610) (by decide +kernel), List.mem_of_getElem? (i := 611) (by decide +kernel)⟩
theorem lw_p13 : lw_okq (⟨"LeagueOffice", "tellResult", "(III)I"⟩, 10) := ⟨⟨by decide +kernel, by decide +kernel⟩, List.mem_of_getElem? (i := 22) (by decide +kernel), List.mem_of_getElem? (i := 723) (by decide +kernel), List.mem_of_getElem? (i := 724) (by decide +kernel)⟩
theorem lw_p14 : lw_okq (⟨"LeagueOffice$Tables", "enter", "(IIII)V"⟩, 12) := ⟨⟨by decide +kernel, by decide +kernel⟩, List.mem_of_getElem? (i := 197) (by decide +kernel), List.mem_of_getElem? (i := 797) (by decide +kernel), List.mem_of_getElem? (i := 798) (by decide +kernel)⟩
theorem lw_p15 : lw_okq (⟨"LeagueOffice$Texts", "value", "(II)I"⟩, 8) := ⟨⟨by decide +kernel, by decide +kernel⟩, List.mem_of_getElem? (i := 132) (by decide +kernel), List.mem_of_getElem? (i := 825) (by decide +kernel), List.mem_of_getElem? (i := 826) (by decide +kernel)⟩
def lw_privs_1 : List (MethodName × Nat) := [(⟨"LeagueOffice$Reader", "split", "()V"⟩, 6), (⟨"LeagueOffice$Reader", "behindBlanks", "(I)I"⟩, 6), (⟨"LeagueOffice$Reader", "addToken", "(III)V"⟩, 6), (⟨"LeagueOffice$Reader", "behindDigits", "(I)I"⟩, 6), (⟨"LeagueOffice$Reader", "numberAt", "(II)I"⟩, 6), (⟨"LeagueOffice$Reader", "behindLetters", "(I)I"⟩, 6), (⟨"LeagueOffice$Reader", "wordAt", "(II)I"⟩, 6), (⟨"LeagueOffice$Reader", "isWord", "(Ljava/lang/String;II)Z"⟩, 6), (⟨"LeagueOffice$Reader", "readPart", "(I)Z"⟩, 6), (⟨"LeagueOffice$Reader", "readToken", "(I)Z"⟩, 6), (⟨"LeagueOffice$Reader", "readLevel", "(II)Z"⟩, 6), (⟨"LeagueOffice$Reader", "readOne", "(I)Z"⟩, 6), (⟨"LeagueOffice$Reader", "readNot", "(I)Z"⟩, 6), (⟨"LeagueOffice", "tellResult", "(III)I"⟩, 10), (⟨"LeagueOffice$Tables", "enter", "(IIII)V"⟩, 12), (⟨"LeagueOffice$Texts", "value", "(II)I"⟩, 8)]
theorem lw_r1 : ∀ q ∈ lw_privs_1, lw_okq q := List.forall_mem_cons.mpr ⟨lw_p0, List.forall_mem_cons.mpr ⟨lw_p1, List.forall_mem_cons.mpr ⟨lw_p2, List.forall_mem_cons.mpr ⟨lw_p3, List.forall_mem_cons.mpr ⟨lw_p4, List.forall_mem_cons.mpr ⟨lw_p5, List.forall_mem_cons.mpr ⟨lw_p6, List.forall_mem_cons.mpr ⟨lw_p7, List.forall_mem_cons.mpr ⟨lw_p8, List.forall_mem_cons.mpr ⟨lw_p9, List.forall_mem_cons.mpr ⟨lw_p10, List.forall_mem_cons.mpr ⟨lw_p11, List.forall_mem_cons.mpr ⟨lw_p12, List.forall_mem_cons.mpr ⟨lw_p13, List.forall_mem_cons.mpr ⟨lw_p14, List.forall_mem_cons.mpr ⟨lw_p15, fun _ h => absurd h List.not_mem_nil⟩⟩⟩⟩⟩⟩⟩⟩⟩⟩⟩⟩⟩⟩⟩⟩
theorem lw_p16 : lw_okq (⟨"LeagueOffice$Squad", "hold", "(II)V"⟩, 14) := ⟨⟨by decide +kernel, by decide +kernel⟩, List.mem_of_getElem? (i := 246) (by decide +kernel), List.mem_of_getElem? (i := 937) (by decide +kernel), List.mem_of_getElem? (i := 938) (by decide +kernel)⟩
theorem lw_p17 : lw_okq (⟨"LeagueOffice$Failures", "changeGames", "(IZ)I"⟩, 7) := ⟨⟨by decide +kernel, by decide +kernel⟩, List.mem_of_getElem? (i := 307) (by decide +kernel), List.mem_of_getElem? (i := 998) (by decide +kernel), List.mem_of_getElem? (i := 999) (by decide +kernel)⟩
theorem lw_p18 : lw_okq (⟨"LeagueOffice$Failures", "keep", "(II)V"⟩, 7) := ⟨⟨by decide +kernel, by decide +kernel⟩, List.mem_of_getElem? (i := 307) (by decide +kernel), List.mem_of_getElem? (i := 1002) (by decide +kernel), List.mem_of_getElem? (i := 1003) (by decide +kernel)⟩
theorem lw_p19 : lw_okq (⟨"LeagueOffice$Failures", "give", "(II)V"⟩, 7) := ⟨⟨by decide +kernel, by decide +kernel⟩, List.mem_of_getElem? (i := 307) (by decide +kernel), List.mem_of_getElem? (i := 1006) (by decide +kernel), List.mem_of_getElem? (i := 1007) (by decide +kernel)⟩
theorem lw_p20 : lw_okq (⟨"LeagueOffice$Failures", "hasChanged", "(II)Z"⟩, 7) := ⟨⟨by decide +kernel, by decide +kernel⟩, List.mem_of_getElem? (i := 307) (by decide +kernel), List.mem_of_getElem? (i := 1019) (by decide +kernel), List.mem_of_getElem? (i := 1020) (by decide +kernel)⟩
theorem lw_p21 : lw_okq (⟨"LeagueOffice$Chances", "enterFirst", "()I"⟩, 10) := ⟨⟨by decide +kernel, by decide +kernel⟩, List.mem_of_getElem? (i := 337) (by decide +kernel), List.mem_of_getElem? (i := 1056) (by decide +kernel), List.mem_of_getElem? (i := 1057) (by decide +kernel)⟩
theorem lw_p22 : lw_okq (⟨"LeagueOffice$Chances", "enter", "(II)V"⟩, 10) := ⟨⟨by decide +kernel, by decide +kernel⟩, List.mem_of_getElem? (i := 337) (by decide +kernel), List.mem_of_getElem? (i := 1063) (by decide +kernel), List.mem_of_getElem? (i := 1064) (by decide +kernel)⟩
theorem lw_p23 : lw_okq (⟨"LeagueOffice$Chances", "enterWin", "(IIII)V"⟩, 10) := ⟨⟨by decide +kernel, by decide +kernel⟩, List.mem_of_getElem? (i := 337) (by decide +kernel), List.mem_of_getElem? (i := 1067) (by decide +kernel), List.mem_of_getElem? (i := 1068) (by decide +kernel)⟩
theorem lw_p24 : lw_okq (⟨"LeagueOffice$Chances", "enterDraw", "(IIII)V"⟩, 10) := ⟨⟨by decide +kernel, by decide +kernel⟩, List.mem_of_getElem? (i := 337) (by decide +kernel), List.mem_of_getElem? (i := 1073) (by decide +kernel), List.mem_of_getElem? (i := 1074) (by decide +kernel)⟩
theorem lw_p25 : lw_okq (⟨"LeagueOffice$Chances", "enterNext", "()V"⟩, 10) := ⟨⟨by decide +kernel, by decide +kernel⟩, List.mem_of_getElem? (i := 337) (by decide +kernel), List.mem_of_getElem? (i := 1078) (by decide +kernel), List.mem_of_getElem? (i := 1079) (by decide +kernel)⟩
theorem lw_p26 : lw_okq (⟨"LeagueOffice$Chances", "sumOf", "(I)J"⟩, 10) := ⟨⟨by decide +kernel, by decide +kernel⟩, List.mem_of_getElem? (i := 337) (by decide +kernel), List.mem_of_getElem? (i := 1104) (by decide +kernel), List.mem_of_getElem? (i := 1105) (by decide +kernel)⟩
theorem lw_p27 : lw_okq (⟨"LeagueOffice$Purse", "sumGates", "()V"⟩, 3) := ⟨⟨by decide +kernel, by decide +kernel⟩, List.mem_of_getElem? (i := 376) (by decide +kernel), List.mem_of_getElem? (i := 1119) (by decide +kernel), List.mem_of_getElem? (i := 1120) (by decide +kernel)⟩
theorem lw_p28 : lw_okq (⟨"LeagueOffice$Plan", "look", "(I)V"⟩, 6) := ⟨⟨by decide +kernel, by decide +kernel⟩, List.mem_of_getElem? (i := 394) (by decide +kernel), List.mem_of_getElem? (i := 1165) (by decide +kernel), List.mem_of_getElem? (i := 1166) (by decide +kernel)⟩
theorem lw_p29 : lw_okq (⟨"LeagueOffice$Plan", "breaksOf", "(I)I"⟩, 6) := ⟨⟨by decide +kernel, by decide +kernel⟩, List.mem_of_getElem? (i := 394) (by decide +kernel), List.mem_of_getElem? (i := 1171) (by decide +kernel), List.mem_of_getElem? (i := 1172) (by decide +kernel)⟩
theorem lw_p30 : lw_okq (⟨"LeagueOfficeModel", "isClub", "(I)Z"⟩, 78) := ⟨⟨by decide +kernel, by decide +kernel⟩, List.mem_of_getElem? (i := 1259) (by decide +kernel), List.mem_of_getElem? (i := 1257) (by decide +kernel), List.mem_of_getElem? (i := 1258) (by decide +kernel)⟩
theorem lw_p31 : lw_okq (⟨"LeagueOfficeModel", "isGame", "(I)Z"⟩, 78) := ⟨⟨by decide +kernel, by decide +kernel⟩, List.mem_of_getElem? (i := 1259) (by decide +kernel), List.mem_of_getElem? (i := 1273) (by decide +kernel), List.mem_of_getElem? (i := 1274) (by decide +kernel)⟩
def lw_privs_2 : List (MethodName × Nat) := [(⟨"LeagueOffice$Squad", "hold", "(II)V"⟩, 14), (⟨"LeagueOffice$Failures", "changeGames", "(IZ)I"⟩, 7), (⟨"LeagueOffice$Failures", "keep", "(II)V"⟩, 7), (⟨"LeagueOffice$Failures", "give", "(II)V"⟩, 7), (⟨"LeagueOffice$Failures", "hasChanged", "(II)Z"⟩, 7), (⟨"LeagueOffice$Chances", "enterFirst", "()I"⟩, 10), (⟨"LeagueOffice$Chances", "enter", "(II)V"⟩, 10), (⟨"LeagueOffice$Chances", "enterWin", "(IIII)V"⟩, 10), (⟨"LeagueOffice$Chances", "enterDraw", "(IIII)V"⟩, 10), (⟨"LeagueOffice$Chances", "enterNext", "()V"⟩, 10), (⟨"LeagueOffice$Chances", "sumOf", "(I)J"⟩, 10), (⟨"LeagueOffice$Purse", "sumGates", "()V"⟩, 3), (⟨"LeagueOffice$Plan", "look", "(I)V"⟩, 6), (⟨"LeagueOffice$Plan", "breaksOf", "(I)I"⟩, 6), (⟨"LeagueOfficeModel", "isClub", "(I)Z"⟩, 78), (⟨"LeagueOfficeModel", "isGame", "(I)Z"⟩, 78)]
theorem lw_r2 : ∀ q ∈ lw_privs_2, lw_okq q := List.forall_mem_cons.mpr ⟨lw_p16, List.forall_mem_cons.mpr ⟨lw_p17, List.forall_mem_cons.mpr ⟨lw_p18, List.forall_mem_cons.mpr ⟨lw_p19, List.forall_mem_cons.mpr ⟨lw_p20, List.forall_mem_cons.mpr ⟨lw_p21, List.forall_mem_cons.mpr ⟨lw_p22, List.forall_mem_cons.mpr ⟨lw_p23, List.forall_mem_cons.mpr ⟨lw_p24, List.forall_mem_cons.mpr ⟨lw_p25, List.forall_mem_cons.mpr ⟨lw_p26, List.forall_mem_cons.mpr ⟨lw_p27, List.forall_mem_cons.mpr ⟨lw_p28, List.forall_mem_cons.mpr ⟨lw_p29, List.forall_mem_cons.mpr ⟨lw_p30, List.forall_mem_cons.mpr ⟨lw_p31, fun _ h => absurd h List.not_mem_nil⟩⟩⟩⟩⟩⟩⟩⟩⟩⟩⟩⟩⟩⟩⟩⟩
theorem lw_p32 : lw_okq (⟨"LeagueOfficeModel", "knownIn", "(II)I"⟩, 78) := ⟨⟨by decide +kernel, by decide +kernel⟩, List.mem_of_getElem? (i := 1259) (by decide +kernel), List.mem_of_getElem? (i := 1297) (by decide +kernel), List.mem_of_getElem? (i := 1298) (by decide +kernel)⟩
theorem lw_p33 : lw_okq (⟨"LeagueOfficeModel", "readText", "()I"⟩, 78) := ⟨⟨by decide +kernel, by decide +kernel⟩, List.mem_of_getElem? (i := 1259) (by decide +kernel), List.mem_of_getElem? (i := 1308) (by decide +kernel), List.mem_of_getElem? (i := 1309) (by decide +kernel)⟩
theorem lw_p34 : lw_okq (⟨"LeagueOfficeModel", "nextToken", "()V"⟩, 78) := ⟨⟨by decide +kernel, by decide +kernel⟩, List.mem_of_getElem? (i := 1259) (by decide +kernel), List.mem_of_getElem? (i := 1312) (by decide +kernel), List.mem_of_getElem? (i := 1313) (by decide +kernel)⟩
theorem lw_p35 : lw_okq (⟨"LeagueOfficeModel", "isWord", "(J)Z"⟩, 78) := ⟨⟨by decide +kernel, by decide +kernel⟩, List.mem_of_getElem? (i := 1259) (by decide +kernel), List.mem_of_getElem? (i := 1327) (by decide +kernel), List.mem_of_getElem? (i := 1328) (by decide +kernel)⟩
theorem lw_p36 : lw_okq (⟨"LeagueOfficeModel", "faultHere", "()V"⟩, 78) := ⟨⟨by decide +kernel, by decide +kernel⟩, List.mem_of_getElem? (i := 1259) (by decide +kernel), List.mem_of_getElem? (i := 1333) (by decide +kernel), List.mem_of_getElem? (i := 1334) (by decide +kernel)⟩
theorem lw_p37 : lw_okq (⟨"LeagueOfficeModel", "either", "()V"⟩, 78) := ⟨⟨by decide +kernel, by decide +kernel⟩, List.mem_of_getElem? (i := 1259) (by decide +kernel), List.mem_of_getElem? (i := 1337) (by decide +kernel), List.mem_of_getElem? (i := 1338) (by decide +kernel)⟩
theorem lw_p38 : lw_okq (⟨"LeagueOfficeModel", "and", "()V"⟩, 78) := ⟨⟨by decide +kernel, by decide +kernel⟩, List.mem_of_getElem? (i := 1259) (by decide +kernel), List.mem_of_getElem? (i := 1341) (by decide +kernel), List.mem_of_getElem? (i := 1342) (by decide +kernel)⟩
theorem lw_p39 : lw_okq (⟨"LeagueOfficeModel", "not", "()V"⟩, 78) := ⟨⟨by decide +kernel, by decide +kernel⟩, List.mem_of_getElem? (i := 1259) (by decide +kernel), List.mem_of_getElem? (i := 1345) (by decide +kernel), List.mem_of_getElem? (i := 1346) (by decide +kernel)⟩
theorem lw_p40 : lw_okq (⟨"LeagueOfficeModel", "opens", "()Z"⟩, 78) := ⟨⟨by decide +kernel, by decide +kernel⟩, List.mem_of_getElem? (i := 1259) (by decide +kernel), List.mem_of_getElem? (i := 1350) (by decide +kernel), List.mem_of_getElem? (i := 1351) (by decide +kernel)⟩
theorem lw_p41 : lw_okq (⟨"LeagueOfficeModel", "lay", "(II)V"⟩, 78) := ⟨⟨by decide +kernel, by decide +kernel⟩, List.mem_of_getElem? (i := 1259) (by decide +kernel), List.mem_of_getElem? (i := 1354) (by decide +kernel), List.mem_of_getElem? (i := 1355) (by decide +kernel)⟩
theorem lw_p42 : lw_okq (⟨"LeagueOfficeModel", "sum", "()V"⟩, 78) := ⟨⟨by decide +kernel, by decide +kernel⟩, List.mem_of_getElem? (i := 1259) (by decide +kernel), List.mem_of_getElem? (i := 1358) (by decide +kernel), List.mem_of_getElem? (i := 1359) (by decide +kernel)⟩
theorem lw_p43 : lw_okq (⟨"LeagueOfficeModel", "term", "()V"⟩, 78) := ⟨⟨by decide +kernel, by decide +kernel⟩, List.mem_of_getElem? (i := 1259) (by decide +kernel), List.mem_of_getElem? (i := 1362) (by decide +kernel), List.mem_of_getElem? (i := 1363) (by decide +kernel)⟩
theorem lw_p44 : lw_okq (⟨"LeagueOfficeModel", "one", "()V"⟩, 78) := ⟨⟨by decide +kernel, by decide +kernel⟩, List.mem_of_getElem? (i := 1259) (by decide +kernel), List.mem_of_getElem? (i := 1366) (by decide +kernel), List.mem_of_getElem? (i := 1367) (by decide +kernel)⟩
theorem lw_p45 : lw_okq (⟨"LeagueOfficeModel", "nameOf", "()I"⟩, 78) := ⟨⟨by decide +kernel, by decide +kernel⟩, List.mem_of_getElem? (i := 1259) (by decide +kernel), List.mem_of_getElem? (i := 1370) (by decide +kernel), List.mem_of_getElem? (i := 1371) (by decide +kernel)⟩
theorem lw_p46 : lw_okq (⟨"LeagueOfficeModel", "textOn", "(I)I"⟩, 78) := ⟨⟨by decide +kernel, by decide +kernel⟩, List.mem_of_getElem? (i := 1259) (by decide +kernel), List.mem_of_getElem? (i := 1629) (by decide +kernel), List.mem_of_getElem? (i := 1630) (by decide +kernel)⟩
theorem lw_p47 : lw_okq (⟨"LeagueOfficeModel", "pointsOf", "(II)J"⟩, 78) := ⟨⟨by decide +kernel, by decide +kernel⟩, List.mem_of_getElem? (i := 1259) (by decide +kernel), List.mem_of_getElem? (i := 1641) (by decide +kernel), List.mem_of_getElem? (i := 1642) (by decide +kernel)⟩
def lw_privs_3 : List (MethodName × Nat) := [(⟨"LeagueOfficeModel", "knownIn", "(II)I"⟩, 78), (⟨"LeagueOfficeModel", "readText", "()I"⟩, 78), (⟨"LeagueOfficeModel", "nextToken", "()V"⟩, 78), (⟨"LeagueOfficeModel", "isWord", "(J)Z"⟩, 78), (⟨"LeagueOfficeModel", "faultHere", "()V"⟩, 78), (⟨"LeagueOfficeModel", "either", "()V"⟩, 78), (⟨"LeagueOfficeModel", "and", "()V"⟩, 78), (⟨"LeagueOfficeModel", "not", "()V"⟩, 78), (⟨"LeagueOfficeModel", "opens", "()Z"⟩, 78), (⟨"LeagueOfficeModel", "lay", "(II)V"⟩, 78), (⟨"LeagueOfficeModel", "sum", "()V"⟩, 78), (⟨"LeagueOfficeModel", "term", "()V"⟩, 78), (⟨"LeagueOfficeModel", "one", "()V"⟩, 78), (⟨"LeagueOfficeModel", "nameOf", "()I"⟩, 78), (⟨"LeagueOfficeModel", "textOn", "(I)I"⟩, 78), (⟨"LeagueOfficeModel", "pointsOf", "(II)J"⟩, 78)]
theorem lw_r3 : ∀ q ∈ lw_privs_3, lw_okq q := List.forall_mem_cons.mpr ⟨lw_p32, List.forall_mem_cons.mpr ⟨lw_p33, List.forall_mem_cons.mpr ⟨lw_p34, List.forall_mem_cons.mpr ⟨lw_p35, List.forall_mem_cons.mpr ⟨lw_p36, List.forall_mem_cons.mpr ⟨lw_p37, List.forall_mem_cons.mpr ⟨lw_p38, List.forall_mem_cons.mpr ⟨lw_p39, List.forall_mem_cons.mpr ⟨lw_p40, List.forall_mem_cons.mpr ⟨lw_p41, List.forall_mem_cons.mpr ⟨lw_p42, List.forall_mem_cons.mpr ⟨lw_p43, List.forall_mem_cons.mpr ⟨lw_p44, List.forall_mem_cons.mpr ⟨lw_p45, List.forall_mem_cons.mpr ⟨lw_p46, List.forall_mem_cons.mpr ⟨lw_p47, fun _ h => absurd h List.not_mem_nil⟩⟩⟩⟩⟩⟩⟩⟩⟩⟩⟩⟩⟩⟩⟩⟩
theorem lw_p48 : lw_okq (⟨"LeagueOfficeModel", "isIn", "(II)Z"⟩, 78) := ⟨⟨by decide +kernel, by decide +kernel⟩, List.mem_of_getElem? (i := 1259) (by decide +kernel), List.mem_of_getElem? (i := 1645) (by decide +kernel), List.mem_of_getElem? (i := 1646) (by decide +kernel)⟩
theorem lw_p49 : lw_okq (⟨"LeagueOfficeModel", "endOf", "(II)I"⟩, 78) := ⟨⟨by decide +kernel, by decide +kernel⟩, List.mem_of_getElem? (i := 1259) (by decide +kernel), List.mem_of_getElem? (i := 1649) (by decide +kernel), List.mem_of_getElem? (i := 1650) (by decide +kernel)⟩
theorem lw_p50 : lw_okq (⟨"LeagueOfficeModel", "pointsIn", "(III)I"⟩, 78) := ⟨⟨by decide +kernel, by decide +kernel⟩, List.mem_of_getElem? (i := 1259) (by decide +kernel), List.mem_of_getElem? (i := 1653) (by decide +kernel), List.mem_of_getElem? (i := 1654) (by decide +kernel)⟩
theorem lw_p51 : lw_okq (⟨"LeagueOfficeModel", "setFacts", "(IIIIII)V"⟩, 78) := ⟨⟨by decide +kernel, by decide +kernel⟩, List.mem_of_getElem? (i := 1259) (by decide +kernel), List.mem_of_getElem? (i := 1660) (by decide +kernel), List.mem_of_getElem? (i := 1661) (by decide +kernel)⟩
theorem lw_p52 : lw_okq (⟨"LeagueOfficeModel", "says", "(II)I"⟩, 78) := ⟨⟨by decide +kernel, by decide +kernel⟩, List.mem_of_getElem? (i := 1259) (by decide +kernel), List.mem_of_getElem? (i := 1664) (by decide +kernel), List.mem_of_getElem? (i := 1665) (by decide +kernel)⟩
theorem lw_p53 : lw_okq (⟨"LeagueOfficeModel", "likeOf", "(II)J"⟩, 78) := ⟨⟨by decide +kernel, by decide +kernel⟩, List.mem_of_getElem? (i := 1259) (by decide +kernel), List.mem_of_getElem? (i := 1676) (by decide +kernel), List.mem_of_getElem? (i := 1677) (by decide +kernel)⟩
theorem lw_p54 : lw_okq (⟨"LeagueOfficeModel", "tally", "(III)V"⟩, 78) := ⟨⟨by decide +kernel, by decide +kernel⟩, List.mem_of_getElem? (i := 1259) (by decide +kernel), List.mem_of_getElem? (i := 1680) (by decide +kernel), List.mem_of_getElem? (i := 1681) (by decide +kernel)⟩
theorem lw_p55 : lw_okq (⟨"LeagueOfficeModel", "likeBy", "(II)J"⟩, 78) := ⟨⟨by decide +kernel, by decide +kernel⟩, List.mem_of_getElem? (i := 1259) (by decide +kernel), List.mem_of_getElem? (i := 1684) (by decide +kernel), List.mem_of_getElem? (i := 1685) (by decide +kernel)⟩
theorem lw_p56 : lw_okq (⟨"LeagueOfficeModel", "findAll", "(II)V"⟩, 78) := ⟨⟨by decide +kernel, by decide +kernel⟩, List.mem_of_getElem? (i := 1259) (by decide +kernel), List.mem_of_getElem? (i := 1692) (by decide +kernel), List.mem_of_getElem? (i := 1693) (by decide +kernel)⟩
theorem lw_p57 : lw_okq (⟨"LeagueOfficeModel", "placeNow", "(I)I"⟩, 78) := ⟨⟨by decide +kernel, by decide +kernel⟩, List.mem_of_getElem? (i := 1259) (by decide +kernel), List.mem_of_getElem? (i := 1696) (by decide +kernel), List.mem_of_getElem? (i := 1697) (by decide +kernel)⟩
theorem lw_p58 : lw_okq (⟨"LeagueOfficeModel", "isAhead", "(II)Z"⟩, 78) := ⟨⟨by decide +kernel, by decide +kernel⟩, List.mem_of_getElem? (i := 1259) (by decide +kernel), List.mem_of_getElem? (i := 1700) (by decide +kernel), List.mem_of_getElem? (i := 1701) (by decide +kernel)⟩
theorem lw_p59 : lw_okq (⟨"LeagueOfficeModel", "isPlayer", "(I)Z"⟩, 78) := ⟨⟨by decide +kernel, by decide +kernel⟩, List.mem_of_getElem? (i := 1259) (by decide +kernel), List.mem_of_getElem? (i := 1716) (by decide +kernel), List.mem_of_getElem? (i := 1717) (by decide +kernel)⟩
theorem lw_p60 : lw_okq (⟨"LeagueOfficeModel", "clubFor", "(II)I"⟩, 78) := ⟨⟨by decide +kernel, by decide +kernel⟩, List.mem_of_getElem? (i := 1259) (by decide +kernel), List.mem_of_getElem? (i := 1724) (by decide +kernel), List.mem_of_getElem? (i := 1725) (by decide +kernel)⟩
theorem lw_p61 : lw_okq (⟨"LeagueOfficeModel", "bansOf", "(I)I"⟩, 78) := ⟨⟨by decide +kernel, by decide +kernel⟩, List.mem_of_getElem? (i := 1259) (by decide +kernel), List.mem_of_getElem? (i := 1736) (by decide +kernel), List.mem_of_getElem? (i := 1737) (by decide +kernel)⟩
theorem lw_p62 : lw_okq (⟨"LeagueOfficeModel", "findBanned", "(I)V"⟩, 78) := ⟨⟨by decide +kernel, by decide +kernel⟩, List.mem_of_getElem? (i := 1259) (by decide +kernel), List.mem_of_getElem? (i := 1744) (by decide +kernel), List.mem_of_getElem? (i := 1745) (by decide +kernel)⟩
theorem lw_p63 : lw_okq (⟨"LeagueOfficeModel", "isBehind", "(II)Z"⟩, 78) := ⟨⟨by decide +kernel, by decide +kernel⟩, List.mem_of_getElem? (i := 1259) (by decide +kernel), List.mem_of_getElem? (i := 1748) (by decide +kernel), List.mem_of_getElem? (i := 1749) (by decide +kernel)⟩
def lw_privs_4 : List (MethodName × Nat) := [(⟨"LeagueOfficeModel", "isIn", "(II)Z"⟩, 78), (⟨"LeagueOfficeModel", "endOf", "(II)I"⟩, 78), (⟨"LeagueOfficeModel", "pointsIn", "(III)I"⟩, 78), (⟨"LeagueOfficeModel", "setFacts", "(IIIIII)V"⟩, 78), (⟨"LeagueOfficeModel", "says", "(II)I"⟩, 78), (⟨"LeagueOfficeModel", "likeOf", "(II)J"⟩, 78), (⟨"LeagueOfficeModel", "tally", "(III)V"⟩, 78), (⟨"LeagueOfficeModel", "likeBy", "(II)J"⟩, 78), (⟨"LeagueOfficeModel", "findAll", "(II)V"⟩, 78), (⟨"LeagueOfficeModel", "placeNow", "(I)I"⟩, 78), (⟨"LeagueOfficeModel", "isAhead", "(II)Z"⟩, 78), (⟨"LeagueOfficeModel", "isPlayer", "(I)Z"⟩, 78), (⟨"LeagueOfficeModel", "clubFor", "(II)I"⟩, 78), (⟨"LeagueOfficeModel", "bansOf", "(I)I"⟩, 78), (⟨"LeagueOfficeModel", "findBanned", "(I)V"⟩, 78), (⟨"LeagueOfficeModel", "isBehind", "(II)Z"⟩, 78)]
theorem lw_r4 : ∀ q ∈ lw_privs_4, lw_okq q := List.forall_mem_cons.mpr ⟨lw_p48, List.forall_mem_cons.mpr ⟨lw_p49, List.forall_mem_cons.mpr ⟨lw_p50, List.forall_mem_cons.mpr ⟨lw_p51, List.forall_mem_cons.mpr ⟨lw_p52, List.forall_mem_cons.mpr ⟨lw_p53, List.forall_mem_cons.mpr ⟨lw_p54, List.forall_mem_cons.mpr ⟨lw_p55, List.forall_mem_cons.mpr ⟨lw_p56, List.forall_mem_cons.mpr ⟨lw_p57, List.forall_mem_cons.mpr ⟨lw_p58, List.forall_mem_cons.mpr ⟨lw_p59, List.forall_mem_cons.mpr ⟨lw_p60, List.forall_mem_cons.mpr ⟨lw_p61, List.forall_mem_cons.mpr ⟨lw_p62, List.forall_mem_cons.mpr ⟨lw_p63, fun _ h => absurd h List.not_mem_nil⟩⟩⟩⟩⟩⟩⟩⟩⟩⟩⟩⟩⟩⟩⟩⟩
theorem lw_p64 : lw_okq (⟨"LeagueOfficeModel", "mayPlay", "(II)Z"⟩, 78) := ⟨⟨by decide +kernel, by decide +kernel⟩, List.mem_of_getElem? (i := 1259) (by decide +kernel), List.mem_of_getElem? (i := 1756) (by decide +kernel), List.mem_of_getElem? (i := 1757) (by decide +kernel)⟩
theorem lw_p65 : lw_okq (⟨"LeagueOfficeModel", "isWrong", "(I)Z"⟩, 78) := ⟨⟨by decide +kernel, by decide +kernel⟩, List.mem_of_getElem? (i := 1259) (by decide +kernel), List.mem_of_getElem? (i := 1768) (by decide +kernel), List.mem_of_getElem? (i := 1769) (by decide +kernel)⟩
theorem lw_p66 : lw_okq (⟨"LeagueOfficeModel", "change", "(IIIII)V"⟩, 78) := ⟨⟨by decide +kernel, by decide +kernel⟩, List.mem_of_getElem? (i := 1259) (by decide +kernel), List.mem_of_getElem? (i := 1776) (by decide +kernel), List.mem_of_getElem? (i := 1777) (by decide +kernel)⟩
theorem lw_p67 : lw_okq (⟨"LeagueOfficeModel", "findStill", "(I)V"⟩, 78) := ⟨⟨by decide +kernel, by decide +kernel⟩, List.mem_of_getElem? (i := 1259) (by decide +kernel), List.mem_of_getElem? (i := 1788) (by decide +kernel), List.mem_of_getElem? (i := 1789) (by decide +kernel)⟩
theorem lw_p68 : lw_okq (⟨"LeagueOfficeModel", "canHave", "(IZ)I"⟩, 78) := ⟨⟨by decide +kernel, by decide +kernel⟩, List.mem_of_getElem? (i := 1259) (by decide +kernel), List.mem_of_getElem? (i := 1796) (by decide +kernel), List.mem_of_getElem? (i := 1797) (by decide +kernel)⟩
theorem lw_p69 : lw_okq (⟨"LeagueOfficeModel", "goThrough", "(I)I"⟩, 78) := ⟨⟨by decide +kernel, by decide +kernel⟩, List.mem_of_getElem? (i := 1259) (by decide +kernel), List.mem_of_getElem? (i := 1800) (by decide +kernel), List.mem_of_getElem? (i := 1801) (by decide +kernel)⟩
theorem lw_p70 : lw_okq (⟨"LeagueOfficeModel", "findBase", "(I)V"⟩, 78) := ⟨⟨by decide +kernel, by decide +kernel⟩, List.mem_of_getElem? (i := 1259) (by decide +kernel), List.mem_of_getElem? (i := 1804) (by decide +kernel), List.mem_of_getElem? (i := 1805) (by decide +kernel)⟩
theorem lw_p71 : lw_okq (⟨"LeagueOfficeModel", "addEnds", "(III)V"⟩, 78) := ⟨⟨by decide +kernel, by decide +kernel⟩, List.mem_of_getElem? (i := 1259) (by decide +kernel), List.mem_of_getElem? (i := 1811) (by decide +kernel), List.mem_of_getElem? (i := 1812) (by decide +kernel)⟩
theorem lw_p72 : lw_okq (⟨"LeagueOfficeModel", "gatePart", "(I)I"⟩, 78) := ⟨⟨by decide +kernel, by decide +kernel⟩, List.mem_of_getElem? (i := 1259) (by decide +kernel), List.mem_of_getElem? (i := 1831) (by decide +kernel), List.mem_of_getElem? (i := 1832) (by decide +kernel)⟩
theorem lw_p73 : lw_okq (⟨"LeagueOfficeModel", "hasMeeting", "(I)Z"⟩, 78) := ⟨⟨by decide +kernel, by decide +kernel⟩, List.mem_of_getElem? (i := 1259) (by decide +kernel), List.mem_of_getElem? (i := 1840) (by decide +kernel), List.mem_of_getElem? (i := 1841) (by decide +kernel)⟩
theorem lw_p74 : lw_okq (⟨"LeagueOfficeModel", "breaksBy", "(II)I"⟩, 78) := ⟨⟨by decide +kernel, by decide +kernel⟩, List.mem_of_getElem? (i := 1259) (by decide +kernel), List.mem_of_getElem? (i := 1848) (by decide +kernel), List.mem_of_getElem? (i := 1849) (by decide +kernel)⟩
theorem lw_p75 : lw_okq (⟨"LeagueOfficeModel", "was", "(II)I"⟩, 78) := ⟨⟨by decide +kernel, by decide +kernel⟩, List.mem_of_getElem? (i := 1259) (by decide +kernel), List.mem_of_getElem? (i := 1852) (by decide +kernel), List.mem_of_getElem? (i := 1853) (by decide +kernel)⟩
def lw_privs_5 : List (MethodName × Nat) := [(⟨"LeagueOfficeModel", "mayPlay", "(II)Z"⟩, 78), (⟨"LeagueOfficeModel", "isWrong", "(I)Z"⟩, 78), (⟨"LeagueOfficeModel", "change", "(IIIII)V"⟩, 78), (⟨"LeagueOfficeModel", "findStill", "(I)V"⟩, 78), (⟨"LeagueOfficeModel", "canHave", "(IZ)I"⟩, 78), (⟨"LeagueOfficeModel", "goThrough", "(I)I"⟩, 78), (⟨"LeagueOfficeModel", "findBase", "(I)V"⟩, 78), (⟨"LeagueOfficeModel", "addEnds", "(III)V"⟩, 78), (⟨"LeagueOfficeModel", "gatePart", "(I)I"⟩, 78), (⟨"LeagueOfficeModel", "hasMeeting", "(I)Z"⟩, 78), (⟨"LeagueOfficeModel", "breaksBy", "(II)I"⟩, 78), (⟨"LeagueOfficeModel", "was", "(II)I"⟩, 78)]
theorem lw_r5 : ∀ q ∈ lw_privs_5, lw_okq q := List.forall_mem_cons.mpr ⟨lw_p64, List.forall_mem_cons.mpr ⟨lw_p65, List.forall_mem_cons.mpr ⟨lw_p66, List.forall_mem_cons.mpr ⟨lw_p67, List.forall_mem_cons.mpr ⟨lw_p68, List.forall_mem_cons.mpr ⟨lw_p69, List.forall_mem_cons.mpr ⟨lw_p70, List.forall_mem_cons.mpr ⟨lw_p71, List.forall_mem_cons.mpr ⟨lw_p72, List.forall_mem_cons.mpr ⟨lw_p73, List.forall_mem_cons.mpr ⟨lw_p74, List.forall_mem_cons.mpr ⟨lw_p75, fun _ h => absurd h List.not_mem_nil⟩⟩⟩⟩⟩⟩⟩⟩⟩⟩⟩⟩
def lw_privs : List (MethodName × Nat) := lw_privs_1 ++ (lw_privs_2 ++ (lw_privs_3 ++ (lw_privs_4 ++ (lw_privs_5))))
def lw_tbl : List Cond := k2_sels lw_privs ++ tables_1
theorem lw_privs_ok : ∀ q ∈ lw_privs, lw_okq q := by
  show ∀ q ∈ lw_privs_1 ++ (lw_privs_2 ++ (lw_privs_3 ++ (lw_privs_4 ++ (lw_privs_5)))), lw_okq q
  exact List.forall_mem_append.mpr ⟨lw_r1, List.forall_mem_append.mpr ⟨lw_r2, List.forall_mem_append.mpr ⟨lw_r3, List.forall_mem_append.mpr ⟨lw_r4, lw_r5⟩⟩⟩⟩

-- the classes: printed with the claim
def RX0 : String := "LeagueOffice$Book"
def TX0 : u_T := fun k => match k with
  | 0 => ("LeagueOffice$Book", "today", "I", false)
  | 1 => ("LeagueOffice$Book", "steps", "LLeagueOffice$Row;", true)
  | 2 => ("LeagueOffice$Book", "towns", "LLeagueOffice$Row;", true)
  | 3 => ("LeagueOffice$Book", "kinds", "LLeagueOffice$Row;", true)
  | 4 => ("LeagueOffice$Book", "homes", "LLeagueOffice$Row;", true)
  | 5 => ("LeagueOffice$Book", "guests", "LLeagueOffice$Row;", true)
  | 6 => ("LeagueOffice$Book", "days", "LLeagueOffice$Row;", true)
  | 7 => ("LeagueOffice$Book", "byDay", "LLeagueOffice$Row;", true)
  | 8 => ("LeagueOffice$Book", "toldGames", "LLeagueOffice$Row;", true)
  | 9 => ("LeagueOffice$Book", "toldScores", "LLeagueOffice$Row;", true)
  | 10 => ("LeagueOffice$Book", "toldDays", "LLeagueOffice$Row;", true)
  | _ => ("LeagueOffice$Book", "scores", "LLeagueOffice$Row;", true)
def tyX0 : Nat → FieldType := fun k => match k with
  | 0 => .int
  | 1 => .object "LeagueOffice$Row"
  | 2 => .object "LeagueOffice$Row"
  | 3 => .object "LeagueOffice$Row"
  | 4 => .object "LeagueOffice$Row"
  | 5 => .object "LeagueOffice$Row"
  | 6 => .object "LeagueOffice$Row"
  | 7 => .object "LeagueOffice$Row"
  | 8 => .object "LeagueOffice$Row"
  | 9 => .object "LeagueOffice$Row"
  | 10 => .object "LeagueOffice$Row"
  | _ => .object "LeagueOffice$Row"
theorem nmX0 : ∀ a, a < 12 → ∀ b, b < 12 → a ≠ b → (TX0 a).2.1 ≠ (TX0 b).2.1 := by decide +kernel
theorem tyX0_ok : ∀ k, k < 12 → parseFieldDescriptor (TX0 k).2.2.1 = some (tyX0 k) := by decide +kernel
def RX1 : String := "LeagueOffice$Chances"
def TX1 : u_T := fun k => match k with
  | 0 => ("LeagueOffice$Chances", "book", "LLeagueOffice$Book;", true)
  | 1 => ("LeagueOffice$Chances", "texts", "LLeagueOffice$Texts;", true)
  | 2 => ("LeagueOffice$Chances", "tables", "LLeagueOffice$Tables;", true)
  | 3 => ("LeagueOffice$Chances", "games", "LLeagueOffice$Row;", true)
  | 4 => ("LeagueOffice$Chances", "wins", "LLeagueOffice$Row;", true)
  | 5 => ("LeagueOffice$Chances", "draws", "LLeagueOffice$Row;", true)
  | 6 => ("LeagueOffice$Chances", "hows", "LLeagueOffice$Row;", true)
  | 7 => ("LeagueOffice$Chances", "places", "LLeagueOffice$Row;", true)
  | 8 => ("LeagueOffice$Chances", "sums", "[J", true)
  | _ => ("LeagueOffice$Chances", "ends", "I", false)
def tyX1 : Nat → FieldType := fun k => match k with
  | 0 => .object "LeagueOffice$Book"
  | 1 => .object "LeagueOffice$Texts"
  | 2 => .object "LeagueOffice$Tables"
  | 3 => .object "LeagueOffice$Row"
  | 4 => .object "LeagueOffice$Row"
  | 5 => .object "LeagueOffice$Row"
  | 6 => .object "LeagueOffice$Row"
  | 7 => .object "LeagueOffice$Row"
  | 8 => .array .long
  | _ => .int
theorem nmX1 : ∀ a, a < 10 → ∀ b, b < 10 → a ≠ b → (TX1 a).2.1 ≠ (TX1 b).2.1 := by decide +kernel
theorem tyX1_ok : ∀ k, k < 10 → parseFieldDescriptor (TX1 k).2.2.1 = some (tyX1 k) := by decide +kernel
def RX2 : String := "LeagueOffice$Failures"
def TX2 : u_T := fun k => match k with
  | 0 => ("LeagueOffice$Failures", "book", "LLeagueOffice$Book;", true)
  | 1 => ("LeagueOffice$Failures", "failings", "I", false)
  | 2 => ("LeagueOffice$Failures", "numbers", "LLeagueOffice$Row;", true)
  | 3 => ("LeagueOffice$Failures", "lastChanges", "LLeagueOffice$Row;", true)
  | 4 => ("LeagueOffice$Failures", "wasKinds", "LLeagueOffice$Row;", true)
  | 5 => ("LeagueOffice$Failures", "wasHomes", "LLeagueOffice$Row;", true)
  | _ => ("LeagueOffice$Failures", "wasGuests", "LLeagueOffice$Row;", true)
def tyX2 : Nat → FieldType := fun k => match k with
  | 0 => .object "LeagueOffice$Book"
  | 1 => .int
  | 2 => .object "LeagueOffice$Row"
  | 3 => .object "LeagueOffice$Row"
  | 4 => .object "LeagueOffice$Row"
  | 5 => .object "LeagueOffice$Row"
  | _ => .object "LeagueOffice$Row"
theorem nmX2 : ∀ a, a < 7 → ∀ b, b < 7 → a ≠ b → (TX2 a).2.1 ≠ (TX2 b).2.1 := by decide +kernel
theorem tyX2_ok : ∀ k, k < 7 → parseFieldDescriptor (TX2 k).2.2.1 = some (tyX2 k) := by decide +kernel
def RX3 : String := "LeagueOffice$Plan"
def TX3 : u_T := fun k => match k with
  | 0 => ("LeagueOffice$Plan", "book", "LLeagueOffice$Book;", true)
  | 1 => ("LeagueOffice$Plan", "ones", "LLeagueOffice$Row;", true)
  | 2 => ("LeagueOffice$Plan", "others", "LLeagueOffice$Row;", true)
  | 3 => ("LeagueOffice$Plan", "latest", "LLeagueOffice$Row;", true)
  | 4 => ("LeagueOffice$Plan", "bestBits", "I", false)
  | _ => ("LeagueOffice$Plan", "bestBreaks", "I", false)
def tyX3 : Nat → FieldType := fun k => match k with
  | 0 => .object "LeagueOffice$Book"
  | 1 => .object "LeagueOffice$Row"
  | 2 => .object "LeagueOffice$Row"
  | 3 => .object "LeagueOffice$Row"
  | 4 => .int
  | _ => .int
theorem nmX3 : ∀ a, a < 6 → ∀ b, b < 6 → a ≠ b → (TX3 a).2.1 ≠ (TX3 b).2.1 := by decide +kernel
theorem tyX3_ok : ∀ k, k < 6 → parseFieldDescriptor (TX3 k).2.2.1 = some (tyX3 k) := by decide +kernel
def RX4 : String := "LeagueOffice$Purse"
def TX4 : u_T := fun k => match k with
  | 0 => ("LeagueOffice$Purse", "book", "LLeagueOffice$Book;", true)
  | 1 => ("LeagueOffice$Purse", "tables", "LLeagueOffice$Tables;", true)
  | _ => ("LeagueOffice$Purse", "gateParts", "LLeagueOffice$Row;", true)
def tyX4 : Nat → FieldType := fun k => match k with
  | 0 => .object "LeagueOffice$Book"
  | 1 => .object "LeagueOffice$Tables"
  | _ => .object "LeagueOffice$Row"
theorem nmX4 : ∀ a, a < 3 → ∀ b, b < 3 → a ≠ b → (TX4 a).2.1 ≠ (TX4 b).2.1 := by decide +kernel
theorem tyX4_ok : ∀ k, k < 3 → parseFieldDescriptor (TX4 k).2.2.1 = some (tyX4 k) := by decide +kernel
def RX5 : String := "LeagueOffice$Reader"
def TX5 : u_T := fun k => match k with
  | 0 => ("LeagueOffice$Reader", "texts", "LLeagueOffice$Texts;", true)
  | 1 => ("LeagueOffice$Reader", "tape", "LLeagueOffice$Row;", true)
  | 2 => ("LeagueOffice$Reader", "tokens", "LLeagueOffice$Row;", true)
  | 3 => ("LeagueOffice$Reader", "places", "LLeagueOffice$Row;", true)
  | 4 => ("LeagueOffice$Reader", "values", "LLeagueOffice$Row;", true)
  | _ => ("LeagueOffice$Reader", "at", "I", false)
def tyX5 : Nat → FieldType := fun k => match k with
  | 0 => .object "LeagueOffice$Texts"
  | 1 => .object "LeagueOffice$Row"
  | 2 => .object "LeagueOffice$Row"
  | 3 => .object "LeagueOffice$Row"
  | 4 => .object "LeagueOffice$Row"
  | _ => .int
theorem nmX5 : ∀ a, a < 6 → ∀ b, b < 6 → a ≠ b → (TX5 a).2.1 ≠ (TX5 b).2.1 := by decide +kernel
theorem tyX5_ok : ∀ k, k < 6 → parseFieldDescriptor (TX5 k).2.2.1 = some (tyX5 k) := by decide +kernel
def RX6 : String := "LeagueOffice$Row"
def TX6 : u_T := fun k => match k with
  | 0 => ("LeagueOffice$Row", "items", "[I", true)
  | _ => ("LeagueOffice$Row", "used", "I", false)
def tyX6 : Nat → FieldType := fun k => match k with
  | 0 => .array .int
  | _ => .int
theorem nmX6 : ∀ a, a < 2 → ∀ b, b < 2 → a ≠ b → (TX6 a).2.1 ≠ (TX6 b).2.1 := by decide +kernel
theorem tyX6_ok : ∀ k, k < 2 → parseFieldDescriptor (TX6 k).2.2.1 = some (tyX6 k) := by decide +kernel
def RX7 : String := "LeagueOffice$Sheets"
def TX7 : u_T := fun k => match k with
  | 0 => ("LeagueOffice$Sheets", "sorts", "LLeagueOffice$Row;", true)
  | 1 => ("LeagueOffice$Sheets", "sizes", "LLeagueOffice$Row;", true)
  | _ => ("LeagueOffice$Sheets", "cells", "LLeagueOffice$Row;", true)
def tyX7 : Nat → FieldType := fun k => match k with
  | 0 => .object "LeagueOffice$Row"
  | 1 => .object "LeagueOffice$Row"
  | _ => .object "LeagueOffice$Row"
theorem nmX7 : ∀ a, a < 3 → ∀ b, b < 3 → a ≠ b → (TX7 a).2.1 ≠ (TX7 b).2.1 := by decide +kernel
theorem tyX7_ok : ∀ k, k < 3 → parseFieldDescriptor (TX7 k).2.2.1 = some (tyX7 k) := by decide +kernel
def RX8 : String := "LeagueOffice$Squad"
def TX8 : u_T := fun k => match k with
  | 0 => ("LeagueOffice$Squad", "book", "LLeagueOffice$Book;", true)
  | 1 => ("LeagueOffice$Squad", "texts", "LLeagueOffice$Texts;", true)
  | 2 => ("LeagueOffice$Squad", "players", "I", false)
  | 3 => ("LeagueOffice$Squad", "signedPlayers", "LLeagueOffice$Row;", true)
  | 4 => ("LeagueOffice$Squad", "signedClubs", "LLeagueOffice$Row;", true)
  | 5 => ("LeagueOffice$Squad", "signedFroms", "LLeagueOffice$Row;", true)
  | 6 => ("LeagueOffice$Squad", "cardPlayers", "LLeagueOffice$Row;", true)
  | 7 => ("LeagueOffice$Squad", "cardGames", "LLeagueOffice$Row;", true)
  | 8 => ("LeagueOffice$Squad", "cardKinds", "LLeagueOffice$Row;", true)
  | 9 => ("LeagueOffice$Squad", "playingPlayers", "LLeagueOffice$Row;", true)
  | 10 => ("LeagueOffice$Squad", "playingGames", "LLeagueOffice$Row;", true)
  | 11 => ("LeagueOffice$Squad", "holders", "LLeagueOffice$Row;", true)
  | 12 => ("LeagueOffice$Squad", "marks", "LLeagueOffice$Row;", true)
  | _ => ("LeagueOffice$Squad", "wrongs", "LLeagueOffice$Row;", true)
def tyX8 : Nat → FieldType := fun k => match k with
  | 0 => .object "LeagueOffice$Book"
  | 1 => .object "LeagueOffice$Texts"
  | 2 => .int
  | 3 => .object "LeagueOffice$Row"
  | 4 => .object "LeagueOffice$Row"
  | 5 => .object "LeagueOffice$Row"
  | 6 => .object "LeagueOffice$Row"
  | 7 => .object "LeagueOffice$Row"
  | 8 => .object "LeagueOffice$Row"
  | 9 => .object "LeagueOffice$Row"
  | 10 => .object "LeagueOffice$Row"
  | 11 => .object "LeagueOffice$Row"
  | 12 => .object "LeagueOffice$Row"
  | _ => .object "LeagueOffice$Row"
theorem nmX8 : ∀ a, a < 14 → ∀ b, b < 14 → a ≠ b → (TX8 a).2.1 ≠ (TX8 b).2.1 := by decide +kernel
theorem tyX8_ok : ∀ k, k < 14 → parseFieldDescriptor (TX8 k).2.2.1 = some (tyX8 k) := by decide +kernel
def RX9 : String := "LeagueOffice$Tables"
def TX9 : u_T := fun k => match k with
  | 0 => ("LeagueOffice$Tables", "book", "LLeagueOffice$Book;", true)
  | 1 => ("LeagueOffice$Tables", "texts", "LLeagueOffice$Texts;", true)
  | 2 => ("LeagueOffice$Tables", "takenClubs", "LLeagueOffice$Row;", true)
  | 3 => ("LeagueOffice$Tables", "takenPoints", "LLeagueOffice$Row;", true)
  | 4 => ("LeagueOffice$Tables", "takenFroms", "LLeagueOffice$Row;", true)
  | 5 => ("LeagueOffice$Tables", "points", "[J", true)
  | 6 => ("LeagueOffice$Tables", "goals", "LLeagueOffice$Row;", true)
  | 7 => ("LeagueOffice$Tables", "made", "LLeagueOffice$Row;", true)
  | 8 => ("LeagueOffice$Tables", "won", "LLeagueOffice$Row;", true)
  | 9 => ("LeagueOffice$Tables", "likes", "LLeagueOffice$Row;", true)
  | 10 => ("LeagueOffice$Tables", "asked", "LLeagueOffice$Row;", true)
  | _ => ("LeagueOffice$Tables", "likeDay", "I", false)
def tyX9 : Nat → FieldType := fun k => match k with
  | 0 => .object "LeagueOffice$Book"
  | 1 => .object "LeagueOffice$Texts"
  | 2 => .object "LeagueOffice$Row"
  | 3 => .object "LeagueOffice$Row"
  | 4 => .object "LeagueOffice$Row"
  | 5 => .array .long
  | 6 => .object "LeagueOffice$Row"
  | 7 => .object "LeagueOffice$Row"
  | 8 => .object "LeagueOffice$Row"
  | 9 => .object "LeagueOffice$Row"
  | 10 => .object "LeagueOffice$Row"
  | _ => .int
theorem nmX9 : ∀ a, a < 12 → ∀ b, b < 12 → a ≠ b → (TX9 a).2.1 ≠ (TX9 b).2.1 := by decide +kernel
theorem tyX9_ok : ∀ k, k < 12 → parseFieldDescriptor (TX9 k).2.2.1 = some (tyX9 k) := by decide +kernel
def RX10 : String := "LeagueOffice$Texts"
def TX10 : u_T := fun k => match k with
  | 0 => ("LeagueOffice$Texts", "size", "I", false)
  | 1 => ("LeagueOffice$Texts", "code", "LLeagueOffice$Row;", true)
  | 2 => ("LeagueOffice$Texts", "starts", "LLeagueOffice$Row;", true)
  | 3 => ("LeagueOffice$Texts", "ends", "LLeagueOffice$Row;", true)
  | 4 => ("LeagueOffice$Texts", "names", "LLeagueOffice$Row;", true)
  | 5 => ("LeagueOffice$Texts", "stack", "LLeagueOffice$Row;", true)
  | 6 => ("LeagueOffice$Texts", "ruleTexts", "LLeagueOffice$Row;", true)
  | _ => ("LeagueOffice$Texts", "ruleFroms", "LLeagueOffice$Row;", true)
def tyX10 : Nat → FieldType := fun k => match k with
  | 0 => .int
  | 1 => .object "LeagueOffice$Row"
  | 2 => .object "LeagueOffice$Row"
  | 3 => .object "LeagueOffice$Row"
  | 4 => .object "LeagueOffice$Row"
  | 5 => .object "LeagueOffice$Row"
  | 6 => .object "LeagueOffice$Row"
  | _ => .object "LeagueOffice$Row"
theorem nmX10 : ∀ a, a < 8 → ∀ b, b < 8 → a ≠ b → (TX10 a).2.1 ≠ (TX10 b).2.1 := by decide +kernel
theorem tyX10_ok : ∀ k, k < 8 → parseFieldDescriptor (TX10 k).2.2.1 = some (tyX10 k) := by decide +kernel
def RX11 : String := "LeagueOffice"
def TX11 : u_T := fun k => match k with
  | 0 => ("LeagueOffice", "book", "LLeagueOffice$Book;", true)
  | 1 => ("LeagueOffice", "texts", "LLeagueOffice$Texts;", true)
  | 2 => ("LeagueOffice", "reader", "LLeagueOffice$Reader;", true)
  | 3 => ("LeagueOffice", "tables", "LLeagueOffice$Tables;", true)
  | 4 => ("LeagueOffice", "squad", "LLeagueOffice$Squad;", true)
  | 5 => ("LeagueOffice", "failures", "LLeagueOffice$Failures;", true)
  | 6 => ("LeagueOffice", "chances", "LLeagueOffice$Chances;", true)
  | 7 => ("LeagueOffice", "purse", "LLeagueOffice$Purse;", true)
  | 8 => ("LeagueOffice", "plan", "LLeagueOffice$Plan;", true)
  | _ => ("LeagueOffice", "sheets", "LLeagueOffice$Sheets;", true)
def tyX11 : Nat → FieldType := fun k => match k with
  | 0 => .object "LeagueOffice$Book"
  | 1 => .object "LeagueOffice$Texts"
  | 2 => .object "LeagueOffice$Reader"
  | 3 => .object "LeagueOffice$Tables"
  | 4 => .object "LeagueOffice$Squad"
  | 5 => .object "LeagueOffice$Failures"
  | 6 => .object "LeagueOffice$Chances"
  | 7 => .object "LeagueOffice$Purse"
  | 8 => .object "LeagueOffice$Plan"
  | _ => .object "LeagueOffice$Sheets"
theorem nmX11 : ∀ a, a < 10 → ∀ b, b < 10 → a ≠ b → (TX11 a).2.1 ≠ (TX11 b).2.1 := by decide +kernel
theorem tyX11_ok : ∀ k, k < 10 → parseFieldDescriptor (TX11 k).2.2.1 = some (tyX11 k) := by decide +kernel
def RX12 : String := "LeagueOfficeModel"
def TX12 : u_T := fun k => match k with
  | 0 => ("LeagueOfficeModel", "code", "I", false)
  | 1 => ("LeagueOfficeModel", "today", "I", false)
  | 2 => ("LeagueOfficeModel", "clubs", "I", false)
  | 3 => ("LeagueOfficeModel", "stepOf", "[I", true)
  | 4 => ("LeagueOfficeModel", "townOf", "[I", true)
  | 5 => ("LeagueOfficeModel", "games", "I", false)
  | 6 => ("LeagueOfficeModel", "kind", "[I", true)
  | 7 => ("LeagueOfficeModel", "home", "[I", true)
  | 8 => ("LeagueOfficeModel", "guest", "[I", true)
  | 9 => ("LeagueOfficeModel", "day", "[I", true)
  | 10 => ("LeagueOfficeModel", "results", "I", false)
  | 11 => ("LeagueOfficeModel", "resultGame", "[I", true)
  | 12 => ("LeagueOfficeModel", "resultIs", "[I", true)
  | 13 => ("LeagueOfficeModel", "resultDay", "[I", true)
  | 14 => ("LeagueOfficeModel", "tape", "[B", true)
  | 15 => ("LeagueOfficeModel", "taped", "I", false)
  | 16 => ("LeagueOfficeModel", "texts", "I", false)
  | 17 => ("LeagueOfficeModel", "partEnd", "[I", true)
  | 18 => ("LeagueOfficeModel", "act", "[I", true)
  | 19 => ("LeagueOfficeModel", "with", "[I", true)
  | 20 => ("LeagueOfficeModel", "from", "I", false)
  | 21 => ("LeagueOfficeModel", "upTo", "I", false)
  | 22 => ("LeagueOfficeModel", "token", "I", false)
  | 23 => ("LeagueOfficeModel", "value", "I", false)
  | 24 => ("LeagueOfficeModel", "fault", "I", false)
  | 25 => ("LeagueOfficeModel", "open", "I", false)
  | 26 => ("LeagueOfficeModel", "laid", "I", false)
  | 27 => ("LeagueOfficeModel", "rules", "I", false)
  | 28 => ("LeagueOfficeModel", "ruleText", "[I", true)
  | 29 => ("LeagueOfficeModel", "ruleFrom", "[I", true)
  | 30 => ("LeagueOfficeModel", "facts", "[I", true)
  | 31 => ("LeagueOfficeModel", "pile", "[I", true)
  | 32 => ("LeagueOfficeModel", "takings", "I", false)
  | 33 => ("LeagueOfficeModel", "takenClub", "[I", true)
  | 34 => ("LeagueOfficeModel", "takenPoints", "[I", true)
  | 35 => ("LeagueOfficeModel", "takenFrom", "[I", true)
  | 36 => ("LeagueOfficeModel", "goalsOf", "[I", true)
  | 37 => ("LeagueOfficeModel", "madeOf", "[I", true)
  | 38 => ("LeagueOfficeModel", "wonOf", "[I", true)
  | 39 => ("LeagueOfficeModel", "pointsNow", "[J", true)
  | 40 => ("LeagueOfficeModel", "likeNow", "[J", true)
  | 41 => ("LeagueOfficeModel", "players", "I", false)
  | 42 => ("LeagueOfficeModel", "tellings", "I", false)
  | 43 => ("LeagueOfficeModel", "toldPlayer", "[I", true)
  | 44 => ("LeagueOfficeModel", "toldClub", "[I", true)
  | 45 => ("LeagueOfficeModel", "toldFrom", "[I", true)
  | 46 => ("LeagueOfficeModel", "cards", "I", false)
  | 47 => ("LeagueOfficeModel", "cardPlayer", "[I", true)
  | 48 => ("LeagueOfficeModel", "cardGame", "[I", true)
  | 49 => ("LeagueOfficeModel", "cardKind", "[I", true)
  | 50 => ("LeagueOfficeModel", "playedMany", "I", false)
  | 51 => ("LeagueOfficeModel", "playedPlayer", "[I", true)
  | 52 => ("LeagueOfficeModel", "playedGame", "[I", true)
  | 53 => ("LeagueOfficeModel", "bannedGame", "[I", true)
  | 54 => ("LeagueOfficeModel", "bannedMany", "[I", true)
  | 55 => ("LeagueOfficeModel", "isTaken", "[Z", true)
  | 56 => ("LeagueOfficeModel", "hasFailed", "[Z", true)
  | 57 => ("LeagueOfficeModel", "isChanged", "[Z", true)
  | 58 => ("LeagueOfficeModel", "wasKind", "[I", true)
  | 59 => ("LeagueOfficeModel", "wasHome", "[I", true)
  | 60 => ("LeagueOfficeModel", "wasGuest", "[I", true)
  | 61 => ("LeagueOfficeModel", "wasFail", "[I", true)
  | 62 => ("LeagueOfficeModel", "lastFail", "[I", true)
  | 63 => ("LeagueOfficeModel", "stills", "I", false)
  | 64 => ("LeagueOfficeModel", "still", "[I", true)
  | 65 => ("LeagueOfficeModel", "placeBy", "[I", true)
  | 66 => ("LeagueOfficeModel", "sumBy", "[J", true)
  | 67 => ("LeagueOfficeModel", "pointsBase", "[J", true)
  | 68 => ("LeagueOfficeModel", "goalsBase", "[I", true)
  | 69 => ("LeagueOfficeModel", "madeBase", "[I", true)
  | 70 => ("LeagueOfficeModel", "wonBase", "[I", true)
  | 71 => ("LeagueOfficeModel", "meetings", "I", false)
  | 72 => ("LeagueOfficeModel", "meetOne", "[I", true)
  | 73 => ("LeagueOfficeModel", "meetOther", "[I", true)
  | 74 => ("LeagueOfficeModel", "sheetSort", "[I", true)
  | 75 => ("LeagueOfficeModel", "sheetSize", "[I", true)
  | 76 => ("LeagueOfficeModel", "cells", "[I", true)
  | _ => ("LeagueOfficeModel", "copied", "[I", true)
def tyX12 : Nat → FieldType := fun k => match k with
  | 0 => .int
  | 1 => .int
  | 2 => .int
  | 3 => .array .int
  | 4 => .array .int
  | 5 => .int
  | 6 => .array .int
  | 7 => .array .int
  | 8 => .array .int
  | 9 => .array .int
  | 10 => .int
  | 11 => .array .int
  | 12 => .array .int
  | 13 => .array .int
  | 14 => .array .byte
  | 15 => .int
  | 16 => .int
  | 17 => .array .int
  | 18 => .array .int
  | 19 => .array .int
  | 20 => .int
  | 21 => .int
  | 22 => .int
  | 23 => .int
  | 24 => .int
  | 25 => .int
  | 26 => .int
  | 27 => .int
  | 28 => .array .int
  | 29 => .array .int
  | 30 => .array .int
  | 31 => .array .int
  | 32 => .int
  | 33 => .array .int
  | 34 => .array .int
  | 35 => .array .int
  | 36 => .array .int
  | 37 => .array .int
  | 38 => .array .int
  | 39 => .array .long
  | 40 => .array .long
  | 41 => .int
  | 42 => .int
  | 43 => .array .int
  | 44 => .array .int
  | 45 => .array .int
  | 46 => .int
  | 47 => .array .int
  | 48 => .array .int
  | 49 => .array .int
  | 50 => .int
  | 51 => .array .int
  | 52 => .array .int
  | 53 => .array .int
  | 54 => .array .int
  | 55 => .array .boolean
  | 56 => .array .boolean
  | 57 => .array .boolean
  | 58 => .array .int
  | 59 => .array .int
  | 60 => .array .int
  | 61 => .array .int
  | 62 => .array .int
  | 63 => .int
  | 64 => .array .int
  | 65 => .array .int
  | 66 => .array .long
  | 67 => .array .long
  | 68 => .array .int
  | 69 => .array .int
  | 70 => .array .int
  | 71 => .int
  | 72 => .array .int
  | 73 => .array .int
  | 74 => .array .int
  | 75 => .array .int
  | 76 => .array .int
  | _ => .array .int
theorem nmX12 : ∀ a, a < 78 → ∀ b, b < 78 → a ≠ b → (TX12 a).2.1 ≠ (TX12 b).2.1 := by decide +kernel
theorem tyX12_ok : ∀ k, k < 78 → parseFieldDescriptor (TX12 k).2.2.1 = some (tyX12 k) := by decide +kernel
abbrev vwCl : List vw_C := [(RX0, TX0, 12), (RX1, TX1, 10), (RX2, TX2, 7), (RX3, TX3, 6), (RX4, TX4, 3), (RX5, TX5, 6), (RX6, TX6, 2), (RX7, TX7, 3), (RX8, TX8, 14), (RX9, TX9, 12), (RX10, TX10, 8), (RX11, TX11, 10), (RX12, TX12, 78)]
/-- the words that hold in every frame -/
def mx_GT : List Cond := lw_tbl.filter goodWord
theorem mx_gt {w : Cond} (i : Nat) (h : lw_tbl[i]? = some w) (hg : goodWord w = true) : w ∈ mx_GT := List.mem_filter.mpr ⟨List.mem_of_getElem? h, hg⟩
def mx_NT : List Cond := lw_tbl.filter (fun w => match w with | .fieldLinkNest .. => true | .methodLinkNest .. => true | _ => false)
set_option maxRecDepth 100000 in
theorem mx_w0 : ∀ w ∈ u_ws RX0 TX0 12, w ∈ mx_GT := by
  have h1 : u_ws RX0 TX0 12 = [182, 184, 186, 188, 190, 192, 194, 196, 198, 200, 202, 204].filterMap (fun i => lw_tbl[i]?) := by decide +kernel
  have h2 : (u_ws RX0 TX0 12).all goodWord = true := by decide +kernel
  intro w hw
  have h3 := List.all_eq_true.mp h2 w hw
  rw [h1] at hw
  obtain ⟨i, -, hi⟩ := List.mem_filterMap.mp hw
  exact mx_gt i hi h3
set_option maxRecDepth 100000 in
theorem mx_w1 : ∀ w ∈ u_ws RX1 TX1 10, w ∈ mx_GT := by
  have h1 : u_ws RX1 TX1 10 = [430, 432, 434, 436, 438, 440, 442, 444, 446, 448].filterMap (fun i => lw_tbl[i]?) := by decide +kernel
  have h2 : (u_ws RX1 TX1 10).all goodWord = true := by decide +kernel
  intro w hw
  have h3 := List.all_eq_true.mp h2 w hw
  rw [h1] at hw
  obtain ⟨i, -, hi⟩ := List.mem_filterMap.mp hw
  exact mx_gt i hi h3
set_option maxRecDepth 100000 in
theorem mx_w2 : ∀ w ∈ u_ws RX2 TX2 7, w ∈ mx_GT := by
  have h1 : u_ws RX2 TX2 7 = [397, 399, 401, 403, 405, 407, 409].filterMap (fun i => lw_tbl[i]?) := by decide +kernel
  have h2 : (u_ws RX2 TX2 7).all goodWord = true := by decide +kernel
  intro w hw
  have h3 := List.all_eq_true.mp h2 w hw
  rw [h1] at hw
  obtain ⟨i, -, hi⟩ := List.mem_filterMap.mp hw
  exact mx_gt i hi h3
set_option maxRecDepth 100000 in
theorem mx_w3 : ∀ w ∈ u_ws RX3 TX3 6, w ∈ mx_GT := by
  have h1 : u_ws RX3 TX3 6 = [486, 488, 490, 492, 494, 496].filterMap (fun i => lw_tbl[i]?) := by decide +kernel
  have h2 : (u_ws RX3 TX3 6).all goodWord = true := by decide +kernel
  intro w hw
  have h3 := List.all_eq_true.mp h2 w hw
  rw [h1] at hw
  obtain ⟨i, -, hi⟩ := List.mem_filterMap.mp hw
  exact mx_gt i hi h3
set_option maxRecDepth 100000 in
theorem mx_w4 : ∀ w ∈ u_ws RX4 TX4 3, w ∈ mx_GT := by
  have h1 : u_ws RX4 TX4 3 = [462, 464, 466].filterMap (fun i => lw_tbl[i]?) := by decide +kernel
  have h2 : (u_ws RX4 TX4 3).all goodWord = true := by decide +kernel
  intro w hw
  have h3 := List.all_eq_true.mp h2 w hw
  rw [h1] at hw
  obtain ⟨i, -, hi⟩ := List.mem_filterMap.mp hw
  exact mx_gt i hi h3
set_option maxRecDepth 100000 in
theorem mx_w5 : ∀ w ∈ u_ws RX5 TX5 6, w ∈ mx_GT := by
  have h1 : u_ws RX5 TX5 6 = [259, 261, 263, 265, 267, 269].filterMap (fun i => lw_tbl[i]?) := by decide +kernel
  have h2 : (u_ws RX5 TX5 6).all goodWord = true := by decide +kernel
  intro w hw
  have h3 := List.all_eq_true.mp h2 w hw
  rw [h1] at hw
  obtain ⟨i, -, hi⟩ := List.mem_filterMap.mp hw
  exact mx_gt i hi h3
set_option maxRecDepth 100000 in
theorem mx_w6 : ∀ w ∈ u_ws RX6 TX6 2, w ∈ mx_GT := by
  have h1 : u_ws RX6 TX6 2 = [123, 125].filterMap (fun i => lw_tbl[i]?) := by decide +kernel
  have h2 : (u_ws RX6 TX6 2).all goodWord = true := by decide +kernel
  intro w hw
  have h3 := List.all_eq_true.mp h2 w hw
  rw [h1] at hw
  obtain ⟨i, -, hi⟩ := List.mem_filterMap.mp hw
  exact mx_gt i hi h3
set_option maxRecDepth 100000 in
theorem mx_w7 : ∀ w ∈ u_ws RX7 TX7 3, w ∈ mx_GT := by
  have h1 : u_ws RX7 TX7 3 = [510, 512, 514].filterMap (fun i => lw_tbl[i]?) := by decide +kernel
  have h2 : (u_ws RX7 TX7 3).all goodWord = true := by decide +kernel
  intro w hw
  have h3 := List.all_eq_true.mp h2 w hw
  rw [h1] at hw
  obtain ⟨i, -, hi⟩ := List.mem_filterMap.mp hw
  exact mx_gt i hi h3
set_option maxRecDepth 100000 in
theorem mx_w8 : ∀ w ∈ u_ws RX8 TX8 14, w ∈ mx_GT := by
  have h1 : u_ws RX8 TX8 14 = [353, 355, 357, 359, 361, 363, 365, 367, 369, 371, 373, 375, 377, 379].filterMap (fun i => lw_tbl[i]?) := by decide +kernel
  have h2 : (u_ws RX8 TX8 14).all goodWord = true := by decide +kernel
  intro w hw
  have h3 := List.all_eq_true.mp h2 w hw
  rw [h1] at hw
  obtain ⟨i, -, hi⟩ := List.mem_filterMap.mp hw
  exact mx_gt i hi h3
set_option maxRecDepth 100000 in
theorem mx_w9 : ∀ w ∈ u_ws RX9 TX9 12, w ∈ mx_GT := by
  have h1 : u_ws RX9 TX9 12 = [295, 297, 299, 301, 303, 305, 307, 309, 311, 313, 315, 317].filterMap (fun i => lw_tbl[i]?) := by decide +kernel
  have h2 : (u_ws RX9 TX9 12).all goodWord = true := by decide +kernel
  intro w hw
  have h3 := List.all_eq_true.mp h2 w hw
  rw [h1] at hw
  obtain ⟨i, -, hi⟩ := List.mem_filterMap.mp hw
  exact mx_gt i hi h3
set_option maxRecDepth 100000 in
theorem mx_w10 : ∀ w ∈ u_ws RX10 TX10 8, w ∈ mx_GT := by
  have h1 : u_ws RX10 TX10 8 = [227, 229, 231, 233, 235, 237, 239, 241].filterMap (fun i => lw_tbl[i]?) := by decide +kernel
  have h2 : (u_ws RX10 TX10 8).all goodWord = true := by decide +kernel
  intro w hw
  have h3 := List.all_eq_true.mp h2 w hw
  rw [h1] at hw
  obtain ⟨i, -, hi⟩ := List.mem_filterMap.mp hw
  exact mx_gt i hi h3
set_option maxRecDepth 100000 in
theorem mx_w11 : ∀ w ∈ u_ws RX11 TX11 10, w ∈ mx_GT := by
  have h1 : u_ws RX11 TX11 10 = [706, 708, 710, 712, 714, 716, 718, 720, 722, 724].filterMap (fun i => lw_tbl[i]?) := by decide +kernel
  have h2 : (u_ws RX11 TX11 10).all goodWord = true := by decide +kernel
  intro w hw
  have h3 := List.all_eq_true.mp h2 w hw
  rw [h1] at hw
  obtain ⟨i, -, hi⟩ := List.mem_filterMap.mp hw
  exact mx_gt i hi h3
set_option maxRecDepth 100000 in
theorem mx_w12 : ∀ w ∈ u_ws RX12 TX12 78, w ∈ mx_GT := by
  have h1 : u_ws RX12 TX12 78 = [1530, 1532, 1534, 1536, 1538, 1540, 1542, 1544, 1546, 1548, 1550, 1552, 1554, 1556, 1558, 1560, 1562, 1564, 1566, 1568, 1570, 1572, 1574, 1576, 1578, 1580, 1582, 1584, 1586, 1588, 1590, 1592, 1594, 1596, 1598, 1600, 1602, 1604, 1606, 1608, 1610, 1612, 1614, 1616, 1618, 1620, 1622, 1624, 1626, 1628, 1630, 1632, 1634, 1636, 1638, 1640, 1642, 1644, 1646, 1648, 1650, 1652, 1654, 1656, 1658, 1660, 1662, 1664, 1666, 1668, 1670, 1672, 1674, 1676, 1678, 1680, 1682, 1684].filterMap (fun i => lw_tbl[i]?) := by decide +kernel
  have h2 : (u_ws RX12 TX12 78).all goodWord = true := by decide +kernel
  intro w hw
  have h3 := List.all_eq_true.mp h2 w hw
  rw [h1] at hw
  obtain ⟨i, -, hi⟩ := List.mem_filterMap.mp hw
  exact mx_gt i hi h3
/-- static fields that nobody writes -/
def mx_SF : List (String × String × String × Value) := [("java/lang/String", "COMPACT_STRINGS", "Z", .int 1), ("jdk/internal/util/Preconditions", "SIOOBE_FORMATTER", "Ljava/util/function/BiFunction;", .ref 1050), ("java/lang/StringUTF16", "$assertionsDisabled", "Z", .int 1), ("java/lang/StringUTF16", "HI_BYTE_SHIFT", "I", .int 0), ("java/lang/StringUTF16", "LO_BYTE_SHIFT", "I", .int 8), ("LeagueOffice", "COUNTS", "[I", .ref 1000), ("LeagueOffice", "SERVES", "[I", .ref 1001), ("LeagueOffice", "GATES", "[I", .ref 1002), ("LeagueOffice", "HOME_PARTS", "[I", .ref 1003), ("LeagueOffice", "UNDER", "[I", .ref 1004), ("LeagueOfficeModel", "FIRST", "[B", .ref 1005), ("LeagueOfficeModel", "PARTS", "[J", .ref 1006), ("LeagueOfficeModel", "NAMES", "[J", .ref 1007)]
/-- string constants -/
def mx_SR : List (String × Nat × String) := [("LeagueOffice", 89, "win 3 ; draw 1 ; like goals * 100 + made ; ban kind = 2 or cards = 5 ;"), ("LeagueOffice$Reader", 111, "goals"), ("LeagueOffice$Reader", 113, "made"), ("LeagueOffice$Reader", 115, "won"), ("LeagueOffice$Reader", 117, "cards"), ("LeagueOffice$Reader", 119, "kind"), ("LeagueOffice$Reader", 121, "late"), ("LeagueOffice$Reader", 123, "win"), ("LeagueOffice$Reader", 125, "draw"), ("LeagueOffice$Reader", 127, "like"), ("LeagueOffice$Reader", 129, "ban"), ("LeagueOffice$Reader", 131, "or"), ("LeagueOffice$Reader", 133, "and"), ("LeagueOffice$Reader", 135, "not")]
/-- what a new object holds -/
def mx_DF : List (List Value) := [[.int 0, .null, .null, .null, .null, .null, .null, .null, .null, .null, .null, .null],
  [.null, .null, .null, .null, .null, .null, .null, .null, .null, .int 0],
  [.null, .int 0, .null, .null, .null, .null, .null],
  [.null, .null, .null, .null, .int 0, .int 0],
  [.null, .null, .null],
  [.null, .null, .null, .null, .null, .int 0],
  [.null, .int 0],
  [.null, .null, .null],
  [.null, .null, .int 0, .null, .null, .null, .null, .null, .null, .null, .null, .null, .null, .null],
  [.null, .null, .null, .null, .null, .null, .null, .null, .null, .null, .null, .int 0],
  [.int 0, .null, .null, .null, .null, .null, .null, .null],
  [.null, .null, .null, .null, .null, .null, .null, .null, .null, .null],
  [.int 0, .int 0, .int 0, .null, .null, .int 0, .null, .null, .null, .null, .int 0, .null, .null, .null, .null, .int 0, .int 0, .null, .null, .null, .int 0, .int 0, .int 0, .int 0, .int 0, .int 0, .int 0, .int 0, .null, .null, .null, .null, .int 0, .null, .null, .null, .null, .null, .null, .null, .null, .int 0, .int 0, .null, .null, .null, .int 0, .null, .null, .null, .int 0, .null, .null, .null, .null, .null, .null, .null, .null, .null, .null, .null, .null, .int 0, .null, .null, .null, .null, .null, .null, .null, .int 0, .null, .null, .null, .null, .null, .null]]
/-- static arrays, by their numbers: kind, contents -/
def mx_SAL : List (Nat × Nat × List Int) := [(0, 0, [1, 0, 1, 1, 1, 0]),
  (1, 0, [1, 0, 1, 0, 1, 0]),
  (2, 0, [300, 150, 240, 0, 480, 0]),
  (3, 0, [100, 50, 100, 100, 80, 100]),
  (4, 0, [-1, 0, 0, 0, 2, 3]),
  (5, 1, [119, 105, 110, 32, 51, 32, 59, 32, 100, 114, 97, 119, 32, 49, 32, 59, 32, 108, 105, 107, 101, 32, 103, 111, 97, 108, 115, 32, 42, 32, 49, 48, 48, 32, 43, 32, 109, 97, 100, 101, 32, 59, 32, 98, 97, 110, 32, 107, 105, 110, 100, 32, 61, 32, 50, 32, 111, 114, 32, 99, 97, 114, 100, 115, 32, 61, 32, 53, 32, 59]),
  (6, 3, [17024, 91904, 243059, 1499]),
  (7, 3, [4016404, 256721, 17186, 1627255, 223456, 237470]),
  (200, 1, [119, 105, 110, 32, 51, 32, 59, 32, 100, 114, 97, 119, 32, 49, 32, 59, 32, 108, 105, 107, 101, 32, 103, 111, 97, 108, 115, 32, 42, 32, 49, 48, 48, 32, 43, 32, 109, 97, 100, 101, 32, 59, 32, 98, 97, 110, 32, 107, 105, 110, 100, 32, 61, 32, 50, 32, 111, 114, 32, 99, 97, 114, 100, 115, 32, 61, 32, 53, 32, 59]),
  (201, 1, [103, 111, 97, 108, 115]),
  (202, 1, [109, 97, 100, 101]),
  (203, 1, [119, 111, 110]),
  (204, 1, [99, 97, 114, 100, 115]),
  (205, 1, [107, 105, 110, 100]),
  (206, 1, [108, 97, 116, 101]),
  (207, 1, [119, 105, 110]),
  (208, 1, [100, 114, 97, 119]),
  (209, 1, [108, 105, 107, 101]),
  (210, 1, [98, 97, 110]),
  (211, 1, [111, 114]),
  (212, 1, [97, 110, 100]),
  (213, 1, [110, 111, 116])]
end
section
/-! THE SMALL MACHINE: a method's frame is (pc, locals, stack, memory); the memory is a list of cells, a reference is a cell's place in it (from 1000 on: a thing that nobody writes). An instruction is (what, a, b, list). -/
abbrev mx_E : Type := (Nat × List Value) ⊕ (Nat × vp_A)
abbrev mx_M : Type := List mx_E
abbrev mx_L : Type := List (Nat × Value)
abbrev mx_C : Type := Nat × mx_L × List Value × mx_M
abbrev mx_I : Type := Nat × Nat × Nat × List Nat
abbrev mx_G : Type := Nat × (Nat → Nat) × (Nat → ClassId) × va_G
abbrev mx_S : Type := Nat → Option (Nat × vp_A)
def mx_nth {α : Type} : List α → Nat → Option α
  | [], _ => none
  | a :: _, 0 => some a
  | _ :: l, n + 1 => mx_nth l n
theorem mx_nth_eq {α : Type} : ∀ (l : List α) (n : Nat), mx_nth l n = l[n]?
  | [], n => by simp [mx_nth]
  | a :: l, 0 => by simp [mx_nth]
  | a :: l, n + 1 => by simp [mx_nth, mx_nth_eq l n]
def mx_lk (i : Nat) : mx_L → Option Value
  | [] => none
  | (j, v) :: l => bif Nat.beq j i then some v else mx_lk i l
theorem mx_lk_mem {i : Nat} {v : Value} : ∀ {l : mx_L}, mx_lk i l = some v → (i, v) ∈ l
  | [], h => by simp [mx_lk] at h
  | (j, w) :: l, h => by
    unfold mx_lk at h
    cases hb : Nat.beq j i with
    | true =>
      rw [hb] at h
      simp only [cond_true, Option.some.injEq] at h
      have := Nat.eq_of_beq_eq_true hb
      subst this; subst h
      exact List.mem_cons_self
    | false =>
      rw [hb] at h
      simp only [cond_false] at h
      exact List.mem_cons_of_mem _ (mx_lk_mem h)
def mx_sto (i : Nat) (v : Value) (lv : mx_L) : mx_L := (i, v) :: lv.filter (fun q => !(q.1 == i) && !(q.1 + 1 == i && q.2.category == 2))
def mx_sto2 (i : Nat) (v : Value) (lv : mx_L) : mx_L := (i, v) :: lv.filter (fun q => !(q.1 == i) && (!(q.1 == i + 1) && !(q.1 + 1 == i && q.2.category == 2)))
/-- a reference's address -/
def mx_ad (G : mx_G) (q : Nat) : Nat := if q < 1000 then G.1 + q else G.2.1 (q - 1000)
def mx_tr (G : mx_G) : Value → Value
  | .ref q => .ref (mx_ad G q)
  | v => v
def mx_tq (G : mx_G) (q : Nat × Value) : Nat × Value := (q.1, mx_tr G q.2)
def mx_tE (G : mx_G) : mx_E → va_E
  | .inl (ci, fs) => .inr (ci, fs.map (mx_tr G))
  | .inr (t, x) => .inl (G.2.2.1 t, x)
def mx_W (G : mx_G) (M : mx_M) : va_W := M.mapIdx fun k e => (G.1 + k, mx_tE G e)
def mx_A (G : mx_G) : Nat → Prop := fun q => G.1 ≤ q
theorem mx_tr_cat (G : mx_G) (v : Value) : (mx_tr G v).category = v.category := by cases v <;> rfl
theorem mx_ad_lt {G : mx_G} {q : Nat} (h : q < 1000) : mx_ad G q = G.1 + q := if_pos h
theorem mx_ad_ge {G : mx_G} {q : Nat} : mx_ad G (1000 + q) = G.2.1 q := by
  unfold mx_ad
  rw [if_neg (by omega), Nat.add_sub_cancel_left]
theorem mx_W_get {G : mx_G} {M : mx_M} {k : Nat} {e : mx_E} (h : M[k]? = some e) : (mx_W G M)[k]? = some (G.1 + k, mx_tE G e) := by
  simp [mx_W, List.getElem?_mapIdx, h]
theorem mx_W_of {G : mx_G} {M : mx_M} {k : Nat} {q : Nat × va_E} (h : (mx_W G M)[k]? = some q) : ∃ e, M[k]? = some e ∧ q = (G.1 + k, mx_tE G e) := by
  simp only [mx_W, List.getElem?_mapIdx] at h
  cases hm : M[k]? with
  | none => rw [hm] at h; cases h
  | some e => rw [hm] at h; exact ⟨e, rfl, (Option.some.inj h).symm⟩
theorem mx_W_set {G : mx_G} {M : mx_M} {k : Nat} {e : mx_E} : (mx_W G M).set k (G.1 + k, mx_tE G e) = mx_W G (M.set k e) := by
  apply List.ext_getElem?
  intro i
  simp only [mx_W, List.getElem?_set, List.getElem?_mapIdx, List.length_mapIdx]
  by_cases h : k = i
  · subst h
    by_cases h2 : k < M.length <;> simp [h2]
  · simp [h]
theorem mx_W_app {G : mx_G} {M : mx_M} {e : mx_E} : mx_W G (M ++ [e]) = mx_W G M ++ [(G.1 + M.length, mx_tE G e)] := by
  simp [mx_W, List.mapIdx_append]
theorem mx_W_D (G : mx_G) (M : mx_M) : va_D (mx_A G) (mx_W G M) := by
  refine ⟨fun i j p q hi hj h => ?_, fun k q hk => ?_⟩
  · obtain ⟨e1, -, rfl⟩ := mx_W_of hi
    obtain ⟨e2, -, rfl⟩ := mx_W_of hj
    have h : G.1 + i = G.1 + j := h
    omega
  · obtain ⟨e1, -, rfl⟩ := mx_W_of hk
    show G.1 ≤ G.1 + k
    omega
def mx_ty : Nat → FieldType
  | 0 => .int
  | 1 => .byte
  | 2 => .boolean
  | _ => .long
def mx_tys (G : mx_G) : List (ClassId × FieldType) := [(G.2.2.1 0, .int), (G.2.2.1 1, .byte), (G.2.2.1 2, .boolean), (G.2.2.1 3, .long)]
theorem mx_tys_at (G : mx_G) {t : Nat} (h : t < 4) : (mx_tys G)[t]? = some (G.2.2.1 t, mx_ty t) := by
  match t, h with
  | 0, _ => rfl
  | 1, _ => rfl
  | 2, _ => rfl
  | 3, _ => rfl
def mx_con (x : vp_A) (j : Nat) : Value := match x.2 with
  | .inl f => .int (f j)
  | .inr (.inl f) => .long (f j)
  | _ => .null
theorem mx_con_tr (G : mx_G) (x : vp_A) (j : Nat) : mx_tr G (mx_con x j) = mx_con x j := by
  obtain ⟨n, f | f | f | f | f⟩ := x <;> rfl
def mx_szE : mx_E → Nat
  | .inl (_, fs) => fs.length
  | .inr (_, x) => x.1
def mx_sz : mx_M → Nat
  | [] => 0
  | e :: M => mx_szE e + mx_sz M
theorem mx_sz_app (M : mx_M) (e : mx_E) : mx_sz (M ++ [e]) = mx_sz M + mx_szE e := by
  induction M with
  | nil => simp [mx_sz]
  | cons a M ih => simp only [List.cons_append, mx_sz, ih]; omega
theorem mx_sz_set : ∀ {M : mx_M} {k : Nat} {e e' : mx_E}, M[k]? = some e → mx_szE e' = mx_szE e → mx_sz (M.set k e') = mx_sz M
  | [], k, e, e', h, _ => by simp at h
  | a :: M, 0, e, e', h, hs => by
    simp at h
    subst h
    simp [mx_sz, hs]
  | a :: M, k + 1, e, e', h, hs => by
    simp at h
    simp only [List.set_cons_succ, mx_sz]
    rw [mx_sz_set h hs]
/-- static fields: class, name, descriptor, what it holds -/
abbrev mx_F : Type := String × String × String × Value
/-- what holds of all that nobody writes: the tables, static fields, static arrays, strings -/
def mx_Env (G : mx_G) (SA : mx_S) (SF : List mx_F) (SR : List (String × Nat × String)) (U : State) (H : Heap) : Prop :=
  va_K G.2.2.2 vwCl (mx_tys G) U ∧ (∀ w ∈ mx_NT, va_Nw w U) ∧
  (∀ (j t : Nat) (x : vp_A), SA j = some (t, x) → t < 4 ∧ va_T (mx_ty t) (G.2.1 j) x.1 (mx_con x) (mx_A G) U H) ∧
  (∀ q ∈ SF, va_Z q.1 q.2.1 q.2.2.1 (mx_tr G q.2.2.2) (mx_A G) U H) ∧
  ∀ (i : Nat) (q : String × Nat × String), SR[i]? = some q → vk_R q.1 q.2.1 q.2.2 (G.2.1 (100 + i)) U ∧ va_O "java/lang/String" (G.2.1 (100 + i)) (mx_A G) U H ∧ va_OF "java/lang/String" "coder" "B" (.int 0) (G.2.1 (100 + i)) (mx_A G) U H ∧ va_OF "java/lang/String" "value" "[B" (.ref (G.2.1 (200 + i))) (G.2.1 (100 + i)) (mx_A G) U H
theorem mx_nt_kept {w : Cond} (hw : w ∈ mx_NT) {s U : State} (hW : s.WarmedH U.vm) (h : va_Nw w s) : va_Nw w U := by
  have h2 := (List.mem_filter.mp hw).2
  cases w <;> first
    | exact va_Nw.warmF hW h
    | exact va_Nw.warmM hW h
    | cases h2
theorem mx_nt_same {w : Cond} (hw : w ∈ mx_NT) {s U : State} (hv : s.vm = U.vm) (h : va_Nw w s) : va_Nw w U := by
  have h2 := (List.mem_filter.mp hw).2
  cases w <;> first
    | exact va_Nw.same rfl hv h
    | cases h2
theorem mx_Env_kept {G : mx_G} {SA : mx_S} {SF : List mx_F} {SR : List (String × Nat × String)} {s U : State} {H1 : Heap} (h : mx_Env G SA SF SR s s.heap) (hW : s.WarmedH U.vm) (hq : ∀ a : Nat, a < s.heap.size → ¬ mx_A G a → H1[a]? = s.heap[a]?) : mx_Env G SA SF SR U H1 :=
  ⟨va_K.moved hW.alike h.1, fun w hw => mx_nt_kept hw hW (h.2.1 w hw), fun j t x hx => ⟨(h.2.2.1 j t x hx).1, ((h.2.2.1 j t x hx).2.kept hq).moved hW.alike⟩, fun q hx => ((h.2.2.2.1 q hx).kept hq).moved hW.alike,
    fun i q hx => ⟨vk_R.warm hW (h.2.2.2.2 i q hx).1, ((h.2.2.2.2 i q hx).2.1.kept hq).moved hW.alike, ((h.2.2.2.2 i q hx).2.2.1.kept hq).moved hW.alike, ((h.2.2.2.2 i q hx).2.2.2.kept hq).moved hW.alike⟩⟩
theorem mx_Env_same {G : mx_G} {SA : mx_S} {SF : List mx_F} {SR : List (String × Nat × String)} {s U : State} {H : Heap} (h : mx_Env G SA SF SR s H) (hv : s.vm = U.vm) : mx_Env G SA SF SR U H := by
  have ha : s.vm.Alike U.vm := by rw [hv]; exact Vm.Alike.refl _
  exact ⟨va_K.moved ha h.1, fun w hw => mx_nt_same hw hv (h.2.1 w hw), fun j t x hx => ⟨(h.2.2.1 j t x hx).1, (h.2.2.1 j t x hx).2.moved ha⟩, fun q hx => (h.2.2.2.1 q hx).moved ha,
    fun i q hx => ⟨vk_R.same hv.symm (h.2.2.2.2 i q hx).1, (h.2.2.2.2 i q hx).2.1.moved ha, (h.2.2.2.2 i q hx).2.2.1.moved ha, (h.2.2.2.2 i q hx).2.2.2.moved ha⟩⟩
end
section
/-! THE SMALL MACHINE: its instructions -/
def mx_push (v : Value) (n : Nat) (c : mx_C) : Option mx_C := some (c.1 + n, c.2.1, v :: c.2.2.1, c.2.2.2)
def mx_ldi (a n : Nat) (c : mx_C) : Option mx_C := match mx_lk a c.2.1 with
  | some (.int x) => some (c.1 + n, c.2.1, .int x :: c.2.2.1, c.2.2.2)
  | _ => none
def mx_ldl (a n : Nat) (c : mx_C) : Option mx_C := match mx_lk a c.2.1 with
  | some (.long x) => some (c.1 + n, c.2.1, .long x :: c.2.2.1, c.2.2.2)
  | _ => none
def mx_lda (a n : Nat) (c : mx_C) : Option mx_C := match mx_lk a c.2.1 with
  | some (.ref x) => some (c.1 + n, c.2.1, .ref x :: c.2.2.1, c.2.2.2)
  | _ => none
def mx_sti (a n : Nat) (c : mx_C) : Option mx_C := match c.2.2.1 with
  | .int x :: st => some (c.1 + n, mx_sto a (.int x) c.2.1, st, c.2.2.2)
  | _ => none
def mx_stl (a n : Nat) (c : mx_C) : Option mx_C := match c.2.2.1 with
  | .long x :: st => some (c.1 + n, mx_sto2 a (.long x) c.2.1, st, c.2.2.2)
  | _ => none
def mx_sta (a n : Nat) (c : mx_C) : Option mx_C := match c.2.2.1 with
  | .ref x :: st => some (c.1 + n, mx_sto a (.ref x) c.2.1, st, c.2.2.2)
  | _ => none
def mx_inc (a d : Nat) (c : mx_C) : Option mx_C := match mx_lk a c.2.1 with
  | some (.int x) => some (c.1 + 3, mx_sto a (.int (x + Int32.ofNat d)) c.2.1, c.2.2.1, c.2.2.2)
  | _ => none
def mx_ii (f : Int32 → Int32 → Option Value) (c : mx_C) : Option mx_C := match c.2.2.1 with
  | .int y :: .int x :: st => (match f x y with
    | some v => some (c.1 + 1, c.2.1, v :: st, c.2.2.2)
    | none => none)
  | _ => none
def mx_ll (f : Int64 → Int64 → Option Value) (c : mx_C) : Option mx_C := match c.2.2.1 with
  | .long y :: .long x :: st => (match f x y with
    | some v => some (c.1 + 1, c.2.1, v :: st, c.2.2.2)
    | none => none)
  | _ => none
def mx_li (f : Int64 → Int32 → Value) (c : mx_C) : Option mx_C := match c.2.2.1 with
  | .int y :: .long x :: st => some (c.1 + 1, c.2.1, f x y :: st, c.2.2.2)
  | _ => none
def mx_i1 (f : Int32 → Value) (c : mx_C) : Option mx_C := match c.2.2.1 with
  | .int x :: st => some (c.1 + 1, c.2.1, f x :: st, c.2.2.2)
  | _ => none
def mx_l1 (f : Int64 → Value) (c : mx_C) : Option mx_C := match c.2.2.1 with
  | .long x :: st => some (c.1 + 1, c.2.1, f x :: st, c.2.2.2)
  | _ => none
def mx_is2 : Value → Bool
  | .long _ => true
  | .double _ => true
  | _ => false
theorem mx_is2_cat {v : Value} (h : mx_is2 v = false) : v.category = 1 := by cases v <;> first | rfl | cases h
def mx_dup (c : mx_C) : Option mx_C := match c.2.2.1 with
  | v :: st => bif mx_is2 v then none else some (c.1 + 1, c.2.1, v :: v :: st, c.2.2.2)
  | _ => none
def mx_pop (c : mx_C) : Option mx_C := match c.2.2.1 with
  | v :: st => bif mx_is2 v then none else some (c.1 + 1, c.2.1, st, c.2.2.2)
  | _ => none
def mx_dup2 (c : mx_C) : Option mx_C := match c.2.2.1 with
  | v :: w :: st => bif mx_is2 v || mx_is2 w then none else some (c.1 + 1, c.2.1, v :: w :: v :: w :: st, c.2.2.2)
  | _ => none
def mx_if (p : Int32 → Bool) (t : Nat) (c : mx_C) : Option mx_C := match c.2.2.1 with
  | .int x :: st => some (bif p x then t else c.1 + 3, c.2.1, st, c.2.2.2)
  | _ => none
def mx_if2 (p : Int32 → Int32 → Bool) (t : Nat) (c : mx_C) : Option mx_C := match c.2.2.1 with
  | .int y :: .int x :: st => some (bif p x y then t else c.1 + 3, c.2.1, st, c.2.2.2)
  | _ => none
/-- a table switch's target -/
def mx_tsw (d : Nat) (lo : Int) (ts : List Nat) (x : Int) : Nat := match x - lo with
  | .ofNat k => (match mx_nth ts k with
    | some t => t
    | none => d)
  | .negSucc _ => d
/-- a lookup switch's target: keys and targets -/
def mx_lsw (d : Nat) (x : Int32) : List Nat → Nat
  | k :: t :: r => bif x == Int32.ofNat k then t else mx_lsw d x r
  | _ => d
def mx_sw (f : Int32 → Nat) (c : mx_C) : Option mx_C := match c.2.2.1 with
  | .int x :: st => some (f x, c.2.1, st, c.2.2.2)
  | _ => none
def mx_get (ci k : Nat) (c : mx_C) : Option mx_C := match c.2.2.1 with
  | .ref q :: st => (match mx_nth c.2.2.2 q with
    | some (.inl (cj, fs)) => bif Nat.beq cj ci then (match mx_nth fs k with
      | some v => some (c.1 + 3, c.2.1, v :: st, c.2.2.2)
      | none => none) else none
    | _ => none)
  | _ => none
/-- the fields of a string: its bytes, its coder -/
def mx_gstr (k N : Nat) (c : mx_C) : Option mx_C := match c.2.2.1 with
  | .ref q :: st => bif Nat.ble 1100 q && Nat.blt q (1100 + N) then some (c.1 + 3, c.2.1, (bif Nat.beq k 0 then .ref (q + 100) else .int 0) :: st, c.2.2.2) else none
  | _ => none
def mx_put (ci k : Nat) (c : mx_C) : Option mx_C := match c.2.2.1 with
  | .int v :: .ref q :: st => (match mx_nth c.2.2.2 q with
    | some (.inl (cj, fs)) => bif Nat.beq cj ci && Nat.blt k fs.length then some (c.1 + 3, c.2.1, st, c.2.2.2.set q (.inl (cj, fs.set k (.int v)))) else none
    | _ => none)
  | _ => none
def mx_putF (ci k : Nat) (c : mx_C) : Option mx_C := match c.2.2.1 with
  | .ref v :: .ref q :: st => (match mx_nth c.2.2.2 q with
    | some (.inl (cj, fs)) => bif Nat.beq cj ci && Nat.blt k fs.length then some (c.1 + 3, c.2.1, st, c.2.2.2.set q (.inl (cj, fs.set k (.ref v)))) else none
    | _ => none)
  | _ => none
/-- contents of an array's kind -/
def mx_kd (t : Nat) (x : vp_A) : Bool := match x.2 with
  | .inl _ => Nat.blt t 3
  | .inr (.inl _) => Nat.beq t 3
  | _ => false
/-- an array that can be read -/
def mx_ar (SA : mx_S) (M : mx_M) (q : Nat) : Option (Nat × vp_A) := bif Nat.ble 1000 q then SA (q - 1000) else match mx_nth M q with
  | some (.inr (t, x)) => bif mx_kd t x then some (t, x) else none
  | _ => none
def mx_alen (SA : mx_S) (c : mx_C) : Option mx_C := match c.2.2.1 with
  | .ref q :: st => (match mx_ar SA c.2.2.2 q with
    | some (_, x) => some (c.1 + 1, c.2.1, .int (Int32.ofNat x.1) :: st, c.2.2.2)
    | _ => none)
  | _ => none
def mx_inb (i : Int32) (n : Nat) : Bool := match i.toInt with
  | .ofNat k => Nat.blt k n
  | .negSucc _ => false
def mx_ald (SA : mx_S) (t : Nat) (c : mx_C) : Option mx_C := match c.2.2.1 with
  | .int i :: .ref q :: st => (match mx_ar SA c.2.2.2 q with
    | some (u, x) => bif Nat.beq u t && mx_inb i x.1 then some (c.1 + 1, c.2.1, mx_con x i.toNatClampNeg :: st, c.2.2.2) else none
    | _ => none)
  | _ => none
/-- what an array of ints, bytes, booleans holds of a number -/
def mx_nar (t : Nat) (v : Int32) : Int32 := match t with
  | 0 => v
  | 1 => vp_nar .byte v
  | _ => vp_nar .boolean v
def mx_ast (t : Nat) (c : mx_C) : Option mx_C := match c.2.2.1 with
  | .int v :: .int i :: .ref q :: st => (match mx_nth c.2.2.2 q with
    | some (.inr (u, n, .inl f)) => bif Nat.beq u t && mx_inb i n then some (c.1 + 1, c.2.1, st, c.2.2.2.set q (.inr (u, n, .inl (upd f i.toNatClampNeg (mx_nar t v))))) else none
    | _ => none)
  | _ => none
def mx_last (c : mx_C) : Option mx_C := match c.2.2.1 with
  | .long v :: .int i :: .ref q :: st => (match mx_nth c.2.2.2 q with
    | some (.inr (u, n, .inr (.inl f))) => bif Nat.beq u 3 && mx_inb i n then some (c.1 + 1, c.2.1, st, c.2.2.2.set q (.inr (u, n, .inr (.inl (vp_updL f i.toNatClampNeg v))))) else none
    | _ => none)
  | _ => none
def mx_new (ci : Nat) (fs : List Value) (c : mx_C) : Option mx_C := bif Nat.blt c.2.2.2.length 999 then some (c.1 + 3, c.2.1, .ref c.2.2.2.length :: c.2.2.1, c.2.2.2 ++ [.inl (ci, fs)]) else none
/-- a new array's cells -/
def mx_zero (t n : Nat) : vp_A := match t with
  | 3 => (n, .inr (.inl (fun _ => 0)))
  | _ => (n, .inl (fun _ => 0))
def mx_newa (t : Nat) (c : mx_C) : Option mx_C := match c.2.2.1 with
  | .int n :: st => bif mx_inb n 2000 && Nat.blt c.2.2.2.length 999 then some (c.1 + 2, c.2.1, .ref c.2.2.2.length :: st, c.2.2.2 ++ [.inr (t, mx_zero t n.toNatClampNeg)]) else none
  | _ => none
def mx_cat : List Value → Nat
  | [] => 0
  | v :: l => (bif mx_is2 v then 2 else 1) + mx_cat l
def mx_obj (c : mx_C) : Option mx_C := match c.2.2.1 with
  | .ref _ :: st => bif Nat.ble (mx_cat st) 8 then some (c.1 + 3, c.2.1, st, c.2.2.2) else none
  | _ => none
/-- an array of ints -/
def mx_ia (M : mx_M) (q : Nat) : Option (Nat × (Nat → Int32)) := match mx_nth M q with
  | some (.inr (t, n, .inl f)) => bif Nat.beq t 0 then some (n, f) else none
  | _ => none
def mx_copy (c : mx_C) : Option mx_C := match c.2.2.1 with
  | .int n :: .int dp :: .ref q1 :: .int sp :: .ref q0 :: st => (match mx_ia c.2.2.2 q0 with
    | some f => (match mx_ia c.2.2.2 q1 with
      | some g => bif mx_inb sp 2000 && (mx_inb dp 2000 && (mx_inb n 2000 && (Nat.ble (sp.toNatClampNeg + n.toNatClampNeg) f.1 && (Nat.ble (dp.toNatClampNeg + n.toNatClampNeg) g.1 && Nat.ble (mx_cat st) 8)))) then some (c.1 + 3, c.2.1, st, c.2.2.2.set q1 (.inr (0, g.1, .inl (va_cpy f.2 g.2 sp.toNatClampNeg dp.toNatClampNeg n.toNatClampNeg)))) else none
      | none => none)
    | none => none)
  | _ => none
def mx_div (x y : Int32) : Option Value := if y = 0 then none else some (.int (x / y))
def mx_rem (x y : Int32) : Option Value := if y = 0 then none else some (.int (x - x / y * y))
def mx_ldiv (x y : Int64) : Option Value := if y = 0 then none else some (.long (x / y))
/-- one instruction that is no call and no end -/
def mx_op (SA : mx_S) (SF : List mx_F) (DF : List (List Value)) (N : Nat) (i : mx_I) (c : mx_C) : Option mx_C := match i.1 with
  | 0 => mx_push (.int (Int32.ofNat i.2.1)) i.2.2.1 c
  | 1 => mx_push (.long (Int64.ofNat i.2.1)) i.2.2.1 c
  | 2 => mx_ldi i.2.1 i.2.2.1 c
  | 3 => mx_ldl i.2.1 i.2.2.1 c
  | 4 => mx_lda i.2.1 i.2.2.1 c
  | 5 => mx_sti i.2.1 i.2.2.1 c
  | 6 => mx_stl i.2.1 i.2.2.1 c
  | 7 => mx_sta i.2.1 i.2.2.1 c
  | 8 => mx_inc i.2.1 i.2.2.1 c
  | 9 => mx_ii (fun x y => some (.int (x + y))) c
  | 10 => mx_ii (fun x y => some (.int (x - y))) c
  | 11 => mx_ii (fun x y => some (.int (x * y))) c
  | 12 => mx_ii (fun x y => some (.int (x &&& y))) c
  | 13 => mx_ii (fun x y => some (.int (x ||| y))) c
  | 14 => mx_ii mx_div c
  | 15 => mx_ii mx_rem c
  | 16 => mx_i1 (fun x => .int (-x)) c
  | 17 => mx_ii (fun x y => some (.int (x <<< (y &&& 31)))) c
  | 18 => mx_ii (fun x y => some (.int (x >>> (y &&& 31)))) c
  | 19 => mx_ll (fun x y => some (.long (x + y))) c
  | 20 => mx_ll (fun x y => some (.long (x - y))) c
  | 21 => mx_ll (fun x y => some (.long (x * y))) c
  | 22 => mx_ll mx_ldiv c
  | 23 => mx_ll (fun x y => some (.long (x &&& y))) c
  | 24 => mx_ll (fun x y => some (.long (x ||| y))) c
  | 25 => mx_li (fun x y => .long (x <<< (y.toInt64 &&& 63))) c
  | 26 => mx_li (fun x y => .long (x >>> (y.toInt64 &&& 63))) c
  | 27 => mx_ll (fun x y => some (.int (lg_cmp x y))) c
  | 28 => mx_i1 (fun x => .long x.toInt64) c
  | 29 => mx_l1 (fun x => .int x.toInt32) c
  | 30 => mx_i1 (fun x => .int x.toInt8.toInt32) c
  | 31 => mx_i1 (fun x => .int x.toInt16.toInt32) c
  | 32 => mx_i1 (fun x => .int (x.toUInt32 % 65536).toInt32) c
  | 33 => mx_dup c
  | 34 => mx_pop c
  | 35 => mx_dup2 c
  | 36 => mx_if (fun x => decide (x = 0)) i.2.1 c
  | 37 => mx_if (fun x => !decide (x = 0)) i.2.1 c
  | 38 => mx_if (fun x => decide (x < 0)) i.2.1 c
  | 39 => mx_if (fun x => decide (0 ≤ x)) i.2.1 c
  | 40 => mx_if (fun x => decide (0 < x)) i.2.1 c
  | 41 => mx_if (fun x => decide (x ≤ 0)) i.2.1 c
  | 42 => mx_if2 (fun x y => decide (x = y)) i.2.1 c
  | 43 => mx_if2 (fun x y => !decide (x = y)) i.2.1 c
  | 44 => mx_if2 (fun x y => decide (x < y)) i.2.1 c
  | 45 => mx_if2 (fun x y => decide (y ≤ x)) i.2.1 c
  | 46 => mx_if2 (fun x y => decide (y < x)) i.2.1 c
  | 47 => mx_if2 (fun x y => decide (x ≤ y)) i.2.1 c
  | 48 => some (i.2.1, c.2.1, c.2.2.1, c.2.2.2)
  | 49 => mx_sw (fun x => mx_tsw i.2.1 (Int32.ofNat i.2.2.1).toInt i.2.2.2 x.toInt) c
  | 50 => mx_sw (fun x => mx_lsw i.2.1 x i.2.2.2) c
  | 51 => mx_get i.2.1 i.2.2.1 c
  | 52 => mx_gstr i.2.1 N c
  | 53 => mx_put i.2.1 i.2.2.1 c
  | 54 => mx_putF i.2.1 i.2.2.1 c
  | 55 => (match mx_nth SF i.2.1 with
    | some q => mx_push q.2.2.2 3 c
    | none => none)
  | 56 => bif Nat.blt i.2.1 N then mx_push (.ref (1100 + i.2.1)) 2 c else none
  | 57 => mx_alen SA c
  | 58 => mx_ald SA i.2.1 c
  | 59 => mx_ast i.2.1 c
  | 60 => mx_last c
  | 61 => (match mx_nth DF i.2.1 with
    | some fs => mx_new i.2.1 fs c
    | none => none)
  | 62 => mx_newa i.2.1 c
  | 63 => mx_obj c
  | 64 => mx_copy c
  | _ => none
end
section
/-! THE SMALL MACHINE'S INSTRUCTIONS ARE THE MACHINE'S -/
def mx_Ctx (bytes : ByteArray) (nL : Nat) (y : MethodName) (G : mx_G) (SA : mx_S) (p : Program) (R : Room) (s : State) (m : MethodId) (args : Array Value) (meth : Method) (c0 : Code) : Prop :=
  p.tables.exec = Jvm.exec ∧ c0.code = bytes ∧ c0.maxLocals = nL ∧ s.vm.findClass y.cls = some m.cls ∧ (∀ w ∈ mx_GT, w.before args s = true) ∧ (y.name = "<init>" → meth.name = "<init>") ∧ mx_Env G SA mx_SF mx_SR s s.heap ∧ G.1 ≤ s.heap.size ∧ 1 ≤ R.frames ∧ 40 ≤ R.locals
/-- from here the frame comes to its end -/
def mx_Go (nL : Nat) (G : mx_G) (p : Program) (l : Launch) (e : Env) (R : Room) (s : State) (m : MethodId) (args : Array Value) (below : List Frame) (meth : Method) (c0 : Code) (Q : State → Prop) (L0 S0 : Nat) (c : mx_C) : Prop :=
  ∀ (H : Heap) (locs : List Loc) (ls : Array Slot), c.2.2.2.length ≤ 1000 → H.size = G.1 + c.2.2.2.length → va_P G.2.2.2 vwCl (mx_W G c.2.2.2) H → va_S (mx_A G) s.heap H locs → lv_has ls nL (c.2.1.map (mx_tq G)) → W p l e R s m args below meth c0 H locs (c.2.2.2.length - L0) (mx_sz c.2.2.2 - S0) Q (F0 m c.1 ls (c.2.2.1.map (mx_tr G)))
def mx_Snd (bytes : ByteArray) (nL : Nat) (y : MethodName) (pc : Nat) (i : mx_I) : Prop :=
  ∀ (G : mx_G) (SA : mx_S) (p : Program) (l : Launch) (e : Env) (R : Room) (s : State) (m : MethodId) (args : Array Value) (below : List Frame) (meth : Method) (c0 : Code) (Q : State → Prop) (L0 S0 : Nat), mx_Ctx bytes nL y G SA p R s m args meth c0 →
    ∀ c c' : mx_C, c.1 = pc → L0 ≤ c.2.2.2.length → S0 ≤ mx_sz c.2.2.2 → c'.2.2.2.length ≤ R.cells + L0 → mx_sz c'.2.2.2 ≤ R.slots + S0 → mx_op SA mx_SF mx_DF 14 i c = some c' → mx_Go nL G p l e R s m args below meth c0 Q L0 S0 c' → mx_Go nL G p l e R s m args below meth c0 Q L0 S0 c
/-- a row that changes the top of the stack alone -/
def mx_Row (bytes : ByteArray) (pc pc' : Nat) (top top' : List Value) : Prop :=
  ∀ (p : Program) (l : Launch) (e : Env) (R : Room) (s : State) (m : MethodId) (args : Array Value) (below : List Frame) (meth : Method) (c0 : Code) (Q : State → Prop) (H : Heap) (locs : List Loc) (cells slots : Nat) (ls : Array Slot) (rest : List Value), p.tables.exec = Jvm.exec → c0.code = bytes →
    W p l e R s m args below meth c0 H locs cells slots Q (F0 m pc' ls (top' ++ rest)) → W p l e R s m args below meth c0 H locs cells slots Q (F0 m pc ls (top ++ rest))
theorem ms_plain {bytes : ByteArray} {nL : Nat} {y : MethodName} {pc : Nat} {i : mx_I}
    (h : ∀ (SA : mx_S) (c c' : mx_C), mx_op SA mx_SF mx_DF 14 i c = some c' → c.1 = pc → ∃ top top' rest : List Value, c.2.2.1 = top ++ rest ∧ c'.2.2.1 = top' ++ rest ∧ c'.2.1 = c.2.1 ∧ c'.2.2.2 = c.2.2.2 ∧ ∀ G : mx_G, mx_Row bytes pc c'.1 (top.map (mx_tr G)) (top'.map (mx_tr G))) : mx_Snd bytes nL y pc i := by
  intro G SA p l e R s m args below meth c0 Q L0 S0 K c c' hpc _ _ _ _ hop hgo H locs ls h1 h2 hP hS hv
  obtain ⟨top, top', rest, e1, e2, e3, e4, row⟩ := h SA c c' hop hpc
  rw [hpc, e1, List.map_append]
  refine row G p l e R s m args below meth c0 Q H locs _ _ ls _ K.1 K.2.1 ?_
  have g := hgo H locs ls
  rw [e2, e3, e4, List.map_append] at g
  exact g h1 h2 hP hS hv
section MSV
variable {bytes : ByteArray} {nL : Nat} {y : MethodName} {pc : Nat}
/-- a push -/
theorem ms_push {i : mx_I} {v : Value} {n : Nat} (hi : ∀ (SA : mx_S) (c : mx_C), mx_op SA mx_SF mx_DF 14 i c = mx_push v n c) (row : ∀ G : mx_G, mx_Row bytes pc (pc + n) [] [mx_tr G v]) : mx_Snd bytes nL y pc i := by
  refine ms_plain fun SA c c' hop hpc => ⟨[], [v], c.2.2.1, rfl, ?_, ?_, ?_, fun G => ?_⟩ <;> (rw [hi] at hop; have h := Option.some.inj hop; subst h)
  · rfl
  · rfl
  · rfl
  · subst hpc
    exact row G
theorem ms_iconst {a : Nat} {L : List Nat} {n : Int} (hd : decode bytes pc = .ok (.iconst n, 1)) (hv : Int32.ofInt n = Int32.ofNat a) : mx_Snd bytes nL y pc (0, a, 1, L) :=
  ms_push (v := .int (Int32.ofNat a)) (n := 1) (fun _ _ => rfl) fun _ _ _ _ _ _ _ _ _ _ _ _ _ _ _ _ _ _ hx hb k => lv_iconst hx hb hd hv k
theorem ms_bipush {a : Nat} {L : List Nat} {n : Int} (hd : decode bytes pc = .ok (.bipush n, 2)) (hv : (Int8.ofInt n).toInt32 = Int32.ofNat a) : mx_Snd bytes nL y pc (0, a, 2, L) :=
  ms_push (v := .int (Int32.ofNat a)) (n := 2) (fun _ _ => rfl) fun _ _ _ _ _ _ _ _ _ _ _ _ _ _ _ _ _ _ hx hb k => lv_bipush hx hb hd hv k
theorem ms_sipush {a : Nat} {L : List Nat} {n : Int} (hd : decode bytes pc = .ok (.sipush n, 3)) (hv : (Int16.ofInt n).toInt32 = Int32.ofNat a) : mx_Snd bytes nL y pc (0, a, 3, L) :=
  ms_push (v := .int (Int32.ofNat a)) (n := 3) (fun _ _ => rfl) fun _ _ _ _ _ _ _ _ _ _ _ _ _ _ _ _ _ _ hx hb k => lv_sipush hx hb hd hv k
theorem ms_lconst {a : Nat} {L : List Nat} {n : Fin 2} (hd : decode bytes pc = .ok (.lconst n, 1)) (hv : Int64.ofNat (n : Nat) = Int64.ofNat a) : mx_Snd bytes nL y pc (1, a, 1, L) :=
  ms_push (v := .long (Int64.ofNat a)) (n := 1) (fun _ _ => rfl) fun _ _ _ _ _ _ _ _ _ _ _ _ _ _ _ _ _ _ hx hb k => lv_lconst hx hb hd hv k
/-- a constant of the pool -/
theorem ms_pool {i : mx_I} {v : Value} {n : Nat} (hi : ∀ (SA : mx_S) (c : mx_C), mx_op SA mx_SF mx_DF 14 i c = mx_push v n c) (hv : ∀ G : mx_G, mx_tr G v = v)
    (row : ∀ (p : Program) (l : Launch) (e : Env) (R : Room) (s : State) (m : MethodId) (args : Array Value) (below : List Frame) (meth : Method) (c0 : Code) (Q : State → Prop) (H : Heap) (locs : List Loc) (cells slots : Nat) (ls : Array Slot) (rest : List Value), p.tables.exec = Jvm.exec → c0.code = bytes → s.vm.findClass y.cls = some m.cls → (∀ w ∈ mx_GT, w.before args s = true) →
      W p l e R s m args below meth c0 H locs cells slots Q (F0 m (pc + n) ls (v :: rest)) → W p l e R s m args below meth c0 H locs cells slots Q (F0 m pc ls rest)) : mx_Snd bytes nL y pc i := by
  intro G SA p l e R s m args below meth c0 Q L0 S0 K c c' hpc _ _ _ _ hop hgo H locs ls h1 h2 hP hS hl
  rw [hi] at hop
  have h := Option.some.inj hop
  subst h
  rw [hpc]
  refine row p l e R s m args below meth c0 Q H locs _ _ ls _ K.1 K.2.1 K.2.2.2.1 K.2.2.2.2.1 ?_
  have g := hgo H locs ls h1 h2 hP hS hl
  rw [← hpc, ← hv G]
  exact g
theorem ms_ldc {a : Nat} {L : List Nat} {idx : Nat} (w : Nat) (hd : decode bytes pc = .ok (.ldc idx, 2)) (hw : lw_tbl[w]? = some (.constant y.cls idx (Int32.ofNat a))) : mx_Snd bytes nL y pc (0, a, 2, L) :=
  ms_pool (v := .int (Int32.ofNat a)) (n := 2) (fun _ _ => rfl) (fun _ => rfl) fun _ _ _ _ _ _ _ _ _ _ _ _ _ _ _ _ _ hx hb ho ht k => lv_ldc hx hb ho (ht _ (mx_gt w hw rfl)) hd k
theorem ms_ldcw {a : Nat} {L : List Nat} {idx : Nat} (w : Nat) (hd : decode bytes pc = .ok (.ldc_w idx, 3)) (hw : lw_tbl[w]? = some (.constant y.cls idx (Int32.ofNat a))) : mx_Snd bytes nL y pc (0, a, 3, L) :=
  ms_pool (v := .int (Int32.ofNat a)) (n := 3) (fun _ _ => rfl) (fun _ => rfl) fun _ _ _ _ _ _ _ _ _ _ _ _ _ _ _ _ _ hx hb ho ht k => lv_ldcw hx hb ho (ht _ (mx_gt w hw rfl)) hd k
theorem ms_ldc2 {a : Nat} {L : List Nat} {idx : Nat} (w : Nat) (hd : decode bytes pc = .ok (.ldc2_w idx, 3)) (hw : lw_tbl[w]? = some (.constantLong y.cls idx (Int64.ofNat a))) : mx_Snd bytes nL y pc (1, a, 3, L) :=
  ms_pool (v := .long (Int64.ofNat a)) (n := 3) (fun _ _ => rfl) (fun _ => rfl) fun _ _ _ _ _ _ _ _ _ _ _ _ _ _ _ _ _ hx hb ho ht k => lv_ldc2 hx hb ho (ht _ (mx_gt w hw rfl)) hd k
/-- loads -/
theorem ms_load {i : mx_I} {a n : Nat} (ty : Value → Prop) (hi : ∀ (SA : mx_S) (c c' : mx_C), mx_op SA mx_SF mx_DF 14 i c = some c' → ∃ v, ty v ∧ mx_lk a c.2.1 = some v ∧ c' = (c.1 + n, c.2.1, v :: c.2.2.1, c.2.2.2))
    (row : ∀ (G : mx_G) (v : Value), ty v → ∀ (p : Program) (l : Launch) (e : Env) (R : Room) (s : State) (m : MethodId) (args : Array Value) (below : List Frame) (meth : Method) (c0 : Code) (Q : State → Prop) (H : Heap) (locs : List Loc) (cells slots : Nat) (ls : Array Slot) (rest : List Value), p.tables.exec = Jvm.exec → c0.code = bytes → ls[a]? = some (.val (mx_tr G v)) →
      W p l e R s m args below meth c0 H locs cells slots Q (F0 m (pc + n) ls (mx_tr G v :: rest)) → W p l e R s m args below meth c0 H locs cells slots Q (F0 m pc ls rest)) : mx_Snd bytes nL y pc i := by
  intro G SA p l e R s m args below meth c0 Q L0 S0 K c c' hpc _ _ _ _ hop hgo H locs ls h1 h2 hP hS hl
  obtain ⟨v, hty, hlk, rfl⟩ := hi SA c c' hop
  rw [hpc]
  refine row G v hty p l e R s m args below meth c0 Q H locs _ _ ls _ K.1 K.2.1 (hl.2.2 (a, mx_tr G v) (List.mem_map.mpr ⟨(a, v), mx_lk_mem hlk, rfl⟩)) ?_
  rw [← hpc]
  exact hgo H locs ls h1 h2 hP hS hl
def mx_isI (v : Value) : Prop := ∃ x, v = .int x
def mx_isL (v : Value) : Prop := ∃ x, v = .long x
def mx_isA (v : Value) : Prop := ∃ x, v = .ref x
theorem mx_ldi_inv {a n : Nat} {c c' : mx_C} (h : mx_ldi a n c = some c') : ∃ v, mx_isI v ∧ mx_lk a c.2.1 = some v ∧ c' = (c.1 + n, c.2.1, v :: c.2.2.1, c.2.2.2) := by
  unfold mx_ldi at h
  split at h
  · next x hx => exact ⟨_, ⟨x, rfl⟩, hx, (Option.some.inj h).symm⟩
  · cases h
theorem mx_ldl_inv {a n : Nat} {c c' : mx_C} (h : mx_ldl a n c = some c') : ∃ v, mx_isL v ∧ mx_lk a c.2.1 = some v ∧ c' = (c.1 + n, c.2.1, v :: c.2.2.1, c.2.2.2) := by
  unfold mx_ldl at h
  split at h
  · next x hx => exact ⟨_, ⟨x, rfl⟩, hx, (Option.some.inj h).symm⟩
  · cases h
theorem mx_lda_inv {a n : Nat} {c c' : mx_C} (h : mx_lda a n c = some c') : ∃ v, mx_isA v ∧ mx_lk a c.2.1 = some v ∧ c' = (c.1 + n, c.2.1, v :: c.2.2.1, c.2.2.2) := by
  unfold mx_lda at h
  split at h
  · next x hx => exact ⟨_, ⟨x, rfl⟩, hx, (Option.some.inj h).symm⟩
  · cases h
theorem ms_iload_n {a : Nat} {L : List Nat} {k : Fin 4} (hd : decode bytes pc = .ok (.iload_n k, 1)) (hk : (k : Nat) = a) : mx_Snd bytes nL y pc (2, a, 1, L) :=
  ms_load mx_isI (fun _ _ _ h => mx_ldi_inv h) fun G v hv p l e R s m args below meth c0 Q H locs cells slots ls rest hx hb hl kk => by
    obtain ⟨x, rfl⟩ := hv
    exact lv_iload_n hx hb hd hk hl kk
theorem ms_iload {a : Nat} {L : List Nat} (hd : decode bytes pc = .ok (.iload a, 2)) : mx_Snd bytes nL y pc (2, a, 2, L) :=
  ms_load mx_isI (fun _ _ _ h => mx_ldi_inv h) fun G v hv p l e R s m args below meth c0 Q H locs cells slots ls rest hx hb hl kk => by
    obtain ⟨x, rfl⟩ := hv
    exact lv_iload hx hb hd hl kk
theorem ms_lload_n {a : Nat} {L : List Nat} {k : Fin 4} (hd : decode bytes pc = .ok (.lload_n k, 1)) (hk : (k : Nat) = a) : mx_Snd bytes nL y pc (3, a, 1, L) :=
  ms_load mx_isL (fun _ _ _ h => mx_ldl_inv h) fun G v hv p l e R s m args below meth c0 Q H locs cells slots ls rest hx hb hl kk => by
    obtain ⟨x, rfl⟩ := hv
    exact lv_lload_n hx hb hd hk hl kk
theorem ms_lload {a : Nat} {L : List Nat} (hd : decode bytes pc = .ok (.lload a, 2)) : mx_Snd bytes nL y pc (3, a, 2, L) :=
  ms_load mx_isL (fun _ _ _ h => mx_ldl_inv h) fun G v hv p l e R s m args below meth c0 Q H locs cells slots ls rest hx hb hl kk => by
    obtain ⟨x, rfl⟩ := hv
    exact lv_lload hx hb hd hl kk
theorem ms_aload_n {a : Nat} {L : List Nat} {k : Fin 4} (hd : decode bytes pc = .ok (.aload_n k, 1)) (hk : (k : Nat) = a) : mx_Snd bytes nL y pc (4, a, 1, L) :=
  ms_load mx_isA (fun _ _ _ h => mx_lda_inv h) fun G v hv p l e R s m args below meth c0 Q H locs cells slots ls rest hx hb hl kk => by
    obtain ⟨x, rfl⟩ := hv
    exact lv_aload_n hx hb hd hk hl kk
theorem ms_aload {a : Nat} {L : List Nat} (hd : decode bytes pc = .ok (.aload a, 2)) : mx_Snd bytes nL y pc (4, a, 2, L) :=
  ms_load mx_isA (fun _ _ _ h => mx_lda_inv h) fun G v hv p l e R s m args below meth c0 Q H locs cells slots ls rest hx hb hl kk => by
    obtain ⟨x, rfl⟩ := hv
    exact lv_aload hx hb hd hl kk
/-- stores -/
theorem mx_sto_tr (G : mx_G) (i : Nat) (v : Value) (lv : mx_L) : (mx_sto i v lv).map (mx_tq G) = (i, mx_tr G v) :: (lv.map (mx_tq G)).filter (fun q => !(q.1 == i) && !(q.1 + 1 == i && q.2.category == 2)) := by
  unfold mx_sto
  rw [List.map_cons, List.filter_map]
  have : ((fun q : Nat × Value => !(q.1 == i) && !(q.1 + 1 == i && q.2.category == 2)) ∘ mx_tq G) = (fun q : Nat × Value => !(q.1 == i) && !(q.1 + 1 == i && q.2.category == 2)) := by
    funext q
    simp only [Function.comp, mx_tq, mx_tr_cat]
  rw [this]
  rfl
theorem mx_sto2_tr (G : mx_G) (i : Nat) (v : Value) (lv : mx_L) : (mx_sto2 i v lv).map (mx_tq G) = (i, mx_tr G v) :: (lv.map (mx_tq G)).filter (fun q => !(q.1 == i) && (!(q.1 == i + 1) && !(q.1 + 1 == i && q.2.category == 2))) := by
  unfold mx_sto2
  rw [List.map_cons, List.filter_map]
  have : ((fun q : Nat × Value => !(q.1 == i) && (!(q.1 == i + 1) && !(q.1 + 1 == i && q.2.category == 2))) ∘ mx_tq G) = (fun q : Nat × Value => !(q.1 == i) && (!(q.1 == i + 1) && !(q.1 + 1 == i && q.2.category == 2))) := by
    funext q
    simp only [Function.comp, mx_tq, mx_tr_cat]
  rw [this]
  rfl
theorem ms_store {i : mx_I} {n : Nat} (ty : Value → Prop) (f : Value → mx_L → mx_L) (hi : ∀ (SA : mx_S) (c c' : mx_C), mx_op SA mx_SF mx_DF 14 i c = some c' → ∃ v st, ty v ∧ c.2.2.1 = v :: st ∧ c' = (c.1 + n, f v c.2.1, st, c.2.2.2))
    (row : ∀ (G : mx_G) (v : Value) (lv : mx_L), ty v → ∀ (p : Program) (l : Launch) (e : Env) (R : Room) (s : State) (m : MethodId) (args : Array Value) (below : List Frame) (meth : Method) (c0 : Code) (Q : State → Prop) (H : Heap) (locs : List Loc) (cells slots : Nat) (ls : Array Slot) (rest : List Value), p.tables.exec = Jvm.exec → c0.code = bytes → lv_has ls nL (lv.map (mx_tq G)) →
      (∀ ls' : Array Slot, lv_has ls' nL ((f v lv).map (mx_tq G)) → W p l e R s m args below meth c0 H locs cells slots Q (F0 m (pc + n) ls' rest)) → W p l e R s m args below meth c0 H locs cells slots Q (F0 m pc ls (mx_tr G v :: rest))) : mx_Snd bytes nL y pc i := by
  intro G SA p l e R s m args below meth c0 Q L0 S0 K c c' hpc _ _ _ _ hop hgo H locs ls h1 h2 hP hS hl
  obtain ⟨v, st, hty, hst, rfl⟩ := hi SA c c' hop
  rw [hpc, hst]
  refine row G v c.2.1 hty p l e R s m args below meth c0 Q H locs _ _ ls _ K.1 K.2.1 hl fun ls' hl' => ?_
  rw [← hpc]
  exact hgo H locs ls' h1 h2 hP hS hl'
theorem mx_sti_inv {a n : Nat} {c c' : mx_C} (h : mx_sti a n c = some c') : ∃ v st, mx_isI v ∧ c.2.2.1 = v :: st ∧ c' = (c.1 + n, mx_sto a v c.2.1, st, c.2.2.2) := by
  unfold mx_sti at h
  split at h
  · next x st hx => exact ⟨_, st, ⟨x, rfl⟩, hx, (Option.some.inj h).symm⟩
  · cases h
theorem mx_stl_inv {a n : Nat} {c c' : mx_C} (h : mx_stl a n c = some c') : ∃ v st, mx_isL v ∧ c.2.2.1 = v :: st ∧ c' = (c.1 + n, mx_sto2 a v c.2.1, st, c.2.2.2) := by
  unfold mx_stl at h
  split at h
  · next x st hx => exact ⟨_, st, ⟨x, rfl⟩, hx, (Option.some.inj h).symm⟩
  · cases h
theorem mx_sta_inv {a n : Nat} {c c' : mx_C} (h : mx_sta a n c = some c') : ∃ v st, mx_isA v ∧ c.2.2.1 = v :: st ∧ c' = (c.1 + n, mx_sto a v c.2.1, st, c.2.2.2) := by
  unfold mx_sta at h
  split at h
  · next x st hx => exact ⟨_, st, ⟨x, rfl⟩, hx, (Option.some.inj h).symm⟩
  · cases h
theorem ms_istore_n {a : Nat} {L : List Nat} {k : Fin 4} (hd : decode bytes pc = .ok (.istore_n k, 1)) (hk : (k : Nat) = a) (hn : a < nL) : mx_Snd bytes nL y pc (5, a, 1, L) :=
  ms_store mx_isI (fun v lv => mx_sto a v lv) (fun _ _ _ h => mx_sti_inv h) fun G v lv hv p l e R s m args below meth c0 Q H locs cells slots ls rest hx hb hl kk => by
    obtain ⟨x, rfl⟩ := hv
    exact lv_istore_n hx hb hd hk hl hn (mx_sto_tr G a (.int x) lv).symm kk
theorem ms_istore {a : Nat} {L : List Nat} (hd : decode bytes pc = .ok (.istore a, 2)) (hn : a < nL) : mx_Snd bytes nL y pc (5, a, 2, L) :=
  ms_store mx_isI (fun v lv => mx_sto a v lv) (fun _ _ _ h => mx_sti_inv h) fun G v lv hv p l e R s m args below meth c0 Q H locs cells slots ls rest hx hb hl kk => by
    obtain ⟨x, rfl⟩ := hv
    exact lv_istore hx hb hd hl hn (mx_sto_tr G a (.int x) lv).symm kk
theorem ms_lstore_n {a : Nat} {L : List Nat} {k : Fin 4} (hd : decode bytes pc = .ok (.lstore_n k, 1)) (hk : (k : Nat) = a) (hn : a + 1 < nL) : mx_Snd bytes nL y pc (6, a, 1, L) :=
  ms_store mx_isL (fun v lv => mx_sto2 a v lv) (fun _ _ _ h => mx_stl_inv h) fun G v lv hv p l e R s m args below meth c0 Q H locs cells slots ls rest hx hb hl kk => by
    obtain ⟨x, rfl⟩ := hv
    exact lv_lstore_n hx hb hd hk hl hn (mx_sto2_tr G a (.long x) lv).symm kk
theorem ms_lstore {a : Nat} {L : List Nat} (hd : decode bytes pc = .ok (.lstore a, 2)) (hn : a + 1 < nL) : mx_Snd bytes nL y pc (6, a, 2, L) :=
  ms_store mx_isL (fun v lv => mx_sto2 a v lv) (fun _ _ _ h => mx_stl_inv h) fun G v lv hv p l e R s m args below meth c0 Q H locs cells slots ls rest hx hb hl kk => by
    obtain ⟨x, rfl⟩ := hv
    exact lv_lstore hx hb hd hl hn (mx_sto2_tr G a (.long x) lv).symm kk
theorem ms_astore_n {a : Nat} {L : List Nat} {k : Fin 4} (hd : decode bytes pc = .ok (.astore_n k, 1)) (hk : (k : Nat) = a) (hn : a < nL) : mx_Snd bytes nL y pc (7, a, 1, L) :=
  ms_store mx_isA (fun v lv => mx_sto a v lv) (fun _ _ _ h => mx_sta_inv h) fun G v lv hv p l e R s m args below meth c0 Q H locs cells slots ls rest hx hb hl kk => by
    obtain ⟨x, rfl⟩ := hv
    exact lv_astore_n hx hb hd hk hl hn (mx_sto_tr G a (.ref x) lv).symm kk
theorem ms_iinc {a d : Nat} {L : List Nat} {n : Int} (hd : decode bytes pc = .ok (.iinc a n, 3)) (hv : Int32.ofInt n = Int32.ofNat d) (hn : a < nL) : mx_Snd bytes nL y pc (8, a, d, L) := by
  intro G SA p l e R s m args below meth c0 Q L0 S0 K c c' hpc _ _ _ _ hop hgo H locs ls h1 h2 hP hS hl
  have hop : mx_inc a d c = some c' := hop
  unfold mx_inc at hop
  split at hop
  · next x hx =>
    have h := Option.some.inj hop
    subst h
    rw [hpc]
    obtain ⟨k, hk⟩ := List.getElem?_of_mem (List.mem_map.mpr ⟨(a, Value.int x), mx_lk_mem hx, rfl⟩ : mx_tq G (a, Value.int x) ∈ c.2.1.map (mx_tq G))
    refine lv_iinc (v := x + Int32.ofNat d) K.1 K.2.1 hd hl hk (by rw [hv]) hn (mx_sto_tr G a (.int (x + Int32.ofNat d)) c.2.1).symm fun ls' hl' => ?_
    rw [← hpc]
    exact hgo H locs ls' h1 h2 hP hS hl'
  · cases hop
/-- arithmetic -/
theorem mx_ii_inv {f : Int32 → Int32 → Option Value} {c c' : mx_C} (h : mx_ii f c = some c') : ∃ x y v st, c.2.2.1 = .int y :: .int x :: st ∧ f x y = some v ∧ c' = (c.1 + 1, c.2.1, v :: st, c.2.2.2) := by
  unfold mx_ii at h
  split at h
  · next y x st hst =>
    split at h
    · next v hv => exact ⟨x, y, v, st, hst, hv, (Option.some.inj h).symm⟩
    · cases h
  · cases h
theorem mx_ll_inv {f : Int64 → Int64 → Option Value} {c c' : mx_C} (h : mx_ll f c = some c') : ∃ x y v st, c.2.2.1 = .long y :: .long x :: st ∧ f x y = some v ∧ c' = (c.1 + 1, c.2.1, v :: st, c.2.2.2) := by
  unfold mx_ll at h
  split at h
  · next y x st hst =>
    split at h
    · next v hv => exact ⟨x, y, v, st, hst, hv, (Option.some.inj h).symm⟩
    · cases h
  · cases h
theorem mx_li_inv {f : Int64 → Int32 → Value} {c c' : mx_C} (h : mx_li f c = some c') : ∃ x y st, c.2.2.1 = .int y :: .long x :: st ∧ c' = (c.1 + 1, c.2.1, f x y :: st, c.2.2.2) := by
  unfold mx_li at h
  split at h
  · next y x st hst => exact ⟨x, y, st, hst, (Option.some.inj h).symm⟩
  · cases h
theorem mx_i1_inv {f : Int32 → Value} {c c' : mx_C} (h : mx_i1 f c = some c') : ∃ x st, c.2.2.1 = .int x :: st ∧ c' = (c.1 + 1, c.2.1, f x :: st, c.2.2.2) := by
  unfold mx_i1 at h
  split at h
  · next x st hst => exact ⟨x, st, hst, (Option.some.inj h).symm⟩
  · cases h
theorem mx_l1_inv {f : Int64 → Value} {c c' : mx_C} (h : mx_l1 f c = some c') : ∃ x st, c.2.2.1 = .long x :: st ∧ c' = (c.1 + 1, c.2.1, f x :: st, c.2.2.2) := by
  unfold mx_l1 at h
  split at h
  · next x st hst => exact ⟨x, st, hst, (Option.some.inj h).symm⟩
  · cases h
theorem ms_ii {i : mx_I} {f : Int32 → Int32 → Option Value} (hi : ∀ (SA : mx_S) (c : mx_C), mx_op SA mx_SF mx_DF 14 i c = mx_ii f c) (hf : ∀ x y v, f x y = some v → ∀ G : mx_G, mx_tr G v = v) (row : ∀ x y v, f x y = some v → mx_Row bytes pc (pc + 1) [.int y, .int x] [v]) : mx_Snd bytes nL y pc i :=
  ms_plain fun SA c c' hop hpc => by
    rw [hi] at hop
    obtain ⟨x, y, v, st, e1, e2, rfl⟩ := mx_ii_inv hop
    refine ⟨[.int y, .int x], [v], st, e1, rfl, rfl, rfl, fun G => ?_⟩
    show mx_Row bytes pc (c.1 + 1) [.int y, .int x] [mx_tr G v]
    rw [hpc, hf x y v e2 G]
    exact row x y v e2
theorem ms_ll {i : mx_I} {f : Int64 → Int64 → Option Value} (hi : ∀ (SA : mx_S) (c : mx_C), mx_op SA mx_SF mx_DF 14 i c = mx_ll f c) (hf : ∀ x y v, f x y = some v → ∀ G : mx_G, mx_tr G v = v) (row : ∀ x y v, f x y = some v → mx_Row bytes pc (pc + 1) [.long y, .long x] [v]) : mx_Snd bytes nL y pc i :=
  ms_plain fun SA c c' hop hpc => by
    rw [hi] at hop
    obtain ⟨x, y, v, st, e1, e2, rfl⟩ := mx_ll_inv hop
    refine ⟨[.long y, .long x], [v], st, e1, rfl, rfl, rfl, fun G => ?_⟩
    show mx_Row bytes pc (c.1 + 1) [.long y, .long x] [mx_tr G v]
    rw [hpc, hf x y v e2 G]
    exact row x y v e2
theorem ms_li {i : mx_I} {f : Int64 → Int32 → Value} (hi : ∀ (SA : mx_S) (c : mx_C), mx_op SA mx_SF mx_DF 14 i c = mx_li f c) (hf : ∀ x y, ∀ G : mx_G, mx_tr G (f x y) = f x y) (row : ∀ x y, mx_Row bytes pc (pc + 1) [.int y, .long x] [f x y]) : mx_Snd bytes nL y pc i :=
  ms_plain fun SA c c' hop hpc => by
    rw [hi] at hop
    obtain ⟨x, y, st, e1, rfl⟩ := mx_li_inv hop
    refine ⟨[.int y, .long x], [f x y], st, e1, rfl, rfl, rfl, fun G => ?_⟩
    show mx_Row bytes pc (c.1 + 1) [.int y, .long x] [mx_tr G (f x y)]
    rw [hpc, hf x y G]
    exact row x y
theorem ms_i1 {i : mx_I} {f : Int32 → Value} (hi : ∀ (SA : mx_S) (c : mx_C), mx_op SA mx_SF mx_DF 14 i c = mx_i1 f c) (hf : ∀ x, ∀ G : mx_G, mx_tr G (f x) = f x) (row : ∀ x, mx_Row bytes pc (pc + 1) [.int x] [f x]) : mx_Snd bytes nL y pc i :=
  ms_plain fun SA c c' hop hpc => by
    rw [hi] at hop
    obtain ⟨x, st, e1, rfl⟩ := mx_i1_inv hop
    refine ⟨[.int x], [f x], st, e1, rfl, rfl, rfl, fun G => ?_⟩
    show mx_Row bytes pc (c.1 + 1) [.int x] [mx_tr G (f x)]
    rw [hpc, hf x G]
    exact row x
theorem ms_l1 {i : mx_I} {f : Int64 → Value} (hi : ∀ (SA : mx_S) (c : mx_C), mx_op SA mx_SF mx_DF 14 i c = mx_l1 f c) (hf : ∀ x, ∀ G : mx_G, mx_tr G (f x) = f x) (row : ∀ x, mx_Row bytes pc (pc + 1) [.long x] [f x]) : mx_Snd bytes nL y pc i :=
  ms_plain fun SA c c' hop hpc => by
    rw [hi] at hop
    obtain ⟨x, st, e1, rfl⟩ := mx_l1_inv hop
    refine ⟨[.long x], [f x], st, e1, rfl, rfl, rfl, fun G => ?_⟩
    show mx_Row bytes pc (c.1 + 1) [.long x] [mx_tr G (f x)]
    rw [hpc, hf x G]
    exact row x
end MSV
end
section
section MSW
variable {bytes : ByteArray} {nL : Nat} {y : MethodName} {pc a b : Nat} {L : List Nat}
theorem ms_iadd (hd : decode bytes pc = .ok (.iadd, 1)) : mx_Snd bytes nL y pc (9, a, b, L) :=
  ms_ii (f := fun x y => some (.int (x + y))) (fun _ _ => rfl) (fun _ _ _ h _ => by cases h; rfl) fun _ _ _ h _ _ _ _ _ _ _ _ _ _ _ _ _ _ _ _ _ hx hb k => by cases h; exact lv_iadd hx hb hd k
theorem ms_isub (hd : decode bytes pc = .ok (.isub, 1)) : mx_Snd bytes nL y pc (10, a, b, L) :=
  ms_ii (f := fun x y => some (.int (x - y))) (fun _ _ => rfl) (fun _ _ _ h _ => by cases h; rfl) fun _ _ _ h _ _ _ _ _ _ _ _ _ _ _ _ _ _ _ _ _ hx hb k => by cases h; exact lv_isub hx hb hd k
theorem ms_imul (hd : decode bytes pc = .ok (.imul, 1)) : mx_Snd bytes nL y pc (11, a, b, L) :=
  ms_ii (f := fun x y => some (.int (x * y))) (fun _ _ => rfl) (fun _ _ _ h _ => by cases h; rfl) fun _ _ _ h _ _ _ _ _ _ _ _ _ _ _ _ _ _ _ _ _ hx hb k => by cases h; exact lv_imul hx hb hd k
theorem ms_iand (hd : decode bytes pc = .ok (.iand, 1)) : mx_Snd bytes nL y pc (12, a, b, L) :=
  ms_ii (f := fun x y => some (.int (x &&& y))) (fun _ _ => rfl) (fun _ _ _ h _ => by cases h; rfl) fun _ _ _ h _ _ _ _ _ _ _ _ _ _ _ _ _ _ _ _ _ hx hb k => by cases h; exact lv_iand hx hb hd k
theorem ms_ior (hd : decode bytes pc = .ok (.ior, 1)) : mx_Snd bytes nL y pc (13, a, b, L) :=
  ms_ii (f := fun x y => some (.int (x ||| y))) (fun _ _ => rfl) (fun _ _ _ h _ => by cases h; rfl) fun _ _ _ h _ _ _ _ _ _ _ _ _ _ _ _ _ _ _ _ _ hx hb k => by cases h; exact lv_ior hx hb hd k
theorem mx_div_inv {x y : Int32} {v : Value} (h : mx_div x y = some v) : ¬ y = 0 ∧ v = .int (x / y) := by
  unfold mx_div at h
  split at h
  · cases h
  · next hy => exact ⟨hy, (Option.some.inj h).symm⟩
theorem mx_rem_inv {x y : Int32} {v : Value} (h : mx_rem x y = some v) : ¬ y = 0 ∧ v = .int (x - x / y * y) := by
  unfold mx_rem at h
  split at h
  · cases h
  · next hy => exact ⟨hy, (Option.some.inj h).symm⟩
theorem mx_ldiv_inv {x y : Int64} {v : Value} (h : mx_ldiv x y = some v) : ¬ y = 0 ∧ v = .long (x / y) := by
  unfold mx_ldiv at h
  split at h
  · cases h
  · next hy => exact ⟨hy, (Option.some.inj h).symm⟩
theorem ms_idiv (hd : decode bytes pc = .ok (.idiv, 1)) : mx_Snd bytes nL y pc (14, a, b, L) :=
  ms_ii (f := mx_div) (fun _ _ => rfl) (fun _ _ _ h _ => by obtain ⟨-, rfl⟩ := mx_div_inv h; rfl) fun _ _ _ h _ _ _ _ _ _ _ _ _ _ _ _ _ _ _ _ _ hx hb k => by obtain ⟨h1, rfl⟩ := mx_div_inv h; exact lv_idiv hx hb hd h1 k
theorem ms_irem (hd : decode bytes pc = .ok (.irem, 1)) : mx_Snd bytes nL y pc (15, a, b, L) :=
  ms_ii (f := mx_rem) (fun _ _ => rfl) (fun _ _ _ h _ => by obtain ⟨-, rfl⟩ := mx_rem_inv h; rfl) fun _ _ _ h _ _ _ _ _ _ _ _ _ _ _ _ _ _ _ _ _ hx hb k => by obtain ⟨h1, rfl⟩ := mx_rem_inv h; exact lv_irem hx hb hd h1 k
theorem ms_ineg (hd : decode bytes pc = .ok (.ineg, 1)) : mx_Snd bytes nL y pc (16, a, b, L) :=
  ms_i1 (f := fun x => .int (-x)) (fun _ _ => rfl) (fun _ _ => rfl) fun _ _ _ _ _ _ _ _ _ _ _ _ _ _ _ _ _ _ hx hb k => lv_ineg hx hb hd k
theorem ms_ishl (hd : decode bytes pc = .ok (.ishl, 1)) : mx_Snd bytes nL y pc (17, a, b, L) :=
  ms_ii (f := fun x y => some (.int (x <<< (y &&& 31)))) (fun _ _ => rfl) (fun _ _ _ h _ => by cases h; rfl) fun _ _ _ h _ _ _ _ _ _ _ _ _ _ _ _ _ _ _ _ _ hx hb k => by cases h; exact lv_ishl hx hb hd k
theorem ms_ishr (hd : decode bytes pc = .ok (.ishr, 1)) : mx_Snd bytes nL y pc (18, a, b, L) :=
  ms_ii (f := fun x y => some (.int (x >>> (y &&& 31)))) (fun _ _ => rfl) (fun _ _ _ h _ => by cases h; rfl) fun _ _ _ h _ _ _ _ _ _ _ _ _ _ _ _ _ _ _ _ _ hx hb k => by cases h; exact lv_ishr hx hb hd k
theorem ms_ladd (hd : decode bytes pc = .ok (.ladd, 1)) : mx_Snd bytes nL y pc (19, a, b, L) :=
  ms_ll (f := fun x y => some (.long (x + y))) (fun _ _ => rfl) (fun _ _ _ h _ => by cases h; rfl) fun _ _ _ h _ _ _ _ _ _ _ _ _ _ _ _ _ _ _ _ _ hx hb k => by cases h; exact lv_ladd hx hb hd k
theorem ms_lsub (hd : decode bytes pc = .ok (.lsub, 1)) : mx_Snd bytes nL y pc (20, a, b, L) :=
  ms_ll (f := fun x y => some (.long (x - y))) (fun _ _ => rfl) (fun _ _ _ h _ => by cases h; rfl) fun _ _ _ h _ _ _ _ _ _ _ _ _ _ _ _ _ _ _ _ _ hx hb k => by cases h; exact lv_lsub hx hb hd k
theorem ms_lmul (hd : decode bytes pc = .ok (.lmul, 1)) : mx_Snd bytes nL y pc (21, a, b, L) :=
  ms_ll (f := fun x y => some (.long (x * y))) (fun _ _ => rfl) (fun _ _ _ h _ => by cases h; rfl) fun _ _ _ h _ _ _ _ _ _ _ _ _ _ _ _ _ _ _ _ _ hx hb k => by cases h; exact lv_lmul hx hb hd k
theorem ms_ldiv (hd : decode bytes pc = .ok (.ldiv, 1)) : mx_Snd bytes nL y pc (22, a, b, L) :=
  ms_ll (f := mx_ldiv) (fun _ _ => rfl) (fun _ _ _ h _ => by obtain ⟨-, rfl⟩ := mx_ldiv_inv h; rfl) fun _ _ _ h _ _ _ _ _ _ _ _ _ _ _ _ _ _ _ _ _ hx hb k => by obtain ⟨h1, rfl⟩ := mx_ldiv_inv h; exact lv_ldiv hx hb hd h1 k
theorem ms_land (hd : decode bytes pc = .ok (.land, 1)) : mx_Snd bytes nL y pc (23, a, b, L) :=
  ms_ll (f := fun x y => some (.long (x &&& y))) (fun _ _ => rfl) (fun _ _ _ h _ => by cases h; rfl) fun _ _ _ h _ _ _ _ _ _ _ _ _ _ _ _ _ _ _ _ _ hx hb k => by cases h; exact lv_land hx hb hd k
theorem ms_lor (hd : decode bytes pc = .ok (.lor, 1)) : mx_Snd bytes nL y pc (24, a, b, L) :=
  ms_ll (f := fun x y => some (.long (x ||| y))) (fun _ _ => rfl) (fun _ _ _ h _ => by cases h; rfl) fun _ _ _ h _ _ _ _ _ _ _ _ _ _ _ _ _ _ _ _ _ hx hb k => by cases h; exact lv_lor hx hb hd k
theorem ms_lshl (hd : decode bytes pc = .ok (.lshl, 1)) : mx_Snd bytes nL y pc (25, a, b, L) :=
  ms_li (f := fun x y => .long (x <<< (y.toInt64 &&& 63))) (fun _ _ => rfl) (fun _ _ _ => rfl) fun _ _ _ _ _ _ _ _ _ _ _ _ _ _ _ _ _ _ _ hx hb k => lv_lshl hx hb hd rfl k
theorem ms_lshr (hd : decode bytes pc = .ok (.lshr, 1)) : mx_Snd bytes nL y pc (26, a, b, L) :=
  ms_li (f := fun x y => .long (x >>> (y.toInt64 &&& 63))) (fun _ _ => rfl) (fun _ _ _ => rfl) fun _ _ _ _ _ _ _ _ _ _ _ _ _ _ _ _ _ _ _ hx hb k => lv_lshr hx hb hd rfl k
theorem ms_lcmp (hd : decode bytes pc = .ok (.lcmp, 1)) : mx_Snd bytes nL y pc (27, a, b, L) :=
  ms_ll (f := fun x y => some (.int (lg_cmp x y))) (fun _ _ => rfl) (fun _ _ _ h _ => by cases h; rfl) fun _ _ _ h _ _ _ _ _ _ _ _ _ _ _ _ _ _ _ _ _ hx hb k => by cases h; exact W.lcmp hx hb hd k
theorem ms_i2l (hd : decode bytes pc = .ok (.i2l, 1)) : mx_Snd bytes nL y pc (28, a, b, L) :=
  ms_i1 (f := fun x => .long x.toInt64) (fun _ _ => rfl) (fun _ _ => rfl) fun _ _ _ _ _ _ _ _ _ _ _ _ _ _ _ _ _ _ hx hb k => lv_i2l hx hb hd rfl k
theorem ms_l2i (hd : decode bytes pc = .ok (.l2i, 1)) : mx_Snd bytes nL y pc (29, a, b, L) :=
  ms_l1 (f := fun x => .int x.toInt32) (fun _ _ => rfl) (fun _ _ => rfl) fun _ _ _ _ _ _ _ _ _ _ _ _ _ _ _ _ _ _ hx hb k => lv_l2i hx hb hd rfl k
theorem ms_i2b (hd : decode bytes pc = .ok (.i2b, 1)) : mx_Snd bytes nL y pc (30, a, b, L) :=
  ms_i1 (f := fun x => .int x.toInt8.toInt32) (fun _ _ => rfl) (fun _ _ => rfl) fun _ _ _ _ _ _ _ _ _ _ _ _ _ _ _ _ _ _ hx hb k => lv_i2b hx hb hd rfl k
theorem ms_i2s (hd : decode bytes pc = .ok (.i2s, 1)) : mx_Snd bytes nL y pc (31, a, b, L) :=
  ms_i1 (f := fun x => .int x.toInt16.toInt32) (fun _ _ => rfl) (fun _ _ => rfl) fun _ _ _ _ _ _ _ _ _ _ _ _ _ _ _ _ _ _ hx hb k => lv_i2s hx hb hd rfl k
theorem ms_i2c (hd : decode bytes pc = .ok (.i2c, 1)) : mx_Snd bytes nL y pc (32, a, b, L) :=
  ms_i1 (f := fun x => .int (x.toUInt32 % 65536).toInt32) (fun _ _ => rfl) (fun _ _ => rfl) fun _ _ _ _ _ _ _ _ _ _ _ _ _ _ _ _ _ _ hx hb k => lv_i2c hx hb hd rfl k
theorem ms_dup (hd : decode bytes pc = .ok (.dup, 1)) : mx_Snd bytes nL y pc (33, a, b, L) :=
  ms_plain fun SA c c' hop hpc => by
    have hop : mx_dup c = some c' := hop
    unfold mx_dup at hop
    split at hop
    · next v st hst =>
      cases h2 : mx_is2 v with
      | true => rw [h2] at hop; cases hop
      | false =>
        rw [h2] at hop
        have h := Option.some.inj hop
        subst h
        refine ⟨[v], [v, v], st, hst, rfl, rfl, rfl, fun G => ?_⟩
        subst hpc
        intro p l e R s m args below meth c0 Q H locs cells slots ls rest hx hb k
        exact lv_dup hx hb hd (by rw [mx_tr_cat]; exact mx_is2_cat h2) k
    · cases hop
theorem ms_pop (hd : decode bytes pc = .ok (.pop, 1)) : mx_Snd bytes nL y pc (34, a, b, L) :=
  ms_plain fun SA c c' hop hpc => by
    have hop : mx_pop c = some c' := hop
    unfold mx_pop at hop
    split at hop
    · next v st hst =>
      cases h2 : mx_is2 v with
      | true => rw [h2] at hop; cases hop
      | false =>
        rw [h2] at hop
        have h := Option.some.inj hop
        subst h
        refine ⟨[v], [], st, hst, rfl, rfl, rfl, fun G => ?_⟩
        subst hpc
        intro p l e R s m args below meth c0 Q H locs cells slots ls rest hx hb k
        exact lv_pop hx hb hd (by rw [mx_tr_cat]; exact mx_is2_cat h2) k
    · cases hop
theorem ms_dup2 (hd : decode bytes pc = .ok (.dup2, 1)) : mx_Snd bytes nL y pc (35, a, b, L) :=
  ms_plain fun SA c c' hop hpc => by
    have hop : mx_dup2 c = some c' := hop
    unfold mx_dup2 at hop
    split at hop
    · next v w st hst =>
      cases h2 : mx_is2 v with
      | true => rw [h2] at hop; cases hop
      | false =>
        cases h3 : mx_is2 w with
        | true => rw [h2, h3] at hop; cases hop
        | false =>
          rw [h2, h3] at hop
          have h := Option.some.inj hop
          subst h
          refine ⟨[v, w], [v, w, v, w], st, hst, rfl, rfl, rfl, fun G => ?_⟩
          subst hpc
          intro p l e R s m args below meth c0 Q H locs cells slots ls rest hx hb k
          exact lv_dup2_11 hx hb hd (by rw [mx_tr_cat]; exact mx_is2_cat h2) (by rw [mx_tr_cat]; exact mx_is2_cat h3) k
    · cases hop
/-- branches -/
theorem ms_if {i : mx_I} {f : Int32 → Bool} {t : Nat} (hi : ∀ (SA : mx_S) (c : mx_C), mx_op SA mx_SF mx_DF 14 i c = mx_if f t c) (row : ∀ x, mx_Row bytes pc (bif f x then t else pc + 3) [.int x] []) : mx_Snd bytes nL y pc i :=
  ms_plain fun SA c c' hop hpc => by
    rw [hi] at hop
    unfold mx_if at hop
    split at hop
    · next x st hst =>
      have h := Option.some.inj hop
      subst h
      subst hpc
      exact ⟨[.int x], [], st, hst, rfl, rfl, rfl, fun G => row x⟩
    · cases hop
theorem ms_if2 {i : mx_I} {f : Int32 → Int32 → Bool} {t : Nat} (hi : ∀ (SA : mx_S) (c : mx_C), mx_op SA mx_SF mx_DF 14 i c = mx_if2 f t c) (row : ∀ x z, mx_Row bytes pc (bif f x z then t else pc + 3) [.int z, .int x] []) : mx_Snd bytes nL y pc i :=
  ms_plain fun SA c c' hop hpc => by
    rw [hi] at hop
    unfold mx_if2 at hop
    split at hop
    · next z x st hst =>
      have h := Option.some.inj hop
      subst h
      subst hpc
      exact ⟨[.int z, .int x], [], st, hst, rfl, rfl, rfl, fun G => row x z⟩
    · cases hop
theorem mx_sel {t u : Nat} {P : Nat → Prop} {c : Bool} (k : P (bif c then t else u)) : (c = true → P t) ∧ (c = false → P u) := by
  cases c
  · exact ⟨fun h => (by cases h), fun _ => k⟩
  · exact ⟨fun _ => k, fun h => (by cases h)⟩
theorem ms_if_eq {off : Int} (hd : decode bytes pc = .ok (.ifCond .eq off, 3)) (ht : (pc : Int) + off = (a : Int)) : mx_Snd bytes nL y pc (36, a, b, L) :=
  ms_if (f := fun x => decide (x = 0)) (fun _ _ => rfl) fun x p l e R s m args below meth c0 Q H locs cells slots ls rest hx hb k => by
    have k2 := mx_sel (P := fun n => W p l e R s m args below meth c0 H locs cells slots Q (F0 m n ls rest)) (c := decide (x = 0)) (t := a) (u := pc + 3) k
    exact lv_if_eq hx hb hd ht (fun h => k2.1 (decide_eq_true h)) (fun h => k2.2 (decide_eq_false h))
theorem ms_if_ne {off : Int} (hd : decode bytes pc = .ok (.ifCond .ne off, 3)) (ht : (pc : Int) + off = (a : Int)) : mx_Snd bytes nL y pc (37, a, b, L) :=
  ms_if (f := fun x => !decide (x = 0)) (fun _ _ => rfl) fun x p l e R s m args below meth c0 Q H locs cells slots ls rest hx hb k => by
    have k2 := mx_sel (P := fun n => W p l e R s m args below meth c0 H locs cells slots Q (F0 m n ls rest)) (c := !decide (x = 0)) (t := a) (u := pc + 3) k
    exact lv_if_ne hx hb hd ht (fun h => k2.1 (by simp [h])) (fun h => k2.2 (by simpa using h))
theorem ms_if_lt {off : Int} (hd : decode bytes pc = .ok (.ifCond .lt off, 3)) (ht : (pc : Int) + off = (a : Int)) : mx_Snd bytes nL y pc (38, a, b, L) :=
  ms_if (f := fun x => decide (x < 0)) (fun _ _ => rfl) fun x p l e R s m args below meth c0 Q H locs cells slots ls rest hx hb k => by
    have k2 := mx_sel (P := fun n => W p l e R s m args below meth c0 H locs cells slots Q (F0 m n ls rest)) (c := decide (x < 0)) (t := a) (u := pc + 3) k
    exact lv_if_lt hx hb hd ht (fun h => k2.1 (decide_eq_true h)) (fun h => k2.2 (decide_eq_false h))
theorem ms_if_ge {off : Int} (hd : decode bytes pc = .ok (.ifCond .ge off, 3)) (ht : (pc : Int) + off = (a : Int)) : mx_Snd bytes nL y pc (39, a, b, L) :=
  ms_if (f := fun x => decide (0 ≤ x)) (fun _ _ => rfl) fun x p l e R s m args below meth c0 Q H locs cells slots ls rest hx hb k => by
    have k2 := mx_sel (P := fun n => W p l e R s m args below meth c0 H locs cells slots Q (F0 m n ls rest)) (c := decide (0 ≤ x)) (t := a) (u := pc + 3) k
    exact lv_if_ge hx hb hd ht (fun h => k2.1 (decide_eq_true h)) (fun h => k2.2 (decide_eq_false h))
theorem ms_if_gt {off : Int} (hd : decode bytes pc = .ok (.ifCond .gt off, 3)) (ht : (pc : Int) + off = (a : Int)) : mx_Snd bytes nL y pc (40, a, b, L) :=
  ms_if (f := fun x => decide (0 < x)) (fun _ _ => rfl) fun x p l e R s m args below meth c0 Q H locs cells slots ls rest hx hb k => by
    have k2 := mx_sel (P := fun n => W p l e R s m args below meth c0 H locs cells slots Q (F0 m n ls rest)) (c := decide (0 < x)) (t := a) (u := pc + 3) k
    exact lv_if_gt hx hb hd ht (fun h => k2.1 (decide_eq_true h)) (fun h => k2.2 (decide_eq_false h))
theorem ms_if_le {off : Int} (hd : decode bytes pc = .ok (.ifCond .le off, 3)) (ht : (pc : Int) + off = (a : Int)) : mx_Snd bytes nL y pc (41, a, b, L) :=
  ms_if (f := fun x => decide (x ≤ 0)) (fun _ _ => rfl) fun x p l e R s m args below meth c0 Q H locs cells slots ls rest hx hb k => by
    have k2 := mx_sel (P := fun n => W p l e R s m args below meth c0 H locs cells slots Q (F0 m n ls rest)) (c := decide (x ≤ 0)) (t := a) (u := pc + 3) k
    exact lv_if_le hx hb hd ht (fun h => k2.1 (decide_eq_true h)) (fun h => k2.2 (decide_eq_false h))
theorem ms_icmp_eq {off : Int} (hd : decode bytes pc = .ok (.if_icmp .eq off, 3)) (ht : (pc : Int) + off = (a : Int)) : mx_Snd bytes nL y pc (42, a, b, L) :=
  ms_if2 (f := fun x z => decide (x = z)) (fun _ _ => rfl) fun x z p l e R s m args below meth c0 Q H locs cells slots ls rest hx hb k => by
    have k2 := mx_sel (P := fun n => W p l e R s m args below meth c0 H locs cells slots Q (F0 m n ls rest)) (c := decide (x = z)) (t := a) (u := pc + 3) k
    exact lv_icmp_eq hx hb hd ht (fun h => k2.1 (decide_eq_true h)) (fun h => k2.2 (decide_eq_false h))
theorem ms_icmp_ne {off : Int} (hd : decode bytes pc = .ok (.if_icmp .ne off, 3)) (ht : (pc : Int) + off = (a : Int)) : mx_Snd bytes nL y pc (43, a, b, L) :=
  ms_if2 (f := fun x z => !decide (x = z)) (fun _ _ => rfl) fun x z p l e R s m args below meth c0 Q H locs cells slots ls rest hx hb k => by
    have k2 := mx_sel (P := fun n => W p l e R s m args below meth c0 H locs cells slots Q (F0 m n ls rest)) (c := !decide (x = z)) (t := a) (u := pc + 3) k
    exact lv_icmp_ne hx hb hd ht (fun h => k2.1 (by simp [h])) (fun h => k2.2 (by simpa using h))
theorem ms_icmp_lt {off : Int} (hd : decode bytes pc = .ok (.if_icmp .lt off, 3)) (ht : (pc : Int) + off = (a : Int)) : mx_Snd bytes nL y pc (44, a, b, L) :=
  ms_if2 (f := fun x z => decide (x < z)) (fun _ _ => rfl) fun x z p l e R s m args below meth c0 Q H locs cells slots ls rest hx hb k => by
    have k2 := mx_sel (P := fun n => W p l e R s m args below meth c0 H locs cells slots Q (F0 m n ls rest)) (c := decide (x < z)) (t := a) (u := pc + 3) k
    exact lv_icmp_lt hx hb hd ht (fun h => k2.1 (decide_eq_true h)) (fun h => k2.2 (decide_eq_false h))
theorem ms_icmp_ge {off : Int} (hd : decode bytes pc = .ok (.if_icmp .ge off, 3)) (ht : (pc : Int) + off = (a : Int)) : mx_Snd bytes nL y pc (45, a, b, L) :=
  ms_if2 (f := fun x z => decide (z ≤ x)) (fun _ _ => rfl) fun x z p l e R s m args below meth c0 Q H locs cells slots ls rest hx hb k => by
    have k2 := mx_sel (P := fun n => W p l e R s m args below meth c0 H locs cells slots Q (F0 m n ls rest)) (c := decide (z ≤ x)) (t := a) (u := pc + 3) k
    exact lv_icmp_ge hx hb hd ht (fun h => k2.1 (decide_eq_true h)) (fun h => k2.2 (decide_eq_false h))
theorem ms_icmp_gt {off : Int} (hd : decode bytes pc = .ok (.if_icmp .gt off, 3)) (ht : (pc : Int) + off = (a : Int)) : mx_Snd bytes nL y pc (46, a, b, L) :=
  ms_if2 (f := fun x z => decide (z < x)) (fun _ _ => rfl) fun x z p l e R s m args below meth c0 Q H locs cells slots ls rest hx hb k => by
    have k2 := mx_sel (P := fun n => W p l e R s m args below meth c0 H locs cells slots Q (F0 m n ls rest)) (c := decide (z < x)) (t := a) (u := pc + 3) k
    exact lv_icmp_gt hx hb hd ht (fun h => k2.1 (decide_eq_true h)) (fun h => k2.2 (decide_eq_false h))
theorem ms_icmp_le {off : Int} (hd : decode bytes pc = .ok (.if_icmp .le off, 3)) (ht : (pc : Int) + off = (a : Int)) : mx_Snd bytes nL y pc (47, a, b, L) :=
  ms_if2 (f := fun x z => decide (x ≤ z)) (fun _ _ => rfl) fun x z p l e R s m args below meth c0 Q H locs cells slots ls rest hx hb k => by
    have k2 := mx_sel (P := fun n => W p l e R s m args below meth c0 H locs cells slots Q (F0 m n ls rest)) (c := decide (x ≤ z)) (t := a) (u := pc + 3) k
    exact lv_icmp_le hx hb hd ht (fun h => k2.1 (decide_eq_true h)) (fun h => k2.2 (decide_eq_false h))
theorem ms_goto {off : Int} (hd : decode bytes pc = .ok (.goto off, 3)) (ht : (pc : Int) + off = (a : Int)) : mx_Snd bytes nL y pc (48, a, b, L) :=
  ms_plain fun SA c c' hop hpc => by
    have h := Option.some.inj (show some (a, c.2.1, c.2.2.1, c.2.2.2) = some c' from hop)
    subst h
    refine ⟨[], [], c.2.2.1, rfl, rfl, rfl, rfl, fun G => ?_⟩
    intro p l e R s m args below meth c0 Q H locs cells slots ls rest hx hb k
    exact lv_goto hx hb hd ht k
theorem ms_sw {i : mx_I} {f : Int32 → Nat} (hi : ∀ (SA : mx_S) (c : mx_C), mx_op SA mx_SF mx_DF 14 i c = mx_sw f c) (row : ∀ x, mx_Row bytes pc (f x) [.int x] []) : mx_Snd bytes nL y pc i :=
  ms_plain fun SA c c' hop hpc => by
    rw [hi] at hop
    unfold mx_sw at hop
    split at hop
    · next x st hst =>
      have h := Option.some.inj hop
      subst h
      subst hpc
      exact ⟨[.int x], [], st, hst, rfl, rfl, rfl, fun G => row x⟩
    · cases hop
/-- the targets of a table switch are the offsets' -/
def mx_offs (pc : Nat) : List Int → List Nat → Bool
  | [], [] => true
  | o :: os, t :: ts => decide ((pc : Int) + o = (t : Int)) && mx_offs pc os ts
  | _, _ => false
theorem mx_offs_at {pc : Nat} : ∀ {os : List Int} {ts : List Nat}, mx_offs pc os ts = true → ∀ {k t : Nat}, mx_nth ts k = some t → ∃ o, os[k]? = some o ∧ (pc : Int) + o = (t : Int)
  | [], [], _, k, t, h => by simp [mx_nth] at h
  | [], _ :: _, h, _, _, _ => by simp [mx_offs] at h
  | _ :: _, [], h, _, _, _ => by simp [mx_offs] at h
  | o :: os, u :: ts, h, k, t, hk => by
    simp only [mx_offs, Bool.and_eq_true, decide_eq_true_eq] at h
    cases k with
    | zero =>
      have hk : some u = some t := hk
      cases hk
      exact ⟨o, rfl, h.1⟩
    | succ k =>
      have hk : mx_nth ts k = some t := hk
      obtain ⟨o', h1, h2⟩ := mx_offs_at h.2 hk
      exact ⟨o', by simpa using h1, h2⟩
theorem mx_offs_len {pc : Nat} : ∀ {os : List Int} {ts : List Nat}, mx_offs pc os ts = true → os.length = ts.length
  | [], [], _ => rfl
  | [], _ :: _, h => by simp [mx_offs] at h
  | _ :: _, [], h => by simp [mx_offs] at h
  | o :: os, u :: ts, h => by
    simp only [mx_offs, Bool.and_eq_true, decide_eq_true_eq] at h
    simp [mx_offs_len h.2]
theorem mx_nth_none {α : Type} {l : List α} {n : Nat} (h : mx_nth l n = none) : l.length ≤ n := by
  rw [mx_nth_eq] at h
  simpa using h
theorem ms_tsw {dflt lo hi : Int} {offs : Array Int} {len : Nat} (hd : decode bytes pc = .ok (.tableswitch dflt lo hi offs, len)) (h1 : (pc : Int) + dflt = (a : Int)) (h2 : (Int32.ofNat b).toInt = lo) (h3 : mx_offs pc offs.toList L = true) (h4 : hi = lo + (L.length : Int) - 1) : mx_Snd bytes nL y pc (49, a, b, L) :=
  ms_sw (f := fun x => mx_tsw a (Int32.ofNat b).toInt L x.toInt) (fun _ _ => rfl) fun x p l e R s m args below meth c0 Q H locs cells slots ls rest hx hb k => by
    have k : W p l e R s m args below meth c0 H locs cells slots Q (F0 m (mx_tsw a (Int32.ofNat b).toInt L x.toInt) ls rest) := k
    rw [h2] at k
    unfold mx_tsw at k
    split at k
    · next n hn =>
      have hn : x.toInt - lo = (n : Int) := hn
      split at k
      · next t ht =>
        obtain ⟨o, e1, e2⟩ := mx_offs_at h3 ht
        have hlt : n < L.length := by
          rcases Nat.lt_or_ge n L.length with q | q
          · exact q
          · rw [mx_nth_eq, List.getElem?_eq_none q] at ht
            cases ht
        refine lv_tableIn (off := o) hx hb hd (by omega) (by omega) ?_ e2 k
        rw [hn]
        rw [← Array.getElem?_toList]
        exact e1
      · next ht =>
        have hge := mx_nth_none ht
        exact lv_tableOut hx hb hd (Or.inr (by omega)) h1 k
    · next n hn =>
      have hn : x.toInt - lo = Int.negSucc n := hn
      exact lv_tableOut hx hb hd (Or.inl (by omega)) h1 k
/-- a lookup switch: keys, offsets and targets -/
def mx_lks (pc : Nat) : List (Int × Int) → List Nat → Bool
  | [], [] => true
  | p :: ps, k :: t :: r => decide ((Int32.ofNat k).toInt = p.1) && (decide ((pc : Int) + p.2 = (t : Int)) && mx_lks pc ps r)
  | _, _ => false
theorem mx_lks_at {pc d : Nat} {dflt : Int} (hd : (pc : Int) + dflt = (d : Int)) (x : Int32) : ∀ {ps : List (Int × Int)} {ts : List Nat}, mx_lks pc ps ts = true → (pc : Int) + Op.lookupswitch.offset ps dflt x.toInt = (mx_lsw d x ts : Int)
  | [], [], _ => hd
  | [], _ :: _, h => by simp [mx_lks] at h
  | _ :: _, [], h => by simp [mx_lks] at h
  | _ :: _, [_], h => by simp [mx_lks] at h
  | p :: ps, k :: t :: r, h => by
    simp only [mx_lks, Bool.and_eq_true, decide_eq_true_eq] at h
    obtain ⟨q1, q2⟩ := p
    unfold mx_lsw
    by_cases hx : x = Int32.ofNat k
    · subst hx
      have e : Op.lookupswitch.offset ((q1, q2) :: ps) dflt (Int32.ofNat k).toInt = q2 := by
        rw [h.1]
        simp [Op.lookupswitch.offset]
      rw [e]
      simpa using h.2.1
    · have e := lv_osw (a := q1) (o := q2) (d := dflt) (r := ps) hx h.1
      rw [e]
      have hb : (x == Int32.ofNat k) = false := by simpa using hx
      rw [hb]
      exact mx_lks_at hd x h.2.2
theorem ms_lsw {dflt : Int} {ps : Array (Int × Int)} {len : Nat} (hd : decode bytes pc = .ok (.lookupswitch dflt ps, len)) (h1 : (pc : Int) + dflt = (a : Int)) (h2 : mx_lks pc ps.toList L = true) (h3 : (ps.toList.zip (ps.toList.drop 1)).all (fun (a, next) => a.1 < next.1) = true) : mx_Snd bytes nL y pc (50, a, b, L) :=
  ms_sw (f := fun x => mx_lsw a x L) (fun _ _ => rfl) fun x p l e R s m args below meth c0 Q H locs cells slots ls rest hx hb k =>
    lv_lookup hx hb hd h3 rfl (mx_lks_at h1 x h2) k
end MSW
end
section
section MSM
variable {bytes : ByteArray} {nL : Nat} {y : MethodName} {pc a b : Nat} {L : List Nat}
/-- what is known of a class -/
def mx_Cls (ci : Nat) (C : String) (T : u_T) (N : Nat) (ty : Nat → FieldType) : Prop :=
  vwCl[ci]? = some (C, T, N) ∧ (∀ w ∈ u_ws C T N, w ∈ mx_GT) ∧ (∀ k, k < N → parseFieldDescriptor (T k).2.2.1 = some (ty k)) ∧ ∀ a, a < N → ∀ b, b < N → a ≠ b → (T a).2.1 ≠ (T b).2.1
/-- how a class names a field: by a link of its own, or of its nest -/
def mx_fl (own : String) (idx : Nat) (q : String × String × String × Bool) (w : Nat) (host : Option String) : Prop := match host with
  | none => lw_tbl[w]? = some (.fieldLink own idx q.1 q.2.1 q.2.2.1)
  | some h => lw_tbl[w]? = some (.fieldLinkNest own idx q.1 q.2.1 q.2.2.1 h)
theorem mx_fl_nest {own : String} {idx : Nat} {q : String × String × String × Bool} {w : Nat} {h : String} (hl : mx_fl own idx q w (some h)) : Cond.fieldLinkNest own idx q.1 q.2.1 q.2.2.1 h ∈ mx_NT :=
  List.mem_filter.mpr ⟨List.mem_of_getElem? hl, rfl⟩
theorem mx_get_inv {ci k : Nat} {c c' : mx_C} (h : mx_get ci k c = some c') : ∃ q st fs v, c.2.2.1 = .ref q :: st ∧ c.2.2.2[q]? = some (.inl (ci, fs)) ∧ fs[k]? = some v ∧ c' = (c.1 + 3, c.2.1, v :: st, c.2.2.2) := by
  unfold mx_get at h
  split at h
  · next q st hst =>
    split at h
    · next cj fs hq =>
      cases hb : Nat.beq cj ci with
      | false => rw [hb] at h; cases h
      | true =>
        rw [hb] at h
        have := Nat.eq_of_beq_eq_true hb
        subst this
        simp only [cond_true] at h
        split at h
        · next v hv => exact ⟨q, st, fs, v, hst, by rw [← mx_nth_eq]; exact hq, by rw [← mx_nth_eq]; exact hv, (Option.some.inj h).symm⟩
        · cases h
    · cases h
  · cases h
theorem mx_len_lt {α : Type} {l : List α} {k : Nat} {x : α} (h : l[k]? = some x) : k < l.length := (List.getElem?_eq_some_iff.mp h).1
theorem ms_get {C : String} {T : u_T} {N : Nat} {ty : Nat → FieldType} {idx w : Nat} {host : Option String} (hC : mx_Cls a C T N ty) (hb' : b < N) (hl : mx_fl y.cls idx (T b) w host) (hd : decode bytes pc = .ok (.getfield idx, 3)) : mx_Snd bytes nL y pc (51, a, b, L) := by
  intro G SA p l e R s m args below meth c0 Q L0 S0 K c c' hpc _ _ _ _ hop hgo H locs ls h1 h2 hP hS hv
  obtain ⟨q, st, fs, v, e1, e2, e3, rfl⟩ := mx_get_inv hop
  obtain ⟨hx, hb, hml, hown, hts, -, hE, -, -, -⟩ := K
  have hq : q < 1000 := Nat.lt_of_lt_of_le (mx_len_lt e2) h1
  rw [hpc, e1, List.map_cons]
  show W p l e R s m args below meth c0 H locs _ _ Q (F0 m pc ls (.ref (mx_ad G q) :: _))
  rw [mx_ad_lt hq]
  have g := hgo H locs ls h1 h2 hP hS hv
  rw [hpc] at g
  cases host with
  | none =>
    exact va_get (own := y.cls) (ref := (T b).1) (index := idx) hx hb hts hC.2.1 hown hE.1 hP q (mx_W_get e2) hC.1 b hb' (hts _ (mx_gt w hl rfl)) (fun _ h => h) (v := mx_tr G v) (by rw [List.getElem?_map, e3]; rfl) hd g
  | some h =>
    exact va_getN (own := y.cls) (ref := (T b).1) (index := idx) (host := h) hx hb hts hC.2.1 hown hE.1 hP q (mx_W_get e2) hC.1 b hb' (va_Nw.use rfl (hE.2.1 _ (mx_fl_nest hl))) (fun _ h => h) (v := mx_tr G v) (by rw [List.getElem?_map, e3]; rfl) hd g
theorem mx_put_inv {ci k : Nat} {c c' : mx_C} (h : mx_put ci k c = some c') : ∃ q st fs v, c.2.2.1 = .int v :: .ref q :: st ∧ c.2.2.2[q]? = some (.inl (ci, fs)) ∧ k < fs.length ∧ c' = (c.1 + 3, c.2.1, st, c.2.2.2.set q (.inl (ci, fs.set k (.int v)))) := by
  unfold mx_put at h
  split at h
  · next v q st hst =>
    split at h
    · next cj fs hq =>
      cases hb : Nat.beq cj ci && Nat.blt k fs.length with
      | false => rw [hb] at h; cases h
      | true =>
        rw [hb] at h
        simp only [Bool.and_eq_true] at hb
        have := Nat.eq_of_beq_eq_true hb.1
        subst this
        exact ⟨q, st, fs, v, hst, by rw [← mx_nth_eq]; exact hq, Nat.le_of_ble_eq_true hb.2, (Option.some.inj h).symm⟩
    · cases h
  · cases h
theorem mx_putF_inv {ci k : Nat} {c c' : mx_C} (h : mx_putF ci k c = some c') : ∃ q st fs v, c.2.2.1 = .ref v :: .ref q :: st ∧ c.2.2.2[q]? = some (.inl (ci, fs)) ∧ k < fs.length ∧ c' = (c.1 + 3, c.2.1, st, c.2.2.2.set q (.inl (ci, fs.set k (.ref v)))) := by
  unfold mx_putF at h
  split at h
  · next v q st hst =>
    split at h
    · next cj fs hq =>
      cases hb : Nat.beq cj ci && Nat.blt k fs.length with
      | false => rw [hb] at h; cases h
      | true =>
        rw [hb] at h
        simp only [Bool.and_eq_true] at hb
        have := Nat.eq_of_beq_eq_true hb.1
        subst this
        exact ⟨q, st, fs, v, hst, by rw [← mx_nth_eq]; exact hq, Nat.le_of_ble_eq_true hb.2, (Option.some.inj h).symm⟩
    · cases h
  · cases h
/-- a cell changed -/
theorem mx_P_set {G : mx_G} {M : mx_M} {q : Nat} {e0 e : mx_E} {H H1 : Heap} (hP : va_P G.2.2.2 vwCl (mx_W G M) H) (h0 : M[q]? = some e0) (he : va_at G.2.2.2 vwCl (G.1 + q, mx_tE G e) H1) (oq : ∀ x : Nat, x ≠ G.1 + q → H1[x]? = H[x]?) : va_P G.2.2.2 vwCl (mx_W G (M.set q e)) H1 := by
  rw [← mx_W_set]
  exact hP.set (mx_W_D G M) (mx_W_get h0) he oq
theorem mx_A_in (G : mx_G) (q : Nat) : mx_A G (G.1 + q) := by
  show G.1 ≤ G.1 + q
  omega
/-- goes on behind a cell changed -/
theorem mx_Go_set {G : mx_G} {p : Program} {l : Launch} {e : Env} {R : Room} {s : State} {m : MethodId} {args : Array Value} {below : List Frame} {meth : Method} {c0 : Code} {Q : State → Prop} {L0 S0 n : Nat} {lv : mx_L} {st : List Value} {M : mx_M} {q : Nat} {e0 e1 : mx_E} {H : Heap} {locs : List Loc} {ls : Array Slot}
    (hgo : mx_Go nL G p l e R s m args below meth c0 Q L0 S0 (n, lv, st, M.set q e1)) (h1 : M.length ≤ 1000) (h2 : H.size = G.1 + M.length) (hP : va_P G.2.2.2 vwCl (mx_W G M) H) (hS : va_S (mx_A G) s.heap H locs) (hv : lv_has ls nL (lv.map (mx_tq G))) (h0 : M[q]? = some e0) (hsz : mx_szE e1 = mx_szE e0)
    {H1 : Heap} {k : Nat} (he : va_at G.2.2.2 vwCl (G.1 + q, mx_tE G e1) H1) (z : H1.size = H.size) (oq : ∀ x : Nat, x ≠ G.1 + q → H1[x]? = H[x]?) :
    W p l e R s m args below meth c0 H1 (locs ++ [⟨G.1 + q, k⟩]) (M.length - L0) (mx_sz M - S0) Q (F0 m n ls (st.map (mx_tr G))) := by
  have g := hgo H1 (locs ++ [⟨G.1 + q, k⟩]) ls (by rw [List.length_set]; exact h1) (by rw [List.length_set, z]; exact h2) (mx_P_set hP h0 he oq) (hS.put z oq (mx_A_in G q)) hv
  have e3 : (M.set q e1).length = M.length := List.length_set
  have e4 : mx_sz (M.set q e1) = mx_sz M := mx_sz_set h0 hsz
  have g2 : W p l e R s m args below meth c0 H1 (locs ++ [⟨G.1 + q, k⟩]) ((M.set q e1).length - L0) (mx_sz (M.set q e1) - S0) Q (F0 m n ls (st.map (mx_tr G))) := g
  rw [e3, e4] at g2
  exact g2
theorem ms_put {C : String} {T : u_T} {N : Nat} {ty : Nat → FieldType} {idx w : Nat} {host : Option String} (hC : mx_Cls a C T N ty) (hb' : b < N) (hl : mx_fl y.cls idx (T b) w host) (hf : (T b).2.2.2 = false) (hi : ty b = .int) (hd : decode bytes pc = .ok (.putfield idx, 3)) : mx_Snd bytes nL y pc (53, a, b, L) := by
  intro G SA p l e R s m args below meth c0 Q L0 S0 K c c' hpc _ _ _ _ hop hgo H locs ls h1 h2 hP hS hv
  obtain ⟨q, st, fs, v, e1, e2, e3, rfl⟩ := mx_put_inv hop
  obtain ⟨hx, hb, hml, hown, hts, -, hE, -, -, -⟩ := K
  have hq : q < 1000 := Nat.lt_of_lt_of_le (mx_len_lt e2) h1
  rw [hpc, e1, List.map_cons, List.map_cons]
  show W p l e R s m args below meth c0 H locs _ _ Q (F0 m pc ls (.int v :: .ref (mx_ad G q) :: _))
  rw [mx_ad_lt hq]
  rw [hpc] at hgo
  obtain ⟨r, hr1, cell, q1, q2, q3, q4⟩ := hP q _ (mx_W_get e2)
  have hr : r = (C, T, N) := Option.some.inj (hr1.symm.trans hC.1)
  subst hr
  obtain ⟨hSl, hfc, kC, hkC, hkind⟩ := hE.1.1 a _ hC.1
  obtain ⟨cf, kf, fi, f, hi', hsl⟩ := hSl b hb'
  have hap := va_apart (own := y.cls) hts hC.2.1 ty hC.2.2.1 hC.2.2.2 hE.1 hC.1
  have hlay := hts _ (hC.2.1 _ (u_in_lay hb'))
  unfold u_lay at hlay
  rw [if_neg (by rw [hf]; decide)] at hlay
  have hst := (u_facts hfc hkC (u_lays hts hC.2.1 hb') hi').1
  have h6 := u_store (v := .int v) (ty := .int) hfc hkC hkind hlay hi' (by rw [hC.2.2.1 b hb', hi]) rfl rfl
  have hkk : ∀ H' : Heap, H'[G.1 + q]? = some (cell.setSlot f.slot (.int v)) → H'.size = H.size → (∀ x, x ≠ G.1 + q → H'[x]? = H[x]?) → W p l e R s m args below meth c0 H' (locs ++ [⟨G.1 + q, f.slot⟩]) (c.2.2.2.length - L0) (mx_sz c.2.2.2 - S0) Q (F0 m (pc + 3) ls (st.map (mx_tr G))) := by
    intro H' g1 g2 g3
    refine mx_Go_set hgo h1 h2 hP hS hv e2 (by simp [mx_szE]) ?_ g2 g3
    rw [hsl] at g1
    have ht := t_OB.to (V := updV (vp_V (fs.map (mx_tr G))) b (.int v)) ⟨_, g1, q2, q3, t_set q4 hap hb' (.int v)⟩ (fun j _ => vp_updV_set (by rw [List.length_map]; exact e3) (.int v) j)
    refine ⟨_, hC.1, ?_⟩
    show t_OB _ _ _ _ _ (vp_V ((fs.set b (.int v)).map (mx_tr G)))
    rw [List.map_set]
    exact ht
  cases host with
  | none => exact W.putK hx hb (f := f) ⟨hown, hts _ (mx_gt w hl rfl), ⟨_, _, _, hi'⟩, hst⟩ (by rw [q2]; exact h6) q1 q3 (by rw [hsl]; exact k2_hasslot (q4 b hb')) rfl rfl hd hkk
  | some h => exact va_WputK hx hb (f := f) hown (va_Nw.use rfl (hE.2.1 _ (mx_fl_nest hl))) hi' hst (by rw [q2]; exact h6) q1 q3 (by rw [hsl]; exact k2_hasslot (q4 b hb')) rfl rfl hd hkk
/-- a field's type is a reference's -/
def mx_rt (t : FieldType) : Bool := match t with
  | .object _ => true
  | .array _ => true
  | _ => false
theorem mx_rt_fits {t : FieldType} (h : mx_rt t = true) (q : Nat) : narrow t (.ref q) = .ref q ∧ fits t (.ref q) = true := by
  cases t <;> first
    | (cases h; done)
    | exact ⟨rfl, rfl⟩
theorem ms_putF {C : String} {T : u_T} {N : Nat} {ty : Nat → FieldType} {idx w : Nat} (hC : mx_Cls a C T N ty) (hb' : b < N) (hl : mx_fl y.cls idx (T b) w none) (hf : (T b).2.2.2 = true) (hi : mx_rt (ty b) = true) (hn : y.name = "<init>") (hdc : (T b).1 = y.cls) (hd : decode bytes pc = .ok (.putfield idx, 3)) : mx_Snd bytes nL y pc (54, a, b, L) := by
  intro G SA p l e R s m args below meth c0 Q L0 S0 K c c' hpc _ _ _ _ hop hgo H locs ls h1 h2 hP hS hv
  obtain ⟨q, st, fs, v, e1, e2, e3, rfl⟩ := mx_putF_inv hop
  obtain ⟨hx, hb, hml, hown, hts, hnm, hE, -, -, -⟩ := K
  have hq : q < 1000 := Nat.lt_of_lt_of_le (mx_len_lt e2) h1
  rw [hpc, e1, List.map_cons, List.map_cons]
  show W p l e R s m args below meth c0 H locs _ _ Q (F0 m pc ls (.ref (mx_ad G v) :: .ref (mx_ad G q) :: _))
  rw [mx_ad_lt hq]
  rw [hpc] at hgo
  obtain ⟨r, hr1, cell, q1, q2, q3, q4⟩ := hP q _ (mx_W_get e2)
  have hr : r = (C, T, N) := Option.some.inj (hr1.symm.trans hC.1)
  subst hr
  obtain ⟨hSl, hfc, kC, hkC, hkind⟩ := hE.1.1 a _ hC.1
  obtain ⟨cf, kf, fi, f, hi', hsl⟩ := hSl b hb'
  have hap := va_apart (own := y.cls) hts hC.2.1 ty hC.2.2.1 hC.2.2.2 hE.1 hC.1
  have hlay := hts _ (hC.2.1 _ (u_in_lay hb'))
  unfold u_lay at hlay
  rw [if_pos hf] at hlay
  have hst := (u_facts hfc hkC (u_lays hts hC.2.1 hb') hi').1
  have hcf : m.cls = cf := by
    obtain ⟨_, _, c', _, _, _, -, -, hf', -, -, -, hown2, -⟩ := Cond.laysFinal_spec hlay
    have e1 : c' = cf := by have := hi'.symm.trans hf'; simp at this; exact this.1.symm
    rw [hdc] at hown2
    rw [← e1]; exact Option.some.inj (hown.symm.trans hown2)
  have h6 := u_fits (v := .ref (mx_ad G v)) hfc hkC hkind (Or.inr hlay) hi' (hC.2.2.1 b hb') (mx_rt_fits hi _).1 (mx_rt_fits hi _).2
  refine W.putFinK hx hb hown (hts _ (mx_gt w hl rfl)) hi' hst hcf (hnm hn) (by rw [q2]; exact h6) q1 q3 (by rw [hsl]; exact k2_hasslot (q4 b hb')) rfl rfl hd fun H' g1 g2 g3 => ?_
  refine mx_Go_set hgo h1 h2 hP hS hv e2 (by simp [mx_szE]) ?_ g2 g3
  rw [hsl] at g1
  have ht := t_OB.to (V := updV (vp_V (fs.map (mx_tr G))) b (.ref (mx_ad G v))) ⟨_, g1, q2, q3, t_set q4 hap hb' (.ref (mx_ad G v))⟩ (fun j _ => vp_updV_set (by rw [List.length_map]; exact e3) (.ref (mx_ad G v)) j)
  refine ⟨_, hC.1, ?_⟩
  show t_OB _ _ _ _ _ (vp_V ((fs.set b (.ref v)).map (mx_tr G)))
  rw [List.map_set]
  exact ht
/-- arrays -/
theorem mx_inb_in {i : Int32} {n : Nat} (h : mx_inb i n = true) : vp_in i n := by
  rw [vp_in_iff]
  unfold mx_inb at h
  split at h
  · next k hk =>
    have h := Nat.le_of_ble_eq_true h
    rw [hk]
    constructor
    · exact Int.natCast_nonneg k
    · show (k : Int) < n
      omega
  · cases h
theorem mx_ar_inv {SA : mx_S} {M : mx_M} {q t : Nat} {x : vp_A} (h : mx_ar SA M q = some (t, x)) : (1000 ≤ q ∧ SA (q - 1000) = some (t, x)) ∨ (q < 1000 ∧ M[q]? = some (.inr (t, x)) ∧ mx_kd t x = true) := by
  unfold mx_ar at h
  cases hb : Nat.ble 1000 q with
  | true =>
    rw [hb] at h
    exact Or.inl ⟨Nat.le_of_ble_eq_true hb, h⟩
  | false =>
    rw [hb] at h
    have hlt : q < 1000 := by
      rcases Nat.lt_or_ge q 1000 with z | z
      · exact z
      · rw [Nat.ble_eq_true_of_le z] at hb
        cases hb
    refine Or.inr ⟨hlt, ?_⟩
    simp only [cond_false] at h
    split at h
    · next u z hz =>
      cases hk : mx_kd u z with
      | false => rw [hk] at h; cases h
      | true =>
        rw [hk] at h
        cases h
        exact ⟨by rw [← mx_nth_eq, hz], hk⟩
    · cases h
theorem mx_kd_lt {t : Nat} {x : vp_A} (h : mx_kd t x = true) : t < 4 := by
  obtain ⟨n, f | f | f | f | f⟩ := x
  · have h : t < 3 := Nat.le_of_ble_eq_true h
    omega
  · have h := Nat.eq_of_beq_eq_true (show Nat.beq t 3 = true from h)
    omega
  · cases h
  · cases h
  · cases h
theorem mx_ad_st {G : mx_G} {q : Nat} (h : 1000 ≤ q) : mx_ad G q = G.2.1 (q - 1000) := by
  unfold mx_ad
  rw [if_neg (by omega)]
theorem ms_alen (hd : decode bytes pc = .ok (.arraylength, 1)) : mx_Snd bytes nL y pc (57, a, b, L) := by
  intro G SA p l e R s m args below meth c0 Q L0 S0 K c c' hpc _ _ _ _ hop hgo H locs ls h1 h2 hP hS hv
  have hop : mx_alen SA c = some c' := hop
  obtain ⟨hx, hb, hml, hown, hts, -, hE, -, -, -⟩ := K
  unfold mx_alen at hop
  split at hop
  · next q st hst =>
    split at hop
    · next t x hax =>
      have h := Option.some.inj hop
      subst h
      have g := hgo H locs ls h1 h2 hP hS hv
      rw [hpc] at g
      rw [hpc, hst, List.map_cons]
      show W p l e R s m args below meth c0 H locs _ _ Q (F0 m pc ls (.ref (mx_ad G q) :: _))
      rcases mx_ar_inv hax with ⟨z1, z2⟩ | ⟨z1, z2, z3⟩
      · rw [mx_ad_st z1]
        exact va_tlen hx hb (hE.2.2.1 _ _ _ z2).2 hS rfl hd g
      · rw [mx_ad_lt z1]
        exact va_alen hx hb hE.1 hP q t (mx_W_get z2) (mx_tys_at G (mx_kd_lt z3)) rfl hd g
    · cases hop
  · cases hop
theorem mx_ald_inv {SA : mx_S} {t : Nat} {c c' : mx_C} (h : mx_ald SA t c = some c') : ∃ i q st x, c.2.2.1 = .int i :: .ref q :: st ∧ mx_ar SA c.2.2.2 q = some (t, x) ∧ mx_inb i x.1 = true ∧ c' = (c.1 + 1, c.2.1, mx_con x i.toNatClampNeg :: st, c.2.2.2) := by
  unfold mx_ald at h
  split at h
  · next i q st hst =>
    split at h
    · next u x hax =>
      cases hq : Nat.beq u t && mx_inb i x.1 with
      | false => rw [hq] at h; cases h
      | true =>
        rw [hq] at h
        simp only [Bool.and_eq_true] at hq
        have hu := Nat.eq_of_beq_eq_true hq.1
        subst hu
        exact ⟨i, q, st, x, hst, hax, hq.2, (Option.some.inj h).symm⟩
    · cases h
  · cases h
theorem ms_ald (hd : (a = 0 ∧ decode bytes pc = .ok (.iaload, 1)) ∨ (a = 1 ∧ decode bytes pc = .ok (.baload, 1)) ∨ (a = 2 ∧ decode bytes pc = .ok (.baload, 1)) ∨ (a = 3 ∧ decode bytes pc = .ok (.laload, 1))) : mx_Snd bytes nL y pc (58, a, b, L) := by
  intro G SA p l e R s m args below meth c0 Q L0 S0 K c c' hpc _ _ _ _ hop hgo H locs ls h1 h2 hP hS hv
  obtain ⟨i, q, st, x, hst, hax, hq2, rfl⟩ := mx_ald_inv hop
  obtain ⟨hx, hb, hml, hown, hts, -, hE, -, -, -⟩ := K
  have hin := mx_inb_in hq2
  have g := hgo H locs ls h1 h2 hP hS hv
  rw [hpc] at g
  have g : W p l e R s m args below meth c0 H locs (c.2.2.2.length - L0) (mx_sz c.2.2.2 - S0) Q (F0 m (pc + 1) ls (mx_tr G (mx_con x i.toNatClampNeg) :: st.map (mx_tr G))) := g
  rw [mx_con_tr] at g
  rw [hpc, hst, List.map_cons, List.map_cons]
  show W p l e R s m args below meth c0 H locs _ _ Q (F0 m pc ls (.int i :: .ref (mx_ad G q) :: _))
  rcases mx_ar_inv hax with ⟨z1, z2⟩ | ⟨z1, z2, z3⟩
  · rw [mx_ad_st z1]
    have hT := (hE.2.2.1 _ _ _ z2).2
    rcases hd with ⟨rfl, hd⟩ | ⟨rfl, hd⟩ | ⟨rfl, hd⟩ | ⟨rfl, hd⟩
    · exact va_ti hx hb hT hS hin rfl hd g
    · exact va_tb hx hb hT hS hin rfl hd g
    · exact va_tz hx hb hT hS hin rfl hd g
    · exact va_tl hx hb hT hS hin rfl hd g
  · rw [mx_ad_lt z1]
    obtain ⟨n, f | f | f | f | f⟩ := x
    · rcases hd with ⟨rfl, hd⟩ | ⟨rfl, hd⟩ | ⟨rfl, hd⟩ | ⟨rfl, hd⟩
      · exact va_iald hx hb hE.1 hP q 0 (mx_W_get z2) (mx_tys_at G (by decide)) hin hd g
      · exact va_bald hx hb hE.1 hP q 1 (mx_W_get z2) (mx_tys_at G (by decide)) hin hd g
      · exact va_zald hx hb hE.1 hP q 2 (mx_W_get z2) (mx_tys_at G (by decide)) hin hd g
      · cases z3
    · rcases hd with ⟨rfl, hd⟩ | ⟨rfl, hd⟩ | ⟨rfl, hd⟩ | ⟨rfl, hd⟩
      · cases z3
      · cases z3
      · cases z3
      · exact va_lald hx hb hE.1 hP q 3 (mx_W_get z2) (mx_tys_at G (by decide)) hin hd g
    · cases z3
    · cases z3
    · cases z3
theorem mx_ast_inv {t : Nat} {c c' : mx_C} (h : mx_ast t c = some c') : ∃ v i q st n f, c.2.2.1 = .int v :: .int i :: .ref q :: st ∧ c.2.2.2[q]? = some (.inr (t, n, .inl f)) ∧ mx_inb i n = true ∧ c' = (c.1 + 1, c.2.1, st, c.2.2.2.set q (.inr (t, n, .inl (upd f i.toNatClampNeg (mx_nar t v))))) := by
  unfold mx_ast at h
  split at h
  · next v i q st hst =>
    split at h
    · next u n f hq =>
      cases hb : Nat.beq u t && mx_inb i n with
      | false => rw [hb] at h; cases h
      | true =>
        rw [hb] at h
        simp only [Bool.and_eq_true] at hb
        have := Nat.eq_of_beq_eq_true hb.1
        subst this
        exact ⟨v, i, q, st, n, f, hst, by rw [← mx_nth_eq]; exact hq, hb.2, (Option.some.inj h).symm⟩
    · cases h
  · cases h
theorem mx_last_inv {c c' : mx_C} (h : mx_last c = some c') : ∃ v i q st n f, c.2.2.1 = .long v :: .int i :: .ref q :: st ∧ c.2.2.2[q]? = some (.inr (3, n, .inr (.inl f))) ∧ mx_inb i n = true ∧ c' = (c.1 + 1, c.2.1, st, c.2.2.2.set q (.inr (3, n, .inr (.inl (vp_updL f i.toNatClampNeg v))))) := by
  unfold mx_last at h
  split at h
  · next v i q st hst =>
    split at h
    · next u n f hq =>
      cases hb : Nat.beq u 3 && mx_inb i n with
      | false => rw [hb] at h; cases h
      | true =>
        rw [hb] at h
        simp only [Bool.and_eq_true] at hb
        have := Nat.eq_of_beq_eq_true hb.1
        subst this
        exact ⟨v, i, q, st, n, f, hst, by rw [← mx_nth_eq]; exact hq, hb.2, (Option.some.inj h).symm⟩
    · cases h
  · cases h
theorem mx_upd_eq (f : Nat → Int32) (k : Nat) (x : Int32) : (fun j => Value.int (upd f k x j)) = updV (fun j => .int (f j)) k (.int x) := by
  funext j
  by_cases h : j = k
  · simp [upd, updV, h]
  · simp [upd, updV, h]
theorem mx_updL_eq (f : Nat → Int64) (k : Nat) (x : Int64) : (fun j => Value.long (vp_updL f k x j)) = updV (fun j => .long (f j)) k (.long x) := by
  funext j
  by_cases h : j = k
  · simp [vp_updL, updV, h]
  · simp [vp_updL, updV, h]
theorem mx_nar_eq (x : Int32) : narrow .byte (.int x) = .int (vp_nar .byte x) ∧ narrow .boolean (.int x) = .int (vp_nar .boolean x) := ⟨rfl, rfl⟩
theorem ms_ast (hd : (a = 0 ∧ decode bytes pc = .ok (.iastore, 1)) ∨ (a = 1 ∧ decode bytes pc = .ok (.bastore, 1)) ∨ (a = 2 ∧ decode bytes pc = .ok (.bastore, 1))) : mx_Snd bytes nL y pc (59, a, b, L) := by
  intro G SA p l e R s m args below meth c0 Q L0 S0 K c c' hpc _ _ _ _ hop hgo H locs ls h1 h2 hP hS hv
  obtain ⟨v, i, q, st, n, f, e1, e2, e3, rfl⟩ := mx_ast_inv hop
  obtain ⟨hx, hb, hml, hown, hts, -, hE, -, -, -⟩ := K
  have hq : q < 1000 := Nat.lt_of_lt_of_le (mx_len_lt e2) h1
  have hin := mx_inb_in e3
  rw [hpc, e1, List.map_cons, List.map_cons, List.map_cons]
  show W p l e R s m args below meth c0 H locs _ _ Q (F0 m pc ls (.int v :: .int i :: .ref (mx_ad G q) :: _))
  rw [mx_ad_lt hq]
  rw [hpc] at hgo
  have hsz : ¬ (i < 0 ∨ (vp_cell (G.2.2.1 a) (n, .inl f)).slots.size ≤ i.toNatClampNeg) := by
    show ¬ (i < 0 ∨ (arrV _ _ _).slots.size ≤ _)
    rw [arrV_size]
    exact hin
  have hat : ∀ (x : Int32) (H1 : Heap), H1[G.1 + q]? = some ((vp_cell (G.2.2.1 a) (n, .inl f)).setSlot i.toNatClampNeg (.int x)) → va_at G.2.2.2 vwCl (G.1 + q, mx_tE G (.inr (a, n, .inl (upd f i.toNatClampNeg x)))) H1 := by
    intro x H1 g
    show H1[G.1 + q]? = some (vp_cell (G.2.2.1 a) (n, .inl (upd f i.toNatClampNeg x)))
    rw [g, vp_cell_i, vp_cell_i, arrV_store, mx_upd_eq]
  rcases hd with ⟨rfl, hd⟩ | ⟨rfl, hd⟩ | ⟨rfl, hd⟩
  · exact W.iast hx hb (hP q _ (mx_W_get e2)) ((hE.1.2 0 _ (mx_tys_at G (by decide))).1 n (fun j => .int (f j))) (fun z => by cases z) hsz rfl rfl hd fun H1 g z oq => mx_Go_set hgo h1 h2 hP hS hv e2 rfl (hat v H1 g) z oq
  · exact W.bast hx hb (hP q _ (mx_W_get e2)) ((hE.1.2 1 _ (mx_tys_at G (by decide))).1 n (fun j => .int (f j))) (fun z => by cases z) hsz rfl rfl hd fun H1 g z oq => mx_Go_set hgo h1 h2 hP hS hv e2 rfl (hat (vp_nar .byte v) H1 g) z oq
  · exact W.zast hx hb (hP q _ (mx_W_get e2)) ((hE.1.2 2 _ (mx_tys_at G (by decide))).1 n (fun j => .int (f j))) (fun z => by cases z) hsz rfl rfl hd fun H1 g z oq => mx_Go_set hgo h1 h2 hP hS hv e2 rfl (hat (vp_nar .boolean v) H1 g) z oq
theorem ms_last (hd : decode bytes pc = .ok (.lastore, 1)) : mx_Snd bytes nL y pc (60, a, b, L) := by
  intro G SA p l e R s m args below meth c0 Q L0 S0 K c c' hpc _ _ _ _ hop hgo H locs ls h1 h2 hP hS hv
  obtain ⟨v, i, q, st, n, f, e1, e2, e3, rfl⟩ := mx_last_inv hop
  obtain ⟨hx, hb, hml, hown, hts, -, hE, -, -, -⟩ := K
  have hq : q < 1000 := Nat.lt_of_lt_of_le (mx_len_lt e2) h1
  have hin := mx_inb_in e3
  rw [hpc, e1, List.map_cons, List.map_cons, List.map_cons]
  show W p l e R s m args below meth c0 H locs _ _ Q (F0 m pc ls (.long v :: .int i :: .ref (mx_ad G q) :: _))
  rw [mx_ad_lt hq]
  rw [hpc] at hgo
  have hsz : ¬ (i < 0 ∨ (vp_cell (G.2.2.1 3) (n, .inr (.inl f))).slots.size ≤ i.toNatClampNeg) := by
    show ¬ (i < 0 ∨ (arrV _ _ _).slots.size ≤ _)
    rw [arrV_size]
    exact hin
  refine W.last hx hb (hP q _ (mx_W_get e2)) ((hE.1.2 3 _ (mx_tys_at G (by decide))).1 n (fun j => .long (f j))) (fun z => by cases z) hsz rfl rfl hd fun H1 g z oq => mx_Go_set hgo h1 h2 hP hS hv e2 rfl ?_ z oq
  show H1[G.1 + q]? = some (vp_cell (G.2.2.1 3) (n, .inr (.inl (vp_updL f i.toNatClampNeg v))))
  rw [g, vp_cell_l, vp_cell_l, arrV_store, mx_updL_eq]
end MSM
end
section
section MSN
variable {bytes : ByteArray} {nL : Nat} {y : MethodName} {pc a b : Nat} {L : List Nat}
/-- how a static field is named -/
theorem ms_gets {q : mx_F} {idx w : Nat} {host : Option String} (hq : mx_SF[a]? = some q) (hl : mx_fl y.cls idx (q.1, q.2.1, q.2.2.1, false) w host) (hd : decode bytes pc = .ok (.getstatic idx, 3)) : mx_Snd bytes nL y pc (55, a, b, L) := by
  intro G SA p l e R s m args below meth c0 Q L0 S0 K c c' hpc _ _ _ _ hop hgo H locs ls h1 h2 hP hS hv
  have hop : (match mx_nth mx_SF a with
    | some q => mx_push q.2.2.2 3 c
    | none => none) = some c' := hop
  rw [mx_nth_eq, hq] at hop
  have h := Option.some.inj hop
  subst h
  obtain ⟨hx, hb, hml, hown, hts, -, hE, -, -, -⟩ := K
  have g := hgo H locs ls h1 h2 hP hS hv
  rw [hpc] at g
  rw [hpc]
  have hZ := hE.2.2.2.1 q (List.mem_of_getElem? hq)
  cases host with
  | none => exact va_gets (own := y.cls) (ref := q.1) (index := idx) hx hb hZ hS hown (hts _ (mx_gt w hl rfl)) (fun _ h => h) hd g
  | some h => exact va_getsN (own := y.cls) (ref := q.1) (host := h) (index := idx) hx hb hZ hS hown (va_Nw.use rfl (hE.2.1 _ (mx_fl_nest hl))) (fun _ h => h) hd g
theorem ms_ldcS {idx : Nat} {tx : String} (hq : mx_SR[a]? = some (y.cls, idx, tx)) (hd : decode bytes pc = .ok (.ldc idx, 2)) : mx_Snd bytes nL y pc (56, a, b, L) := by
  intro G SA p l e R s m args below meth c0 Q L0 S0 K c c' hpc _ _ _ _ hop hgo H locs ls h1 h2 hP hS hv
  have ha : a < 14 := (List.getElem?_eq_some_iff.mp hq).1
  have hop : (bif Nat.blt a 14 then mx_push (.ref (1100 + a)) 2 c else none) = some c' := hop
  have hbl : Nat.blt a 14 = true := Nat.ble_eq_true_of_le ha
  rw [hbl] at hop
  have h := Option.some.inj hop
  subst h
  obtain ⟨hx, hb, hml, hown, hts, -, hE, -, -, -⟩ := K
  have g := hgo H locs ls h1 h2 hP hS hv
  rw [hpc] at g
  rw [hpc]
  have hR := (hE.2.2.2.2 a _ hq).1
  have ea : mx_ad G (1100 + a) = G.2.1 (100 + a) := by
    rw [show 1100 + a = 1000 + (100 + a) by omega]
    exact mx_ad_ge
  have g : W p l e R s m args below meth c0 H locs (c.2.2.2.length - L0) (mx_sz c.2.2.2 - S0) Q (F0 m (pc + 2) ls (.ref (mx_ad G (1100 + a)) :: c.2.2.1.map (mx_tr G))) := g
  rw [ea] at g
  exact va_ldcS hx hb hown hR hd g
theorem mx_gs_ar {q N : Nat} (z1 : 1100 ≤ q) (z2 : q < 1100 + N) : q = 1100 + (q - 1100) ∧ q - 1100 < N ∧ 1200 + (q - 1100) = q + 100 := ⟨by omega, by omega, by omega⟩
theorem mx_gstr_inv {k N : Nat} {c c' : mx_C} (h : mx_gstr k N c = some c') : ∃ i st, i < N ∧ c.2.2.1 = .ref (1100 + i) :: st ∧ c' = (c.1 + 3, c.2.1, (bif Nat.beq k 0 then .ref (1200 + i) else .int 0) :: st, c.2.2.2) := by
  unfold mx_gstr at h
  split at h
  · next q st hst =>
    cases hb : Nat.ble 1100 q && Nat.blt q (1100 + N) with
    | false => rw [hb] at h; cases h
    | true =>
      rw [hb] at h
      simp only [Bool.and_eq_true] at hb
      have z1 : 1100 ≤ q := Nat.le_of_ble_eq_true hb.1
      have z2 : q < 1100 + N := Nat.le_of_ble_eq_true hb.2
      obtain ⟨e, e2, e3⟩ := mx_gs_ar z1 z2
      refine ⟨q - 1100, st, e2, by rw [← e]; exact hst, ?_⟩
      rw [e3]
      exact (Option.some.inj h).symm
  · cases h
theorem ms_gstr {idx w : Nat} (ha : (a = 0 ∧ lw_tbl[w]? = some (.fieldLink y.cls idx "java/lang/String" "value" "[B")) ∨ (a = 1 ∧ lw_tbl[w]? = some (.fieldLink y.cls idx "java/lang/String" "coder" "B"))) (hd : decode bytes pc = .ok (.getfield idx, 3)) : mx_Snd bytes nL y pc (52, a, b, L) := by
  intro G SA p l e R s m args below meth c0 Q L0 S0 K c c' hpc _ _ _ _ hop hgo H locs ls h1 h2 hP hS hv
  obtain ⟨i, st, hi, e1, rfl⟩ := mx_gstr_inv hop
  obtain ⟨hx, hb, hml, hown, hts, -, hE, -, -, -⟩ := K
  have hi14 : i < mx_SR.length := hi
  obtain ⟨-, -, hco, hva⟩ := hE.2.2.2.2 i _ (List.getElem?_eq_getElem hi14)
  have g := hgo H locs ls h1 h2 hP hS hv
  rw [hpc] at g
  rw [hpc, e1, List.map_cons]
  have ea : mx_ad G (1100 + i) = G.2.1 (100 + i) := by
    rw [show 1100 + i = 1000 + (100 + i) by omega]
    exact mx_ad_ge
  have ea2 : mx_ad G (1200 + i) = G.2.1 (200 + i) := by
    rw [show 1200 + i = 1000 + (200 + i) by omega]
    exact mx_ad_ge
  show W p l e R s m args below meth c0 H locs _ _ Q (F0 m pc ls (.ref (mx_ad G (1100 + i)) :: _))
  rw [ea]
  rcases ha with ⟨rfl, hl⟩ | ⟨rfl, hl⟩
  · have g : W p l e R s m args below meth c0 H locs (c.2.2.2.length - L0) (mx_sz c.2.2.2 - S0) Q (F0 m (pc + 3) ls (.ref (mx_ad G (1200 + i)) :: st.map (mx_tr G))) := g
    rw [ea2] at g
    exact vk_getf (own := y.cls) (ref := "java/lang/String") (index := idx) hx hb hva hS hown (hts _ (mx_gt w hl rfl)) (fun _ h => h) hd g
  · exact vk_getf (own := y.cls) (ref := "java/lang/String") (index := idx) hx hb hco hS hown (hts _ (mx_gt w hl rfl)) (fun _ h => h) hd g
/-- new objects -/
theorem mx_new_inv {ci : Nat} {fs : List Value} {c c' : mx_C} (h : mx_new ci fs c = some c') : c.2.2.2.length < 999 ∧ c' = (c.1 + 3, c.2.1, .ref c.2.2.2.length :: c.2.2.1, c.2.2.2 ++ [.inl (ci, fs)]) := by
  unfold mx_new at h
  cases hb : Nat.blt c.2.2.2.length 999 with
  | false => rw [hb] at h; cases h
  | true =>
    rw [hb] at h
    exact ⟨Nat.le_of_ble_eq_true hb, (Option.some.inj h).symm⟩
theorem mx_plain_fs {G : mx_G} {fs : List Value} (h : fs.all (fun v => match v with | .int _ => true | .null => true | _ => false) = true) : fs.map (mx_tr G) = fs := by
  have h2 := List.all_eq_true.mp h
  conv => rhs; rw [← List.map_id fs]
  apply List.map_congr_left
  intro v hv
  have h3 := h2 v hv
  cases v <;> first
    | rfl
    | cases h3
theorem ms_new {C : String} {T : u_T} {N : Nat} {ty : Nat → FieldType} {idx : Nat} {fs : List Value} (w1 w2 w3 : Nat) (hC : mx_Cls a C T N ty) (hf : mx_DF[a]? = some fs) (hlen : fs.length = N) (hp : fs.all (fun v => match v with | .int _ => true | .null => true | _ => false) = true) (hdv : ∀ j, j < N → defaultValue (ty j) = vp_V fs j)
    (h1 : lw_tbl[w1]? = some (.classLink y.cls idx C)) (h2 : lw_tbl[w2]? = some (.instantiable C N)) (h3 : lw_tbl[w3]? = some (.initialized C)) (hd : decode bytes pc = .ok (.new idx, 3)) : mx_Snd bytes nL y pc (61, a, b, L) := by
  intro G SA p l e R s m args below meth c0 Q L0 S0 K c c' hpc z1 z2 z3 z4 hop hgo H locs ls g1 g2 hP hS hv
  have hop : (match mx_nth mx_DF a with
    | some fs => mx_new a fs c
    | none => none) = some c' := hop
  rw [mx_nth_eq, hf] at hop
  obtain ⟨hl, rfl⟩ := mx_new_inv hop
  obtain ⟨hx, hb, hml, hown, hts, -, hE, hbs, -, -⟩ := K
  have hKn := hE.1.1 a _ hC.1
  have zl : (c.2.2.2 ++ [Sum.inl (a, fs)]).length = c.2.2.2.length + 1 := by simp
  have zs : mx_sz (c.2.2.2 ++ [Sum.inl (a, fs)]) = mx_sz c.2.2.2 + N := by rw [mx_sz_app]; show _ + fs.length = _; rw [hlen]
  have z3' : (c.2.2.2 ++ [Sum.inl (a, fs)]).length ≤ R.cells + L0 := z3
  have z4' : mx_sz (c.2.2.2 ++ [Sum.inl (a, fs)]) ≤ R.slots + S0 := z4
  rw [zl] at z3'
  rw [zs] at z4'
  rw [hpc]
  refine W.newcK (own := y.cls) (C := C) (index := idx) (n := N) hx hb hown (hts _ (mx_gt w1 h1 rfl)) (hts _ (mx_gt w2 h2 rfl)) (hts _ (mx_gt w3 h3 rfl)) rfl hd (by omega) (by omega) hKn.2.1 g2 fun H1 kC hkC e1 q1 o1 => ?_
  have hk : ∀ (k : Nat) (x : Nat × va_E), (mx_W G c.2.2.2)[k]? = some x → H1[x.1]? = H[x.1]? := fun k x hx' => o1 x.1 (by rw [← g2]; exact (hP k x hx').lt)
  have hP1 : va_P G.2.2.2 vwCl (mx_W G (c.2.2.2 ++ [.inl (a, fs)])) H1 := by
    rw [mx_W_app]
    refine (hP.kept hk).app (fun k x hx' => ?_)
    have hz : k < 1 := (List.getElem?_eq_some_iff.mp hx').1
    rw [show k = 0 by omega] at hx'
    cases hx'
    refine ⟨_, hC.1, ?_⟩
    show t_OB _ _ _ _ _ (vp_V (fs.map (mx_tr G)))
    rw [mx_plain_fs hp]
    exact (u_born ty hts hC.2.1 hKn hkC e1 hC.2.2.1).to hdv
  have hS1 : va_S (mx_A G) s.heap H1 locs := ⟨Nat.le_trans hS.1 (by omega), fun x u1 u2 => (o1 x (by rw [← g2]; exact Nat.lt_of_lt_of_le u1 hS.1)).trans (hS.2.1 x u1 u2), hS.2.2⟩
  have g := hgo H1 locs ls (by rw [zl]; omega) (by rw [zl, q1]; omega) hP1 hS1 hv
  have g : W p l e R s m args below meth c0 H1 locs ((c.2.2.2 ++ [Sum.inl (a, fs)]).length - L0) (mx_sz (c.2.2.2 ++ [Sum.inl (a, fs)]) - S0) Q (F0 m (c.1 + 3) ls (.ref (mx_ad G c.2.2.2.length) :: c.2.2.1.map (mx_tr G))) := g
  rw [zl, zs, mx_ad_lt (by omega), hpc, Nat.sub_add_comm z1, Nat.sub_add_comm z2] at g
  exact g
theorem mx_newa_inv {t : Nat} {c c' : mx_C} (h : mx_newa t c = some c') : ∃ n st, mx_inb n 2000 = true ∧ c.2.2.2.length < 999 ∧ c.2.2.1 = .int n :: st ∧ c' = (c.1 + 2, c.2.1, .ref c.2.2.2.length :: st, c.2.2.2 ++ [.inr (t, mx_zero t n.toNatClampNeg)]) := by
  unfold mx_newa at h
  split at h
  · next n st hst =>
    cases hb : mx_inb n 2000 && Nat.blt c.2.2.2.length 999 with
    | false => rw [hb] at h; cases h
    | true =>
      rw [hb] at h
      simp only [Bool.and_eq_true] at hb
      exact ⟨n, st, hb.1, Nat.le_of_ble_eq_true hb.2, hst, (Option.some.inj h).symm⟩
  · cases h
theorem mx_zero_len (t n : Nat) : (mx_zero t n).1 = n := by
  unfold mx_zero
  split <;> rfl
theorem mx_zero_cell {t : Nat} (ht : t < 4) (cA : ClassId) (n : Nat) : vp_cell cA (mx_zero t n) = arrV cA n (fun _ => defaultValue (mx_ty t)) := by
  match t, ht with
  | 0, _ => rfl
  | 1, _ => rfl
  | 2, _ => rfl
  | 3, _ => rfl
theorem mx_RA {U : State} {cA : ClassId} {t : Nat} (h : va_RA U cA (mx_ty t)) : U.vm.findClass ("[" ++ (mx_ty t).toString) = some cA := by
  match t, h with
  | 0, h => exact h
  | 1, h => exact h
  | 2, h => exact h
  | t + 3, h => exact h
theorem ms_newa {at' : ArrayType} (w : Nat) (ht : a < 4) (hty : newarray.typeOf at' = mx_ty a) (hw : lw_tbl[w]? = some (.arrayClass (mx_ty a))) (hcb : componentBytes (mx_ty a) ≤ 8) (hd : decode bytes pc = .ok (.newarray at', 2)) : mx_Snd bytes nL y pc (62, a, b, L) := by
  intro G SA p l e R s m args below meth c0 Q L0 S0 K c c' hpc z1 z2 z3 z4 hop hgo H locs ls g1 g2 hP hS hv
  obtain ⟨n, st, hn, hl, e1, rfl⟩ := mx_newa_inv hop
  obtain ⟨hx, hb, hml, hown, hts, -, hE, hbs, -, -⟩ := K
  have hin := mx_inb_in hn
  have hn0 : ¬ n < 0 := fun z => hin (Or.inl z)
  have hn1 : n.toNatClampNeg < 2000 := Nat.not_le.mp fun z => hin (Or.inr z)
  have zl : (c.2.2.2 ++ [Sum.inr (a, mx_zero a n.toNatClampNeg)]).length = c.2.2.2.length + 1 := by simp
  have zs : mx_sz (c.2.2.2 ++ [Sum.inr (a, mx_zero a n.toNatClampNeg)]) = mx_sz c.2.2.2 + n.toNatClampNeg := by rw [mx_sz_app]; show _ + (mx_zero a n.toNatClampNeg).1 = _; rw [mx_zero_len]
  have z3' : (c.2.2.2 ++ [Sum.inr (a, mx_zero a n.toNatClampNeg)]).length ≤ R.cells + L0 := z3
  have z4' : mx_sz (c.2.2.2 ++ [Sum.inr (a, mx_zero a n.toNatClampNeg)]) ≤ R.slots + S0 := z4
  rw [zl] at z3'
  rw [zs] at z4'
  rw [hpc, e1, List.map_cons]
  have hbytes : n.toNatClampNeg * componentBytes (newarray.typeOf at') ≤ 536870912 := by
    rw [hty]
    have := Nat.mul_le_mul (Nat.le_of_lt hn1) hcb
    omega
  refine va_newaK hx hb (atype := at') (by rw [hty]; exact hts _ (mx_gt w hw rfl)) rfl hd rfl hn0 rfl hbytes (by omega) (by omega) g2 fun H1 cA q0 q1 o1 hAr hNm => ?_
  rw [hty] at q0 hAr hNm
  have hcA : cA = G.2.2.1 a := by
    have h5 := mx_RA (hE.1.2 a _ (mx_tys_at G ht)).2
    exact Option.some.inj (hNm.symm.trans h5)
  subst hcA
  have hk : ∀ (k : Nat) (x : Nat × va_E), (mx_W G c.2.2.2)[k]? = some x → H1[x.1]? = H[x.1]? := fun k x hx' => o1 x.1 (by rw [← g2]; exact (hP k x hx').lt)
  have hP1 : va_P G.2.2.2 vwCl (mx_W G (c.2.2.2 ++ [.inr (a, mx_zero a n.toNatClampNeg)])) H1 := by
    rw [mx_W_app]
    refine (hP.kept hk).app (fun k x hx' => ?_)
    have hz : k < 1 := (List.getElem?_eq_some_iff.mp hx').1
    rw [show k = 0 by omega] at hx'
    cases hx'
    show H1[G.1 + c.2.2.2.length]? = some (vp_cell _ _)
    rw [mx_zero_cell ht]
    exact q0
  have hS1 : va_S (mx_A G) s.heap H1 locs := ⟨Nat.le_trans hS.1 (by omega), fun x u1 u2 => (o1 x (by rw [← g2]; exact Nat.lt_of_lt_of_le u1 hS.1)).trans (hS.2.1 x u1 u2), hS.2.2⟩
  have g := hgo H1 locs ls (by rw [zl]; omega) (by rw [zl, q1]; omega) hP1 hS1 hv
  have g : W p l e R s m args below meth c0 H1 locs ((c.2.2.2 ++ [Sum.inr (a, mx_zero a n.toNatClampNeg)]).length - L0) (mx_sz (c.2.2.2 ++ [Sum.inr (a, mx_zero a n.toNatClampNeg)]) - S0) Q (F0 m (c.1 + 2) ls (.ref (mx_ad G c.2.2.2.length) :: st.map (mx_tr G))) := g
  rw [zl, zs, mx_ad_lt (by omega), hpc, Nat.sub_add_comm z1, Nat.sub_add_comm z2] at g
  exact g
theorem mx_cat_eq (G : mx_G) : ∀ st : List Value, ((st.map (mx_tr G)).map fun v => v.category).sum = mx_cat st
  | [] => rfl
  | v :: st => by
    simp only [List.map_cons, List.sum_cons, mx_cat, mx_tr_cat]
    rw [mx_cat_eq G st]
    cases v <;> rfl
theorem ms_obj {idx : Nat} (w1 w2 w3 : Nat) (h1 : lw_tbl[w1]? = some (.methodLink y.cls idx Lib.objectInit)) (h2 : lw_tbl[w2]? = some (.instanceMethod Lib.objectInit)) (h3 : lw_tbl[w3]? = some (.code Lib.objectInit ⟨#[0xb1]⟩ 1 none)) (hd : decode bytes pc = .ok (.invokespecial idx, 3)) : mx_Snd bytes nL y pc (63, a, b, L) := by
  intro G SA p l e R s m args below meth c0 Q L0 S0 K c c' hpc z1 z2 z3 z4 hop hgo H locs ls g1 g2 hP hS hv
  have hop : mx_obj c = some c' := hop
  obtain ⟨hx, hb, hml, hown, hts, -, hE, hbs, hfr, hlo⟩ := K
  unfold mx_obj at hop
  split at hop
  · next q st hst =>
    cases hc : Nat.ble (mx_cat st) 8 with
    | false => rw [hc] at hop; cases hop
    | true =>
      rw [hc] at hop
      have h := Option.some.inj hop
      subst h
      have hcat := Nat.le_of_ble_eq_true hc
      have g := hgo H locs ls g1 g2 hP hS hv
      rw [hpc] at g
      rw [hpc, hst, List.map_cons]
      refine W.objInit (own := y.cls) (idx := idx) hx hb hown (hts _ (mx_gt w1 h1 rfl)) (hts _ (mx_gt w2 h2 rfl)) (hts _ (mx_gt w3 h3 rfl)) rfl (hv.1.trans hml.symm) (a := mx_ad G q) (rest := st.map (mx_tr G)) rfl hd hfr ?_ g
      rw [mx_cat_eq]
      show 2 * 0 + _ + 12 ≤ _
      omega
  · cases hop
theorem mx_ia_inv {M : mx_M} {q : Nat} {f : Nat × (Nat → Int32)} (h : mx_ia M q = some f) : M[q]? = some (.inr (0, f.1, .inl f.2)) := by
  unfold mx_ia at h
  split at h
  · next t n f' hq =>
    cases hb : Nat.beq t 0 with
    | false => rw [hb] at h; cases h
    | true =>
      rw [hb] at h
      have := Nat.eq_of_beq_eq_true hb
      subst this
      cases h
      rw [← mx_nth_eq]
      exact hq
  · cases h
theorem mx_copy_inv {c c' : mx_C} (h : mx_copy c = some c') : ∃ n dp q1 sp q0 st f g, c.2.2.1 = .int n :: .int dp :: .ref q1 :: .int sp :: .ref q0 :: st ∧ mx_ia c.2.2.2 q0 = some f ∧ mx_ia c.2.2.2 q1 = some g ∧ mx_inb sp 2000 = true ∧ mx_inb dp 2000 = true ∧ mx_inb n 2000 = true ∧ sp.toNatClampNeg + n.toNatClampNeg ≤ f.1 ∧ dp.toNatClampNeg + n.toNatClampNeg ≤ g.1 ∧ mx_cat st ≤ 8 ∧
    c' = (c.1 + 3, c.2.1, st, c.2.2.2.set q1 (.inr (0, g.1, .inl (va_cpy f.2 g.2 sp.toNatClampNeg dp.toNatClampNeg n.toNatClampNeg)))) := by
  unfold mx_copy at h
  split at h
  · next n dp q1 sp q0 st hst =>
    split at h
    · next f hf =>
      split at h
      · next g hg =>
        cases hb : mx_inb sp 2000 && (mx_inb dp 2000 && (mx_inb n 2000 && (Nat.ble (sp.toNatClampNeg + n.toNatClampNeg) f.1 && (Nat.ble (dp.toNatClampNeg + n.toNatClampNeg) g.1 && Nat.ble (mx_cat st) 8)))) with
        | false => rw [hb] at h; cases h
        | true =>
          rw [hb] at h
          simp only [Bool.and_eq_true] at hb
          obtain ⟨b1, b2, b3, b4, b5, b6⟩ := hb
          exact ⟨n, dp, q1, sp, q0, st, f, g, hst, hf, hg, b1, b2, b3, Nat.le_of_ble_eq_true b4, Nat.le_of_ble_eq_true b5, Nat.le_of_ble_eq_true b6, (Option.some.inj h).symm⟩
      · cases h
    · cases h
  · cases h
theorem ms_copy {idx : Nat} (w1 w2 w3 w4 : Nat) (hw1 : lw_tbl[w1]? = some (.methodLink y.cls idx arraycopyName)) (hw2 : lw_tbl[w2]? = some (.native arraycopyName)) (hw3 : lw_tbl[w3]? = some (.static arraycopyName)) (hw4 : lw_tbl[w4]? = some (.initialized "java/lang/System")) (hd : decode bytes pc = .ok (.invokestatic idx, 3)) : mx_Snd bytes nL y pc (64, a, b, L) := by
  intro G SA p l e R s m args below meth c0 Q L0 S0 K c c' hpc z1 z2 z3 z4 hop hgo H locs ls g1 g2 hP hS hv
  obtain ⟨n, dp, q1, sp, q0, st, f, g, e1, e2, e3, b1, b2, b3, b4, b5, b6, rfl⟩ := mx_copy_inv hop
  obtain ⟨hx, hb, hml, hown, hts, -, hE, hbs, hfr, hlo⟩ := K
  have ha0 := mx_ia_inv e2
  have ha1 := mx_ia_inv e3
  have hq0 : q0 < 1000 := Nat.lt_of_lt_of_le (mx_len_lt ha0) g1
  have hq1 : q1 < 1000 := Nat.lt_of_lt_of_le (mx_len_lt ha1) g1
  have h1 : ¬ sp < 0 := fun z => mx_inb_in b1 (Or.inl z)
  have h2 : ¬ dp < 0 := fun z => mx_inb_in b2 (Or.inl z)
  have h3 : ¬ n < 0 := fun z => mx_inb_in b3 (Or.inl z)
  rw [hpc, e1]
  simp only [List.map_cons]
  show W p l e R s m args below meth c0 H locs _ _ Q (F0 m pc ls (.int n :: .int dp :: .ref (mx_ad G q1) :: .int sp :: .ref (mx_ad G q0) :: _))
  rw [mx_ad_lt hq0, mx_ad_lt hq1]
  have nn : ∀ z : Int32, ¬ z < 0 → z.toInt = (z.toNatClampNeg : Int) := by
    intro z hz
    have hz0 : (0 : Int) ≤ z.toInt := by
      have := Int32.not_lt.mp hz
      simpa using Int32.le_iff_toInt_le.mp this
    show z.toInt = ((z.toInt.toNat : Nat) : Int)
    omega
  have hml' : c0.maxLocals = ls.size := hml.trans hv.1.symm
  intro T hT X
  have hc0 : H[G.1 + q0]? = some (vp_cell (G.2.2.1 0) (f.1, .inl f.2)) := hP q0 _ (mx_W_get ha0)
  have hc1 : H[G.1 + q1]? = some (vp_cell (G.2.2.1 0) (g.1, .inl g.2)) := hP q1 _ (mx_W_get ha1)
  have hT0 := mx_tys_at G (t := 0) (by decide)
  obtain ⟨-, k0, hk0, cm0, hkk0⟩ := (hE.1.2 0 _ hT0).1 f.1 (fun j => .int (f.2 j))
  obtain ⟨-, k1, hk1, cm1, hkk1⟩ := (hE.1.2 0 _ hT0).1 g.1 (fun j => .int (g.2 j))
  obtain ⟨vm', X', step⟩ := X.arraycopy hx hown (hts _ (mx_gt w1 hw1 rfl)) (hts _ (mx_gt w2 hw2 rfl)) (hts _ (mx_gt w3 hw3 rfl)) (hts _ (mx_gt w4 hw4 rfl)) (src := G.1 + q0) (dst := G.1 + q1) (cs := vp_cell (G.2.2.1 0) (f.1, .inl f.2)) (cd := vp_cell (G.2.2.1 0) (g.1, .inl g.2)) (srcPos := sp) (destPos := dp) (n := n) (by rw [hT]; exact hc0) (by rw [hT]; exact hc1)
    (fun _ h => by cases h) (fun _ h => by cases h) (fun h => by cases h) (fun h => by cases h) hk0 hk1 hkk0 hkk1 (by simp [refKind, mx_ty]) h1 h2 h3
    (by rw [nn sp h1, nn n h3]; show ¬ _ > ((arrV _ f.1 (fun j => .int (f.2 j))).slots.size : Int); rw [arrV_size]; omega)
    (by rw [nn dp h2, nn n h3]; show ¬ _ > ((arrV _ g.1 (fun j => .int (g.2 j))).slots.size : Int); rw [arrV_size]; omega)
    (fun vm₁ _ i hi => by
      have e : (vp_cell (G.2.2.1 0) (f.1, .inl f.2)).slots.getD (sp.toNatClampNeg + i) .null = .int (f.2 (sp.toNatClampNeg + i)) := by
        show (arrV _ f.1 (fun j => .int (f.2 j))).slots.getD _ _ = _
        rw [Array.getD_eq_getD_getElem?, arrV_read _ _ (by omega)]
        rfl
      refine ⟨?_, ?_⟩
      · rw [e]
        rfl
      · rw [e]
        exact trivial)
    (g := F0 m pc ls (.int n :: .int dp :: .ref (G.1 + q1) :: .int sp :: .ref (G.1 + q0) :: st.map (mx_tr G))) rfl (by rw [hml']) (rest := st.map (mx_tr G)) rfl (by rw [hb]; exact hd) hfr (by
      rw [mx_cat_eq]
      show 2 * 0 + _ + (nativeFrameWords "java/lang/System" "arraycopy" 5 + 11) ≤ _
      have : nativeFrameWords "java/lang/System" "arraycopy" 5 ≤ 20 := by decide
      omega)
  have e9 : copied (vp_cell (G.2.2.1 0) (f.1, .inl f.2)) (vp_cell (G.2.2.1 0) (g.1, .inl g.2)) sp dp n = vp_cell (G.2.2.1 0) (g.1, .inl (va_cpy f.2 g.2 sp.toNatClampNeg dp.toNatClampNeg n.toNatClampNeg)) := va_copied (fun z => .int z) _ _ f.2 g.2 b4
  rw [e9] at X' step
  have hl : G.1 + q1 < H.size := (Array.getElem?_eq_some_iff.mp hc1).1
  have hheap : ((T.setVm vm').setCell (G.1 + q1) (vp_cell (G.2.2.1 0) (g.1, .inl (va_cpy f.2 g.2 sp.toNatClampNeg dp.toNatClampNeg n.toNatClampNeg)))).heap = H.setIfInBounds (G.1 + q1) (vp_cell (G.2.2.1 0) (g.1, .inl (va_cpy f.2 g.2 sp.toNatClampNeg dp.toNatClampNeg n.toNatClampNeg))) := by rw [← hT]; rfl
  have oq : ∀ x : Nat, x ≠ G.1 + q1 → (H.setIfInBounds (G.1 + q1) (vp_cell (G.2.2.1 0) (g.1, .inl (va_cpy f.2 g.2 sp.toNatClampNeg dp.toNatClampNeg n.toNatClampNeg))))[x]? = H[x]? := fun x hx' => by simp [Array.getElem?_setIfInBounds, Ne.symm hx']
  have zl : (c.2.2.2.set q1 (.inr (0, g.1, .inl (va_cpy f.2 g.2 sp.toNatClampNeg dp.toNatClampNeg n.toNatClampNeg)))).length = c.2.2.2.length := List.length_set
  have zs : mx_sz (c.2.2.2.set q1 (.inr (0, g.1, .inl (va_cpy f.2 g.2 sp.toNatClampNeg dp.toNatClampNeg n.toNatClampNeg)))) = mx_sz c.2.2.2 := mx_sz_set ha1 rfl
  have gg : ∀ locs1 : List Loc, va_S (mx_A G) s.heap (H.setIfInBounds (G.1 + q1) (vp_cell (G.2.2.1 0) (g.1, .inl (va_cpy f.2 g.2 sp.toNatClampNeg dp.toNatClampNeg n.toNatClampNeg)))) locs1 → W p l e R s m args below meth c0 (H.setIfInBounds (G.1 + q1) (vp_cell (G.2.2.1 0) (g.1, .inl (va_cpy f.2 g.2 sp.toNatClampNeg dp.toNatClampNeg n.toNatClampNeg)))) locs1 (c.2.2.2.length - L0) (mx_sz c.2.2.2 - S0) Q (F0 m (pc + 3) ls (st.map (mx_tr G))) := by
    intro locs1 hS1
    have g5 := hgo _ locs1 ls (by rw [zl]; exact g1) (by rw [zl, Array.size_setIfInBounds]; exact g2) (mx_P_set hP ha1 (show (H.setIfInBounds (G.1 + q1) _)[G.1 + q1]? = some _ by simp [Array.getElem?_setIfInBounds, hl]) oq) hS1 hv
    have g6 : W p l e R s m args below meth c0 _ locs1 ((c.2.2.2.set q1 (.inr (0, g.1, .inl (va_cpy f.2 g.2 sp.toNatClampNeg dp.toNatClampNeg n.toNatClampNeg)))).length - L0) (mx_sz (c.2.2.2.set q1 (.inr (0, g.1, .inl (va_cpy f.2 g.2 sp.toNatClampNeg dp.toNatClampNeg n.toNatClampNeg)))) - S0) Q (F0 m (c.1 + 3) ls (st.map (mx_tr G))) := g5
    rw [zl, zs, hpc] at g6
    exact g6
  obtain ⟨t, a1, b1'⟩ := gg _ ⟨by simp; exact hS.1, fun x u1 u2 => by
      rw [oq x (fun e => u2 (by rw [e]; exact mx_A_in G q1))]
      exact hS.2.1 x u1 u2, fun x hx' => by
      rcases List.mem_append.mp hx' with h | h
      · exact hS.2.2 x h
      · obtain ⟨z, -, hz⟩ := List.mem_map.mp h
        rw [← hz]
        exact mx_A_in G q1⟩ _ hheap X'
  exact ⟨t, step t a1, b1'⟩
end MSN
end
section
/-! THE SMALL MACHINE RUNS -/
def mx_find (pc : Nat) : List (Nat × mx_I) → Option mx_I
  | [] => none
  | (k, i) :: r => bif Nat.beq k pc then some i else mx_find pc r
def mx_fetch (t : List (List (Nat × mx_I))) (pc : Nat) : Option mx_I := match mx_nth t (pc / 16) with
  | some ch => mx_find pc ch
  | none => none
theorem mx_find_mem {pc : Nat} {i : mx_I} : ∀ {l : List (Nat × mx_I)}, mx_find pc l = some i → (pc, i) ∈ l
  | [], h => by simp [mx_find] at h
  | (k, j) :: r, h => by
    unfold mx_find at h
    cases hb : Nat.beq k pc with
    | true =>
      rw [hb] at h
      have := Nat.eq_of_beq_eq_true hb
      subst this
      cases h
      exact List.mem_cons_self
    | false =>
      rw [hb] at h
      exact List.mem_cons_of_mem _ (mx_find_mem h)
theorem mx_fetch_mem {t : List (List (Nat × mx_I))} {pc : Nat} {i : mx_I} (h : mx_fetch t pc = some i) : ∃ ch ∈ t, (pc, i) ∈ ch := by
  unfold mx_fetch at h
  split at h
  · next ch hch => exact ⟨ch, List.mem_of_getElem? (by rw [← mx_nth_eq]; exact hch), mx_find_mem h⟩
  · cases h
/-- what a method's answer must fit: 0 any int, 1 a byte, 2 a boolean, 3 a char -/
def mx_fit (a : Nat) (v : Int32) : Bool := match a with
  | 0 => true
  | 1 => vp_nar .byte v == v
  | 2 => vp_nar .boolean v == v
  | _ => vp_nar .char v == v
def mx_ret (i : mx_I) (st : List Value) : Option (Option Value) := match i.1 with
  | 80 => (match st with
    | [.int v] => bif mx_fit i.2.1 v then some (some (.int v)) else none
    | _ => none)
  | 81 => (match st with
    | [.long v] => some (some (.long v))
    | _ => none)
  | 82 => (match st with
    | [.ref v] => some (some (.ref v))
    | _ => none)
  | 83 => (match st with
    | [] => some none
    | _ => none)
  | _ => none
/-- the receiver is of the class that is asked for (98: any, 99: a string) -/
def mx_rcv1 (ci : Nat) (as : List Value) (M : mx_M) : Bool := match as with
  | .ref b :: _ => bif Nat.beq ci 98 then true else bif Nat.beq ci 99 then Nat.ble 1100 b && Nat.blt b 1114 else (match mx_nth M b with
    | some (.inl (cj, _)) => Nat.beq cj ci
    | _ => false)
  | _ => false
def mx_rcv (L : List Nat) (as : List Value) (M : mx_M) : Bool := match L with
  | [] => true
  | ci :: _ => mx_rcv1 ci as M
def mx_one (call : Nat → List Value → mx_M → Option Value → mx_M → Prop) (op : mx_I → mx_C → Option mx_C) (i : mx_I) (c : mx_C) (K : mx_C → Prop) (Kr : Option Value → mx_M → Prop) : Prop :=
  (i.1 < 70 ∧ ∃ c', op i c = some c' ∧ K c') ∨
  (i.1 = 70 ∧ ∃ (as rest : List Value) (r : Option Value) (M' : mx_M), c.2.2.1 = as.reverse ++ rest ∧ as.length = i.2.2.1 ∧ mx_cat rest ≤ 8 ∧ mx_rcv i.2.2.2 as c.2.2.2 = true ∧ call i.2.1 as c.2.2.2 r M' ∧ K (c.1 + 3, c.2.1, r.toList ++ rest, M')) ∨
  (80 ≤ i.1 ∧ ∃ r, mx_ret i c.2.2.1 = some r ∧ Kr r c.2.2.2)
def mx_run (call : Nat → List Value → mx_M → Option Value → mx_M → Prop) (op : mx_I → mx_C → Option mx_C) (t : List (List (Nat × mx_I))) : Nat → mx_C → Option Value → mx_M → Prop
  | 0, _, _, _ => False
  | n + 1, c, r, M => ∃ i, mx_fetch t c.1 = some i ∧ mx_one call op i c (fun c' => mx_run call op t n c' r M) (fun r' M' => r' = r ∧ M' = M)
/-- a method run from its start to its end, with calls less than d deep: the method's number, its arguments, the memory; what it answers, the memory behind it -/
def mx_Ev (SA : mx_S) (code : Nat → Nat × List (List (Nat × mx_I))) : Nat → Nat → List Value → mx_M → Option Value → mx_M → Prop
  | 0, _, _, _, _, _ => False
  | d + 1, k, as, M, r, M' => mx_cat as ≤ (code k).1 ∧ M.length ≤ 1000 ∧ ∃ n, mx_run (mx_Ev SA code d) (mx_op SA mx_SF mx_DF 14) (code k).2 n (0, lv_args 0 as, [], M) r M'
/-! memory only grows -/
theorem mm_dup {c c' : mx_C} (h : mx_dup c = some c') : c'.2.2.2 = c.2.2.2 := by
  unfold mx_dup at h
  split at h
  · next v st hst =>
    cases hb : mx_is2 v with
    | true => rw [hb] at h; cases h
    | false => rw [hb] at h; cases h; rfl
  · cases h
theorem mm_pop {c c' : mx_C} (h : mx_pop c = some c') : c'.2.2.2 = c.2.2.2 := by
  unfold mx_pop at h
  split at h
  · next v st hst =>
    cases hb : mx_is2 v with
    | true => rw [hb] at h; cases h
    | false => rw [hb] at h; cases h; rfl
  · cases h
theorem mm_dup2 {c c' : mx_C} (h : mx_dup2 c = some c') : c'.2.2.2 = c.2.2.2 := by
  unfold mx_dup2 at h
  split at h
  · next v w st hst =>
    cases hb : mx_is2 v || mx_is2 w with
    | true => rw [hb] at h; cases h
    | false => rw [hb] at h; cases h; rfl
  · cases h
theorem mm_alen {SA : mx_S} {c c' : mx_C} (h : mx_alen SA c = some c') : c'.2.2.2 = c.2.2.2 := by
  unfold mx_alen at h
  split at h
  · split at h
    · cases h; rfl
    · cases h
  · cases h
theorem mm_obj {c c' : mx_C} (h : mx_obj c = some c') : c'.2.2.2 = c.2.2.2 := by
  unfold mx_obj at h
  split at h
  · next q st hst =>
    cases hb : Nat.ble (mx_cat st) 8 with
    | true => rw [hb] at h; cases h; rfl
    | false => rw [hb] at h; cases h
  · cases h
theorem mm_push {v : Value} {n : Nat} {c c' : mx_C} (h : mx_push v n c = some c') : c'.2.2.2 = c.2.2.2 := by
  have h := Option.some.inj h
  subst h
  rfl
theorem mm_if {f : Int32 → Bool} {t : Nat} {c c' : mx_C} (h : mx_if f t c = some c') : c'.2.2.2 = c.2.2.2 := by
  unfold mx_if at h
  split at h
  · cases h; rfl
  · cases h
theorem mm_if2 {f : Int32 → Int32 → Bool} {t : Nat} {c c' : mx_C} (h : mx_if2 f t c = some c') : c'.2.2.2 = c.2.2.2 := by
  unfold mx_if2 at h
  split at h
  · cases h; rfl
  · cases h
theorem mm_sw {f : Int32 → Nat} {c c' : mx_C} (h : mx_sw f c = some c') : c'.2.2.2 = c.2.2.2 := by
  unfold mx_sw at h
  split at h
  · cases h; rfl
  · cases h
theorem mm_inc {a d : Nat} {c c' : mx_C} (h : mx_inc a d c = some c') : c'.2.2.2 = c.2.2.2 := by
  unfold mx_inc at h
  split at h
  · cases h; rfl
  · cases h
/-- how an instruction may change the memory -/
def mx_Mv (M M' : mx_M) : Prop := M' = M ∨ (∃ (q : Nat) (e0 e1 : mx_E), M[q]? = some e0 ∧ mx_szE e1 = mx_szE e0 ∧ M' = M.set q e1) ∨ (∃ e : mx_E, M.length < 999 ∧ M' = M ++ [e])
theorem mx_Mv.mono {M M' : mx_M} (h : mx_Mv M M') : (M.length ≤ M'.length ∧ mx_sz M ≤ mx_sz M') ∧ (M.length ≤ 1000 → M'.length ≤ 1000) := by
  rcases h with rfl | ⟨q, e0, e1, h0, hs, rfl⟩ | ⟨e, hl, rfl⟩
  · exact ⟨⟨Nat.le_refl _, Nat.le_refl _⟩, id⟩
  · rw [List.length_set, mx_sz_set h0 hs]
    exact ⟨⟨Nat.le_refl _, Nat.le_refl _⟩, id⟩
  · rw [mx_sz_app, List.length_append]
    exact ⟨⟨by simp, by omega⟩, fun _ => by simp; omega⟩
theorem mx_op_mv {SA : mx_S} {SF : List mx_F} {DF : List (List Value)} {N : Nat} {i : mx_I} {c c' : mx_C} (h : mx_op SA SF DF N i c = some c') : mx_Mv c.2.2.2 c'.2.2.2 := by
  unfold mx_op at h
  split at h
  · exact Or.inl (mm_push h)
  · exact Or.inl (mm_push h)
  · obtain ⟨v, -, -, rfl⟩ := mx_ldi_inv h; exact Or.inl rfl
  · obtain ⟨v, -, -, rfl⟩ := mx_ldl_inv h; exact Or.inl rfl
  · obtain ⟨v, -, -, rfl⟩ := mx_lda_inv h; exact Or.inl rfl
  · obtain ⟨v, st, -, -, rfl⟩ := mx_sti_inv h; exact Or.inl rfl
  · obtain ⟨v, st, -, -, rfl⟩ := mx_stl_inv h; exact Or.inl rfl
  · obtain ⟨v, st, -, -, rfl⟩ := mx_sta_inv h; exact Or.inl rfl
  · exact Or.inl (mm_inc h)
  · obtain ⟨x, z, v, st, -, -, rfl⟩ := mx_ii_inv h; exact Or.inl rfl
  · obtain ⟨x, z, v, st, -, -, rfl⟩ := mx_ii_inv h; exact Or.inl rfl
  · obtain ⟨x, z, v, st, -, -, rfl⟩ := mx_ii_inv h; exact Or.inl rfl
  · obtain ⟨x, z, v, st, -, -, rfl⟩ := mx_ii_inv h; exact Or.inl rfl
  · obtain ⟨x, z, v, st, -, -, rfl⟩ := mx_ii_inv h; exact Or.inl rfl
  · obtain ⟨x, z, v, st, -, -, rfl⟩ := mx_ii_inv h; exact Or.inl rfl
  · obtain ⟨x, z, v, st, -, -, rfl⟩ := mx_ii_inv h; exact Or.inl rfl
  · obtain ⟨x, st, -, rfl⟩ := mx_i1_inv h; exact Or.inl rfl
  · obtain ⟨x, z, v, st, -, -, rfl⟩ := mx_ii_inv h; exact Or.inl rfl
  · obtain ⟨x, z, v, st, -, -, rfl⟩ := mx_ii_inv h; exact Or.inl rfl
  · obtain ⟨x, z, v, st, -, -, rfl⟩ := mx_ll_inv h; exact Or.inl rfl
  · obtain ⟨x, z, v, st, -, -, rfl⟩ := mx_ll_inv h; exact Or.inl rfl
  · obtain ⟨x, z, v, st, -, -, rfl⟩ := mx_ll_inv h; exact Or.inl rfl
  · obtain ⟨x, z, v, st, -, -, rfl⟩ := mx_ll_inv h; exact Or.inl rfl
  · obtain ⟨x, z, v, st, -, -, rfl⟩ := mx_ll_inv h; exact Or.inl rfl
  · obtain ⟨x, z, v, st, -, -, rfl⟩ := mx_ll_inv h; exact Or.inl rfl
  · obtain ⟨x, z, st, -, rfl⟩ := mx_li_inv h; exact Or.inl rfl
  · obtain ⟨x, z, st, -, rfl⟩ := mx_li_inv h; exact Or.inl rfl
  · obtain ⟨x, z, v, st, -, -, rfl⟩ := mx_ll_inv h; exact Or.inl rfl
  · obtain ⟨x, st, -, rfl⟩ := mx_i1_inv h; exact Or.inl rfl
  · obtain ⟨x, st, -, rfl⟩ := mx_l1_inv h; exact Or.inl rfl
  · obtain ⟨x, st, -, rfl⟩ := mx_i1_inv h; exact Or.inl rfl
  · obtain ⟨x, st, -, rfl⟩ := mx_i1_inv h; exact Or.inl rfl
  · obtain ⟨x, st, -, rfl⟩ := mx_i1_inv h; exact Or.inl rfl
  · exact Or.inl (mm_dup h)
  · exact Or.inl (mm_pop h)
  · exact Or.inl (mm_dup2 h)
  · exact Or.inl (mm_if h)
  · exact Or.inl (mm_if h)
  · exact Or.inl (mm_if h)
  · exact Or.inl (mm_if h)
  · exact Or.inl (mm_if h)
  · exact Or.inl (mm_if h)
  · exact Or.inl (mm_if2 h)
  · exact Or.inl (mm_if2 h)
  · exact Or.inl (mm_if2 h)
  · exact Or.inl (mm_if2 h)
  · exact Or.inl (mm_if2 h)
  · exact Or.inl (mm_if2 h)
  · cases h; exact Or.inl rfl
  · exact Or.inl (mm_sw h)
  · exact Or.inl (mm_sw h)
  · obtain ⟨q, st, fs, v, -, -, -, rfl⟩ := mx_get_inv h; exact Or.inl rfl
  · obtain ⟨i, st, -, -, rfl⟩ := mx_gstr_inv h; exact Or.inl rfl
  · obtain ⟨q, st, fs, v, -, h1, -, rfl⟩ := mx_put_inv h; exact Or.inr (Or.inl ⟨_, _, _, h1, by simp [mx_szE], rfl⟩)
  · obtain ⟨q, st, fs, v, -, h1, -, rfl⟩ := mx_putF_inv h; exact Or.inr (Or.inl ⟨_, _, _, h1, by simp [mx_szE], rfl⟩)
  · split at h
    · exact Or.inl (mm_push h)
    · cases h
  · cases hb : Nat.blt i.2.1 N with
    | true => rw [hb] at h; exact Or.inl (mm_push h)
    | false => rw [hb] at h; cases h
  · exact Or.inl (mm_alen h)
  · obtain ⟨i, q, st, x, -, -, -, rfl⟩ := mx_ald_inv h; exact Or.inl rfl
  · obtain ⟨v, i, q, st, n, f, -, h1, -, rfl⟩ := mx_ast_inv h; refine Or.inr (Or.inl ⟨_, _, _, h1, ?_, rfl⟩); rfl
  · obtain ⟨v, i, q, st, n, f, -, h1, -, rfl⟩ := mx_last_inv h; refine Or.inr (Or.inl ⟨_, _, _, h1, ?_, rfl⟩); rfl
  · split at h
    · obtain ⟨hl, rfl⟩ := mx_new_inv h; exact Or.inr (Or.inr ⟨_, hl, rfl⟩)
    · cases h
  · obtain ⟨n, st, -, hl, -, rfl⟩ := mx_newa_inv h; exact Or.inr (Or.inr ⟨_, hl, rfl⟩)
  · exact Or.inl (mm_obj h)
  · obtain ⟨n, dp, q1, sp, q0, st, f, g, -, -, h1, -, -, -, -, -, -, rfl⟩ := mx_copy_inv h; refine Or.inr (Or.inl ⟨_, _, _, mx_ia_inv h1, ?_, rfl⟩); rfl
  · cases h
theorem mx_op_mono {SA : mx_S} {SF : List mx_F} {DF : List (List Value)} {N : Nat} {i : mx_I} {c c' : mx_C} (h : mx_op SA SF DF N i c = some c') : (c.2.2.2.length ≤ c'.2.2.2.length ∧ mx_sz c.2.2.2 ≤ mx_sz c'.2.2.2) ∧ (c.2.2.2.length ≤ 1000 → c'.2.2.2.length ≤ 1000) := (mx_op_mv h).mono
def mx_Gr (M M' : mx_M) : Prop := (M.length ≤ M'.length ∧ mx_sz M ≤ mx_sz M') ∧ (M.length ≤ 1000 → M'.length ≤ 1000)
theorem mx_Gr.trans {M M1 M2 : mx_M} (h : mx_Gr M M1) (h2 : mx_Gr M1 M2) : mx_Gr M M2 := ⟨⟨Nat.le_trans h.1.1 h2.1.1, Nat.le_trans h.1.2 h2.1.2⟩, fun z => h2.2 (h.2 z)⟩
theorem mx_Gr.rf (M : mx_M) : mx_Gr M M := ⟨⟨Nat.le_refl _, Nat.le_refl _⟩, id⟩
theorem mx_run_mono {call : Nat → List Value → mx_M → Option Value → mx_M → Prop} {SA : mx_S} {SF : List mx_F} {DF : List (List Value)} {N : Nat} {t : List (List (Nat × mx_I))} (hc : ∀ k as M r M', call k as M r M' → mx_Gr M M') {r : Option Value} {Mf : mx_M} : ∀ {n : Nat} {c : mx_C}, mx_run call (mx_op SA SF DF N) t n c r Mf → mx_Gr c.2.2.2 Mf
  | 0, _, h => h.elim
  | n + 1, c, h => by
    obtain ⟨i, -, h | h | h⟩ := h
    · obtain ⟨-, c', h1, h2⟩ := h
      exact mx_Gr.trans (mx_op_mono h1) (mx_run_mono hc h2)
    · obtain ⟨-, as, rest, r1, M1, -, -, -, -, h1, h2⟩ := h
      exact mx_Gr.trans (hc _ _ _ _ _ h1) (mx_run_mono hc h2)
    · obtain ⟨-, r1, -, rfl, h2⟩ := h
      rw [h2]
      exact mx_Gr.rf _
theorem mx_Ev_mono {SA : mx_S} {code : Nat → Nat × List (List (Nat × mx_I))} : ∀ (d k : Nat) (as : List Value) (M : mx_M) (r : Option Value) (M' : mx_M), mx_Ev SA code d k as M r M' → mx_Gr M M'
  | 0, _, _, _, _, _, h => h.elim
  | d + 1, k, as, M, r, M', h => by
    obtain ⟨-, -, n, h⟩ := h
    exact mx_run_mono (mx_Ev_mono d) h
end
section
/-! A METHOD'S RUN IS A CONTRACT -/
abbrev mx_Q : Type := MethodName × ByteArray × Nat × Option FieldType
def mx_wd (q : mx_Q) : List Cond := .code q.1 q.2.1 q.2.2.1 q.2.2.2 :: mx_GT
def mx_rm (d : Nat) (M M' : mx_M) : Room := { frames := d, cells := M'.length - M.length, slots := mx_sz M' - mx_sz M, locals := 40 * d }
def mx_Pc (G : mx_G) (SA : mx_S) (as : List Value) (M : mx_M) : Array Value → State → Prop := fun v U => v = (as.map (mx_tr G)).toArray ∧ U.heap.size = G.1 + M.length ∧ va_P G.2.2.2 vwCl (mx_W G M) U.heap ∧ mx_Env G SA mx_SF mx_SR U U.heap
def mx_Qc (G : mx_G) (r : Option Value) (M' : mx_M) : Array Value → State → Outcome → State → Prop := fun _ st oc t => oc = .returned (r.map (mx_tr G)) ∧ t.heap.size = G.1 + M'.length ∧ va_P G.2.2.2 vwCl (mx_W G M') t.heap ∧ va_F (mx_A G) st t
theorem mx_Pc_blind (G : mx_G) (SA : mx_S) (as : List Value) (M : mx_M) : FrameBlind (mx_Pc G SA as M) := fun a U g mk h => ⟨h.1, h.2.1, h.2.2.1, mx_Env_same (U := U.calling g mk a) h.2.2.2 rfl⟩
/-- what is known of a method -/
def mx_Mok (q : mx_Q) : Prop := plainName q.1.cls = true ∧ q.2.2.1 ≤ 21 ∧ Cond.code q.1 q.2.1 q.2.2.1 q.2.2.2 ∈ mx_GT ∧ Cond.initialized q.1.cls ∈ mx_GT ∧ q.1.cls ≠ "java/lang/invoke/MethodHandle" ∧ q.1.cls ≠ "java/lang/invoke/VarHandle"
theorem mx_good {w : Cond} (h : w ∈ mx_GT) : goodWord w = true := (List.mem_filter.mp h).2
theorem mx_wd_good {q : mx_Q} (h : mx_Mok q) : GoodIn mx_GT (mx_wd q) := by
  intro w hw
  rcases List.mem_cons.mp hw with rfl | hw
  · exact ⟨h.2.2.1, good_of_word (mx_good h.2.2.1)⟩
  · exact ⟨hw, good_of_word (mx_good hw)⟩
section MXC
variable {p : Program} {l : Launch} {e : Env} {R : Room} {s : State} {m : MethodId} {args : Array Value} {below : List Frame} {meth : Method} {c0 : Code} {H : Heap} {locs : List Loc} {cells slots mc ms : Nat} {Q : State → Prop} {pc : Nat} {ls : Array Slot} {rest st0 : List Value} {G : mx_G} {SA : mx_S}
theorem mx_callW {r : Option Value} {M' : mx_M} {a : Array Value} (hr : va_Run p l e R s m args below meth c0 H locs cells slots mc ms (F0 m pc ls st0) rest (mx_Qc G r M' a) (mx_A G)) (hS : va_S (mx_A G) s.heap H locs)
    (kk : ∀ (H1 : Heap) (locs1 : List Loc), H1.size = G.1 + M'.length → va_P G.2.2.2 vwCl (mx_W G M') H1 → va_S (mx_A G) s.heap H1 locs1 → W p l e R s m args below meth c0 H1 locs1 (cells + mc) (slots + ms) Q (F0 m (pc + 3) ls ((r.map (mx_tr G)).toList ++ rest))) : W p l e R s m args below meth c0 H locs cells slots Q (F0 m pc ls st0) := by
  intro T hT X
  obtain ⟨v, st₀, t, T', L, h0, X', hL, e1, e2, ⟨hv, hz, hP, hF⟩, st⟩ := hr T hT X
  have hv : v = r.map (mx_tr G) := by cases hv; rfl
  subst hv
  rw [← e1] at hz hP
  obtain ⟨f1, f2⟩ := hF
  rw [h0, ← e1] at f1
  rw [h0, ← e1] at f2
  obtain ⟨t2, a1, b1⟩ := kk T'.heap (locs ++ L) hz hP ⟨Nat.le_trans hS.1 f1, fun q h1 h2 => by rw [f2 q (Nat.lt_of_lt_of_le h1 hS.1) h2]; exact hS.2.1 q h1 h2, fun q hq => by
    rcases List.mem_append.mp hq with h | h
    · exact hS.2.2 q h
    · exact hL q h⟩ T' rfl X'
  exact ⟨t2, st t2 a1, b1⟩
end MXC
/-- how a class names a method: by a link of its own, or of its nest -/
def mx_ml (own : String) (idx : Nat) (x : MethodName) (w : Nat) (host : Option String) : Prop := match host with
  | none => lw_tbl[w]? = some (.methodLink own idx x)
  | some h => lw_tbl[w]? = some (.methodLinkNest own idx x h)
theorem mx_ml_nest {own : String} {idx : Nat} {x : MethodName} {w : Nat} {h : String} (hl : mx_ml own idx x w (some h)) : Cond.methodLinkNest own idx x h ∈ mx_NT :=
  List.mem_filter.mpr ⟨List.mem_of_getElem? hl, rfl⟩
def mx_np (y : MethodName) (n : Nat) : Prop := (parseMethodDescriptor y.desc).map (fun d => d.parameters.length) = some n
/-- a call that the tables allow: a static method, a constructor, a method of an object, a method of a string -/
def mx_Cal (bytes : ByteArray) (y : MethodName) (pc : Nat) (i : mx_I) (q : mx_Q) : Prop :=
  mx_Mok q ∧ ∃ (idx w : Nat) (host : Option String), mx_ml y.cls idx q.1 w host ∧
  ((i.2.2.2 = [] ∧ decode bytes pc = .ok (.invokestatic idx, 3) ∧ mx_np q.1 i.2.2.1 ∧ Cond.static q.1 ∈ mx_GT) ∨
   (i.2.2.2 = [98] ∧ decode bytes pc = .ok (.invokespecial idx, 3) ∧ (∃ n, i.2.2.1 = n + 1 ∧ mx_np q.1 n) ∧ Cond.instanceMethod q.1 ∈ mx_GT ∧ q.1.name = "<init>" ∧ q.2.2.2 = none) ∨
   (∃ (ci : Nat) (T : u_T) (N : Nat), ci < 98 ∧ i.2.2.2 = [ci] ∧ vwCl[ci]? = some (q.1.cls, T, N) ∧ decode bytes pc = .ok (.invokevirtual idx, 3) ∧ (∃ n, i.2.2.1 = n + 1 ∧ mx_np q.1 n) ∧ Cond.instanceMethod q.1 ∈ mx_GT ∧ Cond.selects q.1.cls q.1 q.1 ∈ mx_GT) ∨
   (i.2.2.2 = [99] ∧ q.1.cls = "java/lang/String" ∧ host = none ∧ decode bytes pc = .ok (.invokevirtual idx, 3) ∧ (∃ n, i.2.2.1 = n + 1 ∧ mx_np q.1 n) ∧ Cond.instanceMethod q.1 ∈ mx_GT ∧ Cond.selects q.1.cls q.1 q.1 ∈ mx_GT))
theorem mx_ad_str (G : mx_G) (b : Nat) : mx_ad G (1100 + b) = G.2.1 (100 + b) := by
  rw [show 1100 + b = 1000 + (100 + b) by omega]
  exact mx_ad_ge
theorem mx_stk (G : mx_G) (b : Nat) (as' rest : List Value) : ((Value.ref b :: as').map (mx_tr G)).reverse ++ rest.map (mx_tr G) = (as'.map (mx_tr G)).reverse ++ .ref (mx_ad G b) :: rest.map (mx_tr G) := by
  rw [List.map_cons, List.reverse_cons, List.append_assoc]
  rfl
theorem mx_rcv_ref {as : List Value} {M : mx_M} (h0 : mx_rcv [98] as M = true) : ∃ b as', as = .ref b :: as' := by
  have h : mx_rcv1 98 as M = true := h0
  unfold mx_rcv1 at h
  split  at h
  · next b as' => exact ⟨b, as', rfl⟩
  · cases h
theorem mx_rcv_obj {ci : Nat} {as : List Value} {M : mx_M} (hci : ci < 98) (h0 : mx_rcv [ci] as M = true) : ∃ b as' fs, as = .ref b :: as' ∧ M[b]? = some (.inl (ci, fs)) := by
  have h : mx_rcv1 ci as M = true := h0
  unfold mx_rcv1 at h
  split  at h
  · next b as' =>
    have e1 : Nat.beq ci 98 = false := by
      cases hb : Nat.beq ci 98 with
      | false => rfl
      | true => have := Nat.eq_of_beq_eq_true hb; omega
    have e2 : Nat.beq ci 99 = false := by
      cases hb : Nat.beq ci 99 with
      | false => rfl
      | true => have := Nat.eq_of_beq_eq_true hb; omega
    rw [e1, e2] at h
    simp only [cond_false] at h
    split at h
    · next cj fs hq =>
      have := Nat.eq_of_beq_eq_true h
      subst this
      exact ⟨b, as', fs, rfl, by rw [← mx_nth_eq]; exact hq⟩
    · cases h
  · cases h
theorem mx_rcv_str {as : List Value} {M : mx_M} (h0 : mx_rcv [99] as M = true) : ∃ b as', as = .ref (1100 + b) :: as' ∧ b < 14 := by
  have h : mx_rcv1 99 as M = true := h0
  unfold mx_rcv1 at h
  split  at h
  · next b as' =>
    have h : (Nat.ble 1100 b && Nat.blt b 1114) = true := h
    simp only [Bool.and_eq_true] at h
    have z1 : 1100 ≤ b := Nat.le_of_ble_eq_true h.1
    have z2 : b < 1100 + 14 := Nat.le_of_ble_eq_true h.2
    obtain ⟨e1, e2, -⟩ := mx_gs_ar z1 z2
    exact ⟨b - 1100, as', by rw [← e1], e2⟩
  · cases h
set_option maxHeartbeats 1000000 in
theorem mx_call_go {bytes : ByteArray} {nL : Nat} {y : MethodName} {pc : Nat} {i : mx_I} {q : mx_Q} (hcal : mx_Cal bytes y pc i q) {G : mx_G} {SA : mx_S} {p : Program} {l : Launch} {e : Env} {R : Room} {s : State} {m : MethodId} {args : Array Value} {below : List Frame} {meth : Method} {c0 : Code} {Q : State → Prop} {L0 S0 d : Nat}
    (K : mx_Ctx bytes nL y G SA p R s m args meth c0) (hfr : d + 1 ≤ R.frames) (hlo : 40 * d + 40 ≤ R.locals) {c : mx_C} (hpc : c.1 = pc) {as rest : List Value} {r : Option Value} {M' : mx_M} (hst : c.2.2.1 = as.reverse ++ rest) (hlen : as.length = i.2.2.1) (hcat : mx_cat rest ≤ 8) (hrc : mx_rcv i.2.2.2 as c.2.2.2 = true)
    (hM : Met l q.1 (mx_wd q) (mx_rm d c.2.2.2 M') (mx_Pc G SA as c.2.2.2) (mx_Qc G r M') (M'.length - c.2.2.2.length) (mx_sz M' - mx_sz c.2.2.2) (mx_A G)) (hgr : mx_Gr c.2.2.2 M') (hL : L0 ≤ c.2.2.2.length) (hS0 : S0 ≤ mx_sz c.2.2.2) (hc1 : M'.length ≤ R.cells + L0) (hc2 : mx_sz M' ≤ R.slots + S0)
    (hgo : mx_Go nL G p l e R s m args below meth c0 Q L0 S0 (c.1 + 3, c.2.1, r.toList ++ rest, M')) : mx_Go nL G p l e R s m args below meth c0 Q L0 S0 c := by
  intro H locs ls h1 h2 hP hS hv
  obtain ⟨⟨hpn, hnL, hcw, hini, hmh, hvh⟩, idx, w, host, hl, hk⟩ := hcal
  have hMok : mx_Mok q := ⟨hpn, hnL, hcw, hini, hmh, hvh⟩
  obtain ⟨hx, hb, hml, hown, hts, -, hE, hbs, -, -⟩ := K
  have hfix : CallFix p m c0 bytes nL s args mx_GT y.cls := ⟨hx, hb, hml, hown, hts⟩
  have hroom : (mx_rm d c.2.2.2 M').frames + 1 ≤ R.frames ∧ 8 + (q.2.2.1 + 11) + (mx_rm d c.2.2.2 M').locals ≤ R.locals := ⟨hfr, by show 8 + (q.2.2.1 + 11) + 40 * d ≤ _; omega⟩
  have hf : c.2.2.2.length - L0 + (M'.length - c.2.2.2.length) ≤ R.cells ∧ mx_sz c.2.2.2 - S0 + (mx_sz M' - mx_sz c.2.2.2) ≤ R.slots := by
    have := hgr.1
    exact ⟨by omega, by omega⟩
  have hcatr : ((rest.map (mx_tr G)).map fun v => v.category).sum ≤ 8 := by rw [mx_cat_eq]; exact hcat
  have hUp : ∀ U : State, U.heap = H → s.WarmedH U.vm → mx_Pc G SA as c.2.2.2 (as.map (mx_tr G)).toArray U := fun U hU hW =>
    ⟨rfl, by rw [hU]; exact h2, by rw [hU]; exact hP, by rw [hU]; exact mx_Env_kept hE hW (fun a z1 z2 => hS.2.1 a z1 z2)⟩
  have hend : ∀ (H1 : Heap) (locs1 : List Loc), H1.size = G.1 + M'.length → va_P G.2.2.2 vwCl (mx_W G M') H1 → va_S (mx_A G) s.heap H1 locs1 → W p l e R s m args below meth c0 H1 locs1 (c.2.2.2.length - L0 + (M'.length - c.2.2.2.length)) (mx_sz c.2.2.2 - S0 + (mx_sz M' - mx_sz c.2.2.2)) Q (F0 m (pc + 3) ls ((r.map (mx_tr G)).toList ++ rest.map (mx_tr G))) := by
    intro H1 locs1 z1 z2 z3
    have g := hgo H1 locs1 ls (hgr.2 h1) z1 z2 z3 hv
    have g2 : W p l e R s m args below meth c0 H1 locs1 (M'.length - L0) (mx_sz M' - S0) Q (F0 m (c.1 + 3) ls ((r.toList ++ rest).map (mx_tr G))) := g
    have e1 : c.2.2.2.length - L0 + (M'.length - c.2.2.2.length) = M'.length - L0 := by have := hgr.1; omega
    have e2 : mx_sz c.2.2.2 - S0 + (mx_sz M' - mx_sz c.2.2.2) = mx_sz M' - S0 := by have := hgr.1; omega
    rw [e1, e2, ← hpc]
    rw [List.map_append] at g2
    cases r with
    | none => exact g2
    | some v => exact g2
  have hdm : ∀ n, mx_np q.1 n → q.1.cls ≠ "java/lang/invoke/MethodHandle" ∧ q.1.cls ≠ "java/lang/invoke/VarHandle" ∧ (parseMethodDescriptor q.1.desc).map (fun d => d.parameters.length) = some n := fun n h => ⟨hmh, hvh, h⟩
  rw [hpc, hst, List.map_append, List.map_reverse]
  rcases hk with ⟨-, hd, hn, hs⟩ | ⟨eL, hd, ⟨n, en, hn⟩, hin, hnm, hret⟩ | ⟨ci, T, N, hci, eL, hcl, hd, ⟨n, en, hn⟩, hin, hsel⟩ | ⟨eL, hcS, hhost, hd, ⟨n, en, hn⟩, hin, hsel⟩
  · have hp : PreS s H (mx_Pc G SA as c.2.2.2) (as.map (mx_tr G)) := ⟨mx_Pc_blind G SA as _, hUp⟩
    have hn' : (as.map (mx_tr G)).length = i.2.2.1 := by rw [List.length_map]; exact hlen
    cases host with
    | none =>
      exact mx_callW (va_runS hfix hM ⟨callB_of (ws' := mx_GT) i.2.2.1 hts (mx_wd_good hMok) rfl rfl rfl (hts _ hini) (hts _ (mx_gt w hl rfl)) (hdm _ hn) hroom, hts _ hs⟩ hp rfl hn' hv.1 rfl (lv_room hcatr) hd hf) hS hend
    | some h =>
      exact mx_callW (va_runSN hfix hM ⟨va_cnB (ws' := mx_GT) i.2.2.1 hts (mx_wd_good hMok) rfl rfl rfl (hE.2.1 _ (mx_ml_nest hl)) (hts _ hini) (hdm _ hn) hroom, hts _ hs, trivial⟩ hp rfl hn' hv.1 rfl (lv_room hcatr) hd hf) hS hend
  · rw [eL] at hrc
    obtain ⟨b, as', rfl⟩ := mx_rcv_ref hrc
    have hn' : (as'.map (mx_tr G)).length = n := by rw [List.length_map]; rw [en] at hlen; simpa using hlen
    have hp : PreS s H (mx_Pc G SA (.ref b :: as') c.2.2.2) (.ref (mx_ad G b) :: as'.map (mx_tr G)) := ⟨mx_Pc_blind G SA _ _, hUp⟩
    obtain ⟨qx, qb, qn, qr⟩ := q
    have hret : qr = none := hret
    subst hret
    rw [mx_stk]
    cases host with
    | none => exact mx_callW (va_runI hfix hM ⟨callB_of (ws' := mx_GT) n hts (mx_wd_good hMok) rfl rfl rfl (hts _ hini) (hts _ (mx_gt w hl rfl)) (hdm _ hn) hroom, hnm, hts _ hin⟩ hp rfl hn' hv.1 rfl (lv_room hcatr) hd hf) hS hend
    | some h => exact mx_callW (va_runIN hfix hM ⟨va_cnB (ws' := mx_GT) n hts (mx_wd_good hMok) rfl rfl rfl (hE.2.1 _ (mx_ml_nest hl)) (hts _ hini) (hdm _ hn) hroom, hnm, hts _ hin⟩ hp rfl hn' hv.1 rfl (lv_room hcatr) hd hf) hS hend
  · rw [eL] at hrc
    obtain ⟨b, as', fs, rfl, hbm⟩ := mx_rcv_obj hci hrc
    have hn' : (as'.map (mx_tr G)).length = n := by rw [List.length_map]; rw [en] at hlen; simpa using hlen
    have hb1 : b < 1000 := Nat.lt_of_lt_of_le (mx_len_lt hbm) h1
    have hrec := va_recv hE.1 hP hcl (mx_W_get hbm)
    rw [← mx_ad_lt hb1] at hrec
    have hp : PreV s H q.1.cls (mx_ad G b) (mx_Pc G SA (.ref b :: as') c.2.2.2) (as'.map (mx_tr G)) := ⟨mx_Pc_blind G SA _ _, hrec, hUp⟩
    rw [mx_stk]
    cases host with
    | none => exact mx_callW (va_runV hfix hM ⟨callB_of (ws' := mx_GT) n hts (mx_wd_good hMok) rfl rfl rfl (hts _ hini) (hts _ (mx_gt w hl rfl)) (hdm _ hn) hroom, hts _ hin, hts _ hsel⟩ hp rfl hn' hv.1 rfl (lv_room hcatr) hd hf) hS hend
    | some h => exact mx_callW (va_runVN hfix hM ⟨va_cnB (ws' := mx_GT) n hts (mx_wd_good hMok) rfl rfl rfl (hE.2.1 _ (mx_ml_nest hl)) (hts _ hini) (hdm _ hn) hroom, hts _ hin, hts _ hsel⟩ hp rfl hn' hv.1 rfl (lv_room hcatr) hd hf) hS hend
  · rw [eL] at hrc
    obtain ⟨b, as', rfl, hb1⟩ := mx_rcv_str hrc
    have hn' : (as'.map (mx_tr G)).length = n := by rw [List.length_map]; rw [en] at hlen; simpa using hlen
    have hb14 : b < mx_SR.length := hb1
    obtain ⟨-, hO, -, -⟩ := hE.2.2.2.2 b _ (List.getElem?_eq_getElem hb14)
    obtain ⟨cell, o1, o2, o3, -⟩ := hO.kept hS.2.1
    have ea := mx_ad_str G b
    have hrec : ∃ cellB : Cell, H[mx_ad G (1100 + b)]? = some cellB ∧ cellB.vm.isStatics = false ∧ s.vm.findClass q.1.cls = some cellB.cls := by
      rw [ea, hcS]
      exact ⟨cell, o1, o2, o3⟩
    have hp : PreV s H q.1.cls (mx_ad G (1100 + b)) (mx_Pc G SA (.ref (1100 + b) :: as') c.2.2.2) (as'.map (mx_tr G)) := ⟨mx_Pc_blind G SA _ _, hrec, hUp⟩
    subst hhost
    rw [mx_stk]
    exact mx_callW (va_runV hfix hM ⟨callB_of (ws' := mx_GT) n hts (mx_wd_good hMok) rfl rfl rfl (hts _ hini) (hts _ (mx_gt w hl rfl)) (hdm _ hn) hroom, hts _ hin, hts _ hsel⟩ hp rfl hn' hv.1 rfl (lv_room hcatr) hd hf) hS hend
end
section
/-! EVERY RUN OF THE SMALL MACHINE IS A RUN OF THE MACHINE -/
def mx_Rt (q : mx_Q) (pc : Nat) (i : mx_I) : Prop :=
  (i.1 = 80 ∧ decode q.2.1 pc = .ok (.ireturn, 1) ∧ ∃ ty, q.2.2.2 = some ty ∧ ∀ v, mx_fit i.2.1 v = true → narrow ty (.int v) = .int v) ∨
  (i.1 = 81 ∧ decode q.2.1 pc = .ok (.lreturn, 1) ∧ q.2.2.2 = some .long) ∨
  (i.1 = 82 ∧ decode q.2.1 pc = .ok (.areturn, 1) ∧ ∃ ty, q.2.2.2 = some ty ∧ mx_rt ty = true) ∨
  (i.1 = 83 ∧ decode q.2.1 pc = .ok (.return_, 1) ∧ q.2.2.2 = none)
/-- a place of a method's table is right -/
def mx_Ok (MT : Nat → Option mx_Q) (q : mx_Q) (pc : Nat) (i : mx_I) : Prop :=
  (i.1 < 70 → mx_Snd q.2.1 q.2.2.1 q.1 pc i) ∧ (i.1 = 70 → ∃ k, MT i.2.1 = some k ∧ mx_Cal q.2.1 q.1 pc i k) ∧ (80 ≤ i.1 → mx_Rt q pc i)
theorem mk_p {MT : Nat → Option mx_Q} {q : mx_Q} {pc : Nat} {i : mx_I} (h : mx_Snd q.2.1 q.2.2.1 q.1 pc i) (hi : Nat.blt i.1 70 = true) : mx_Ok MT q pc i := by
  have hlt : i.1 < 70 := Nat.le_of_ble_eq_true hi
  exact ⟨fun _ => h, fun z => by omega, fun z => by omega⟩
theorem mk_c {MT : Nat → Option mx_Q} {q : mx_Q} {pc a b : Nat} {L : List Nat} {k : mx_Q} (h1 : MT a = some k) (h2 : mx_Cal q.2.1 q.1 pc (70, a, b, L) k) : mx_Ok MT q pc (70, a, b, L) :=
  ⟨fun z => absurd (show 70 < 70 from z) (by omega), fun _ => ⟨k, h1, h2⟩, fun z => absurd (show 80 ≤ 70 from z) (by omega)⟩
theorem mk_r {MT : Nat → Option mx_Q} {q : mx_Q} {pc : Nat} {i : mx_I} (h : mx_Rt q pc i) (hi : Nat.ble 80 i.1 = true) : mx_Ok MT q pc i := by
  have hlt : 80 ≤ i.1 := Nat.le_of_ble_eq_true hi
  exact ⟨fun z => by omega, fun z => by omega, fun _ => h⟩
theorem mx_run_go {MT : Nat → Option mx_Q} {q : mx_Q} {t : List (List (Nat × mx_I))} {call : Nat → List Value → mx_M → Option Value → mx_M → Prop} {G : mx_G} {SA : mx_S} {p : Program} {l : Launch} {e : Env} {R : Room} {s : State} {m : MethodId} {args : Array Value} {below : List Frame} {meth : Method} {c0 : Code} {Q : State → Prop} {L0 S0 d : Nat} {r : Option Value} {Mf : mx_M}
    (K : mx_Ctx q.2.1 q.2.2.1 q.1 G SA p R s m args meth c0) (hok : ∀ ch ∈ t, ∀ e ∈ ch, mx_Ok MT q e.1 e.2)
    (hmono : ∀ k as M r M', call k as M r M' → mx_Gr M M')
    (hcall : ∀ k as M r M', call k as M r M' → ∀ z, MT k = some z → Met l z.1 (mx_wd z) (mx_rm d M M') (mx_Pc G SA as M) (mx_Qc G r M') (M'.length - M.length) (mx_sz M' - mx_sz M) (mx_A G))
    (hfr : d + 1 ≤ R.frames) (hlo : 40 * d + 40 ≤ R.locals) (hc1 : Mf.length ≤ R.cells + L0) (hc2 : mx_sz Mf ≤ R.slots + S0)
    (hfin : ∀ (pc : Nat) (i : mx_I) (st : List Value) (H : Heap) (locs : List Loc) (ls : Array Slot), mx_Ok MT q pc i → 80 ≤ i.1 → mx_ret i st = some r → H.size = G.1 + Mf.length → va_P G.2.2.2 vwCl (mx_W G Mf) H → va_S (mx_A G) s.heap H locs → W p l e R s m args below meth c0 H locs (Mf.length - L0) (mx_sz Mf - S0) Q (F0 m pc ls (st.map (mx_tr G)))) :
    ∀ (n : Nat) (c : mx_C), mx_run call (mx_op SA mx_SF mx_DF 14) t n c r Mf → L0 ≤ c.2.2.2.length → S0 ≤ mx_sz c.2.2.2 → mx_Go q.2.2.1 G p l e R s m args below meth c0 Q L0 S0 c := by
  intro n
  induction n with
  | zero => intro c h; exact h.elim
  | succ n ih =>
    intro c h hL hS
    obtain ⟨i, hf, h⟩ := h
    obtain ⟨ch, hch, hin⟩ := mx_fetch_mem hf
    have hO := hok ch hch _ hin
    rcases h with ⟨hi, c', h1, h2⟩ | ⟨hi, as, rest, r1, M1, h1, h2, h3, h4, h5, h6⟩ | ⟨hi, r1, h1, h2, h3⟩
    · have g1 := mx_op_mono h1
      have g2 := mx_run_mono hmono h2
      have gl := g1.1
      have gm := g2.1
      exact hO.1 hi G SA p l e R s m args below meth c0 Q L0 S0 K c c' rfl hL hS (by omega) (by omega) h1 (ih c' h2 (by omega) (by omega))
    · obtain ⟨k, k1, k2⟩ := hO.2.1 hi
      have g1 := hmono _ _ _ _ _ h5
      have g2 := mx_run_mono hmono h6
      have gl := g1.1
      have gm : M1.length ≤ Mf.length ∧ mx_sz M1 ≤ mx_sz Mf := g2.1
      exact mx_call_go k2 K hfr hlo rfl h1 h2 h3 h4 (hcall _ _ _ _ _ h5 k k1) g1 hL hS (by omega) (by omega) (ih _ h6 (show L0 ≤ M1.length by omega) (show S0 ≤ mx_sz M1 by omega))
    · intro H locs ls z1 z2 hP hS' hv
      subst h2
      have e3 : Mf = c.2.2.2 := h3.symm
      rw [e3] at hfin
      exact hfin c.1 i c.2.2.1 H locs ls hO hi h1 z2 hP hS'
theorem mx_ret_go {q : mx_Q} {G : mx_G} {p : Program} {l : Launch} {e : Env} {R : Room} {s : State} {m : MethodId} {args : Array Value} {below : List Frame} {meth : Method} {c0 : Code} {M' : mx_M} {cells slots : Nat} {pc : Nat} {i : mx_I} {st : List Value} {r : Option Value} {H : Heap} {locs : List Loc} {ls : Array Slot}
    (hx : p.tables.exec = Jvm.exec) (hb : c0.code = q.2.1) (hr : meth.sig.returnType = q.2.2.2) (hlocks : meth.locks = false) (hR : mx_Rt q pc i) (h : mx_ret i st = some r) (hz : H.size = G.1 + M'.length) (hP : va_P G.2.2.2 vwCl (mx_W G M') H) (hS : va_S (mx_A G) s.heap H locs) :
    W p l e R s m args below meth c0 H locs cells slots (MQ below (mx_Qc G r M') args s cells slots (mx_A G)) (F0 m pc ls (st.map (mx_tr G))) := by
  have hq : ∀ (v : Option Value) (t : State), v = r.map (mx_tr G) → t.heap = H → mx_Qc G r M' args s (.returned v) t := fun v t hv ht => ⟨by rw [hv], by rw [ht]; exact hz, by rw [ht]; exact hP, hS.F ht⟩
  obtain ⟨i1, i2, i3, i4⟩ := i
  rcases hR with ⟨e1, hd, ty, hty, hfit⟩ | ⟨e1, hd, hty⟩ | ⟨e1, hd, ty, hty, hrt⟩ | ⟨e1, hd, hty⟩
  · have e1 : i1 = 80 := e1
    subst e1
    match st, h with
    | [.int v], h =>
      have h : (bif mx_fit i2 v then some (some (.int v)) else none) = some r := h
      cases hf : mx_fit i2 v with
      | false => rw [hf] at h; cases h
      | true =>
        rw [hf] at h
        cases h
        exact W.zret hx hb (hr.trans hty) (hfit v hf) (fun t ht _ => hq _ t rfl ht) hS.2.2 hd hlocks
  · have e1 : i1 = 81 := e1
    subst e1
    match st, h with
    | [.long v], h =>
      have h : some (some (Value.long v)) = some r := h
      cases h
      exact W.lret hx hb (hr.trans hty) (fun t ht _ => hq _ t rfl ht) hS.2.2 hd hlocks
  · have e1 : i1 = 82 := e1
    subst e1
    match st, h with
    | [.ref v], h =>
      have h : some (some (Value.ref v)) = some r := h
      cases h
      exact W.aret hx hb (hr.trans hty) (by cases ty <;> first | exact Or.inl ⟨_, rfl⟩ | exact Or.inr ⟨_, rfl⟩ | cases hrt) (Or.inr ⟨_, rfl⟩) (fun t ht _ => hq _ t rfl ht) hS.2.2 hd hlocks
  · have e1 : i1 = 83 := e1
    subst e1
    match st, h with
    | [], h =>
      have h : some (none : Option Value) = some r := h
      cases h
      exact W.vret hx hb (hr.trans hty) (fun t ht _ => hq _ t rfl ht) hS.2.2 hd hlocks
theorem mx_args_tr (G : mx_G) : ∀ (as : List Value) (k : Nat), (lv_args k as).map (mx_tq G) = lv_args k (as.map (mx_tr G))
  | [], _ => rfl
  | v :: as, k => by
    simp only [lv_args, List.map_cons, mx_tr_cat]
    rw [mx_args_tr G as]
    rfl
theorem mx_sl_len (G : mx_G) : ∀ as : List Value, (lg_sl (as.map (mx_tr G))).length = mx_cat as
  | [] => rfl
  | v :: as => by
    have ih := mx_sl_len G as
    unfold lg_sl at ih ⊢
    rw [List.map_cons, List.flatMap_cons, List.length_append, ih]
    show _ = (bif mx_is2 v then 2 else 1) + mx_cat as
    rw [mx_tr_cat]
    cases v <;> rfl
set_option maxHeartbeats 1000000 in
theorem mx_sound (l : Launch) (G : mx_G) (SA : mx_S) {MT : Nat → Option mx_Q} {code : Nat → Nat × List (List (Nat × mx_I))} (hMT : ∀ k q, MT k = some q → mx_Mok q ∧ (code k).1 = q.2.2.1 ∧ ∀ ch ∈ (code k).2, ∀ e ∈ ch, mx_Ok MT q e.1 e.2) :
    ∀ (d k : Nat) (as : List Value) (M : mx_M) (r : Option Value) (M' : mx_M), mx_Ev SA code d k as M r M' → ∀ q, MT k = some q → Met l q.1 (mx_wd q) (mx_rm d M M') (mx_Pc G SA as M) (mx_Qc G r M') (M'.length - M.length) (mx_sz M' - mx_sz M) (mx_A G) := by
  intro d
  induction d with
  | zero => intro k as M r M' h; exact h.elim
  | succ d ih =>
    intro k as M r M' h q hq
    obtain ⟨hMok, hnl, hok⟩ := hMT k q hq
    have hgr := mx_Ev_mono (d + 1) _ _ _ _ _ h
    obtain ⟨hcat, hlen, n, hrun⟩ := h
    rw [hnl] at hcat
    refine Met.ofW (cc := q.2.1) (maxL := q.2.2.1) (ret := q.2.2.2) hMok.1 rfl ?_
    intro p e s m args below meth c s₁ B hml hv
    obtain ⟨rfl, hsz, hP, hE⟩ := hv
    have hts := atoms_spec (ws := mx_wd q) B.pre
    have K : mx_Ctx q.2.1 q.2.2.1 q.1 G SA p (headSpec (mx_wd q) (mx_rm (d + 1) M M')).room s m (as.map (mx_tr G)).toArray meth c :=
      ⟨B.exec, B.bytes, hml, findClass_of_methodNamed B.named, fun w hw => hts w (List.mem_cons_of_mem _ hw), fun z => by rw [(name_of_methodNamed B.named B.method).1]; exact z, hE, by rw [hsz]; omega, by show 1 ≤ d + 1; omega, by show 40 ≤ 40 * (d + 1); omega⟩
    rw [lg_entry_eq]
    have hl := lv_entry (as.map (mx_tr G)) (n := q.2.2.1) (by rw [mx_sl_len]; exact hcat)
    generalize (lg_sl (as.map (mx_tr G)) ++ List.replicate (q.2.2.1 - (lg_sl (as.map (mx_tr G))).length) Slot.unset).toArray = ls at hl ⊢
    have hgl := hgr.1
    have g := mx_run_go (L0 := M.length) (S0 := mx_sz M) (d := d) (below := below) (l := l) (e := e) (Q := MQ below (mx_Qc G r M') (as.map (mx_tr G)).toArray s (M'.length - M.length) (mx_sz M' - mx_sz M) (mx_A G)) K hok (mx_Ev_mono d) (fun k2 as2 M2 r2 M2' h2 z hz => ih k2 as2 M2 r2 M2' h2 z hz) (by show d + 1 ≤ d + 1; omega) (by show 40 * d + 40 ≤ 40 * (d + 1); omega) (by show M'.length ≤ M'.length - M.length + M.length; omega) (by show mx_sz M' ≤ mx_sz M' - mx_sz M + mx_sz M; omega)
      (fun pc i st H locs ls hO hi hre hz hP' hS' => mx_ret_go B.exec B.bytes B.returns B.notSynchronized (hO.2.2 hi) hre hz hP' hS') n _ hrun (Nat.le_refl _) (Nat.le_refl _)
    have g2 := g s.heap [] ls hlen hsz hP va_S.rf (by rw [mx_args_tr]; exact hl)
    have g3 : W p l e (headSpec (mx_wd q) (mx_rm (d + 1) M M')).room s m (as.map (mx_tr G)).toArray below meth c s.heap [] (M.length - M.length) (mx_sz M - mx_sz M) _ (F0 m 0 ls []) := g2
    rw [Nat.sub_self, Nat.sub_self] at g3
    exact g3
end
