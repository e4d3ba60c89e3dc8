theorem mw_L_0 : ∀ e ∈ mt_L_0, mx_Ok mx_MT mq_L e.1 e.2 := 
  mc_1 (mk_p (mn_11 (idx := 7) 97 (by decide +kernel) (by decide +kernel)) rfl) <|
  mc_1 (mk_p (ms_dup (by decide +kernel)) rfl) <|
  mc_1 (mk_c (k := mq_118) rfl ⟨mo_118, 9, 99, none, ml_m_LeagueOfficeLaw_9, Or.inr (Or.inl ⟨rfl, (by decide +kernel), ⟨0, rfl, mx_npd (by decide +kernel)⟩, ml_in_100, rfl, rfl⟩)⟩) <|
  mc_1 (mk_p (ms_astore_n (k := 1) (by decide +kernel) rfl (by decide)) rfl) <|
  mc_1 (mk_p (mn_12 (idx := 10) 1376 (by decide +kernel) (by decide +kernel)) rfl) <|
  mc_1 (mk_p (ms_dup (by decide +kernel)) rfl) <|
  mc_1 (mk_c (k := mq_181) rfl ⟨mo_181, 12, 1377, none, ml_m_LeagueOfficeLaw_12, Or.inr (Or.inl ⟨rfl, (by decide +kernel), ⟨0, rfl, mx_npd (by decide +kernel)⟩, ml_in_1378, rfl, rfl⟩)⟩) <|
  mc_1 (mk_p (ms_astore_n (k := 2) (by decide +kernel) rfl (by decide)) rfl) <| mc_0
theorem mw_L_1 : ∀ e ∈ mt_L_1, mx_Ok mx_MT mq_L e.1 e.2 := 
  mc_1 (mk_p (ms_iconst (n := 0) (by decide +kernel) (by decide +kernel)) rfl) <|
  mc_1 (mk_p (ms_istore_n (k := 3) (by decide +kernel) rfl (by decide)) rfl) <|
  mc_1 (mk_p (ms_iload_n (k := 3) (by decide +kernel) rfl) rfl) <|
  mc_1 (mk_p (ms_aload_n (k := 0) (by decide +kernel) rfl) rfl) <|
  mc_1 (mk_p (ms_alen (by decide +kernel)) rfl) <|
  mc_1 (mk_p (ms_bipush (n := 6) (by decide +kernel) (by decide +kernel)) rfl) <|
  mc_1 (mk_p (ms_isub (by decide +kernel)) rfl) <|
  mc_1 (mk_p (ms_icmp_gt (off := (1560)) (by decide +kernel) (by decide)) rfl) <|
  mc_1 (mk_p (ms_aload_n (k := 0) (by decide +kernel) rfl) rfl) <|
  mc_1 (mk_p (ms_iload_n (k := 3) (by decide +kernel) rfl) rfl) <|
  mc_1 (mk_p (ms_ald (Or.inl ⟨rfl, by decide +kernel⟩)) rfl) <|
  mc_1 (mk_p (ms_bipush (n := 63) (by decide +kernel) (by decide +kernel)) rfl) <| mc_0
theorem mw_L_2 : ∀ e ∈ mt_L_2, mx_Ok mx_MT mq_L e.1 e.2 := 
  mc_1 (mk_p (ms_iand (by decide +kernel)) rfl) <|
  mc_1 (mk_p (ms_tsw (dflt := (1545)) (lo := (0)) (hi := (39)) (offs := #[175, 198, 231, 264, 317, 350, 393, 426, 489, 502, 535, 558, 601, 634, 667, 710, 743, 756, 799, 832, 875, 898, 931, 964, 997, 1020, 1043, 1066, 1089, 1122, 1155, 1188, 1231, 1254, 1287, 1310, 1353, 1396, 1459, 1512]) (len := 175) (by decide +kernel) (by decide +kernel) (by decide +kernel) (by decide +kernel) (by decide +kernel)) rfl) <| mc_0
theorem mw_L_3 : ∀ e ∈ mt_L_3, mx_Ok mx_MT mq_L e.1 e.2 := mc_0
theorem mw_L_4 : ∀ e ∈ mt_L_4, mx_Ok mx_MT mq_L e.1 e.2 := mc_0
theorem mw_L_5 : ∀ e ∈ mt_L_5, mx_Ok mx_MT mq_L e.1 e.2 := mc_0
theorem mw_L_6 : ∀ e ∈ mt_L_6, mx_Ok mx_MT mq_L e.1 e.2 := mc_0
theorem mw_L_7 : ∀ e ∈ mt_L_7, mx_Ok mx_MT mq_L e.1 e.2 := mc_0
theorem mw_L_8 : ∀ e ∈ mt_L_8, mx_Ok mx_MT mq_L e.1 e.2 := mc_0
theorem mw_L_9 : ∀ e ∈ mt_L_9, mx_Ok mx_MT mq_L e.1 e.2 := mc_0
theorem mw_L_10 : ∀ e ∈ mt_L_10, mx_Ok mx_MT mq_L e.1 e.2 := mc_0
theorem mw_L_11 : ∀ e ∈ mt_L_11, mx_Ok mx_MT mq_L e.1 e.2 := mc_0
theorem mw_L_12 : ∀ e ∈ mt_L_12, mx_Ok mx_MT mq_L e.1 e.2 := mc_0
theorem mw_L_13 : ∀ e ∈ mt_L_13, mx_Ok mx_MT mq_L e.1 e.2 := 
  mc_1 (mk_p (ms_aload_n (k := 1) (by decide +kernel) rfl) rfl) <|
  mc_1 (mk_p (ms_aload_n (k := 0) (by decide +kernel) rfl) rfl) <|
  mc_1 (mk_p (ms_iload_n (k := 3) (by decide +kernel) rfl) rfl) <|
  mc_1 (mk_p (ms_iconst (n := 1) (by decide +kernel) (by decide +kernel)) rfl) <|
  mc_1 (mk_p (ms_iadd (by decide +kernel)) rfl) <|
  mc_1 (mk_p (ms_ald (Or.inl ⟨rfl, by decide +kernel⟩)) rfl) <|
  mc_1 (mk_c (k := mq_119) rfl ⟨mo_119, 13, 728, none, ml_m_LeagueOfficeLaw_13, Or.inr (Or.inr (Or.inl ⟨11, TX11, 10, by decide, rfl, rfl, (by decide +kernel), ⟨1, rfl, mx_npd (by decide +kernel)⟩, ml_in_729, ml_se_730⟩))⟩) <|
  mc_1 (mk_p (ms_pop (by decide +kernel)) rfl) <|
  mc_1 (mk_p (ms_aload_n (k := 2) (by decide +kernel) rfl) rfl) <|
  mc_1 (mk_p (ms_aload_n (k := 0) (by decide +kernel) rfl) rfl) <|
  mc_1 (mk_p (ms_iload_n (k := 3) (by decide +kernel) rfl) rfl) <|
  mc_1 (mk_p (ms_iconst (n := 1) (by decide +kernel) (by decide +kernel)) rfl) <|
  mc_1 (mk_p (ms_iadd (by decide +kernel)) rfl) <|
  mc_1 (mk_p (ms_ald (Or.inl ⟨rfl, by decide +kernel⟩)) rfl) <| mc_0
theorem mw_L_14 : ∀ e ∈ mt_L_14, mx_Ok mx_MT mq_L e.1 e.2 := 
  mc_1 (mk_c (k := mq_165) rfl ⟨mo_165, 17, 1314, none, ml_m_LeagueOfficeLaw_17, Or.inr (Or.inr (Or.inl ⟨12, TX12, 78, by decide, rfl, rfl, (by decide +kernel), ⟨1, rfl, mx_npd (by decide +kernel)⟩, ml_in_1315, ml_se_1316⟩))⟩) <|
  mc_1 (mk_p (ms_pop (by decide +kernel)) rfl) <|
  mc_1 (mk_p (ms_goto (off := (1350)) (by decide +kernel) (by decide)) rfl) <|
  mc_1 (mk_p (ms_aload_n (k := 1) (by decide +kernel) rfl) rfl) <|
  mc_1 (mk_p (ms_aload_n (k := 0) (by decide +kernel) rfl) rfl) <|
  mc_1 (mk_p (ms_iload_n (k := 3) (by decide +kernel) rfl) rfl) <|
  mc_1 (mk_p (ms_iconst (n := 1) (by decide +kernel) (by decide +kernel)) rfl) <|
  mc_1 (mk_p (ms_iadd (by decide +kernel)) rfl) <|
  mc_1 (mk_p (ms_ald (Or.inl ⟨rfl, by decide +kernel⟩)) rfl) <|
  mc_1 (mk_p (ms_aload_n (k := 0) (by decide +kernel) rfl) rfl) <|
  mc_1 (mk_p (ms_iload_n (k := 3) (by decide +kernel) rfl) rfl) <|
  mc_1 (mk_p (ms_iconst (n := 2) (by decide +kernel) (by decide +kernel)) rfl) <| mc_0
theorem mw_L_15 : ∀ e ∈ mt_L_15, mx_Ok mx_MT mq_L e.1 e.2 := 
  mc_1 (mk_p (ms_iadd (by decide +kernel)) rfl) <|
  mc_1 (mk_p (ms_ald (Or.inl ⟨rfl, by decide +kernel⟩)) rfl) <|
  mc_1 (mk_c (k := mq_120) rfl ⟨mo_120, 18, 732, none, ml_m_LeagueOfficeLaw_18, Or.inr (Or.inr (Or.inl ⟨11, TX11, 10, by decide, rfl, rfl, (by decide +kernel), ⟨2, rfl, mx_npd (by decide +kernel)⟩, ml_in_733, ml_se_734⟩))⟩) <|
  mc_1 (mk_p (ms_pop (by decide +kernel)) rfl) <|
  mc_1 (mk_p (ms_aload_n (k := 2) (by decide +kernel) rfl) rfl) <|
  mc_1 (mk_p (ms_aload_n (k := 0) (by decide +kernel) rfl) rfl) <|
  mc_1 (mk_p (ms_iload_n (k := 3) (by decide +kernel) rfl) rfl) <|
  mc_1 (mk_p (ms_iconst (n := 1) (by decide +kernel) (by decide +kernel)) rfl) <|
  mc_1 (mk_p (ms_iadd (by decide +kernel)) rfl) <|
  mc_1 (mk_p (ms_ald (Or.inl ⟨rfl, by decide +kernel⟩)) rfl) <|
  mc_1 (mk_p (ms_aload_n (k := 0) (by decide +kernel) rfl) rfl) <|
  mc_1 (mk_p (ms_iload_n (k := 3) (by decide +kernel) rfl) rfl) <|
  mc_1 (mk_p (ms_iconst (n := 2) (by decide +kernel) (by decide +kernel)) rfl) <|
  mc_1 (mk_p (ms_iadd (by decide +kernel)) rfl) <| mc_0
theorem mw_L_16 : ∀ e ∈ mt_L_16, mx_Ok mx_MT mq_L e.1 e.2 := 
  mc_1 (mk_p (ms_ald (Or.inl ⟨rfl, by decide +kernel⟩)) rfl) <|
  mc_1 (mk_c (k := mq_168) rfl ⟨mo_168, 22, 1321, none, ml_m_LeagueOfficeLaw_22, Or.inr (Or.inr (Or.inl ⟨12, TX12, 78, by decide, rfl, rfl, (by decide +kernel), ⟨2, rfl, mx_npd (by decide +kernel)⟩, ml_in_1322, ml_se_1323⟩))⟩) <|
  mc_1 (mk_p (ms_pop (by decide +kernel)) rfl) <|
  mc_1 (mk_p (ms_goto (off := (1317)) (by decide +kernel) (by decide)) rfl) <|
  mc_1 (mk_p (ms_aload_n (k := 1) (by decide +kernel) rfl) rfl) <|
  mc_1 (mk_p (ms_aload_n (k := 0) (by decide +kernel) rfl) rfl) <|
  mc_1 (mk_p (ms_iload_n (k := 3) (by decide +kernel) rfl) rfl) <|
  mc_1 (mk_p (ms_iconst (n := 1) (by decide +kernel) (by decide +kernel)) rfl) <|
  mc_1 (mk_p (ms_iadd (by decide +kernel)) rfl) <|
  mc_1 (mk_p (ms_ald (Or.inl ⟨rfl, by decide +kernel⟩)) rfl) <|
  mc_1 (mk_p (ms_aload_n (k := 0) (by decide +kernel) rfl) rfl) <|
  mc_1 (mk_p (ms_iload_n (k := 3) (by decide +kernel) rfl) rfl) <| mc_0
theorem mw_L_17 : ∀ e ∈ mt_L_17, mx_Ok mx_MT mq_L e.1 e.2 := 
  mc_1 (mk_p (ms_iconst (n := 2) (by decide +kernel) (by decide +kernel)) rfl) <|
  mc_1 (mk_p (ms_iadd (by decide +kernel)) rfl) <|
  mc_1 (mk_p (ms_ald (Or.inl ⟨rfl, by decide +kernel⟩)) rfl) <|
  mc_1 (mk_c (k := mq_121) rfl ⟨mo_121, 23, 743, none, ml_m_LeagueOfficeLaw_23, Or.inr (Or.inr (Or.inl ⟨11, TX11, 10, by decide, rfl, rfl, (by decide +kernel), ⟨2, rfl, mx_npd (by decide +kernel)⟩, ml_in_744, ml_se_745⟩))⟩) <|
  mc_1 (mk_p (ms_pop (by decide +kernel)) rfl) <|
  mc_1 (mk_p (ms_aload_n (k := 2) (by decide +kernel) rfl) rfl) <|
  mc_1 (mk_p (ms_aload_n (k := 0) (by decide +kernel) rfl) rfl) <|
  mc_1 (mk_p (ms_iload_n (k := 3) (by decide +kernel) rfl) rfl) <|
  mc_1 (mk_p (ms_iconst (n := 1) (by decide +kernel) (by decide +kernel)) rfl) <|
  mc_1 (mk_p (ms_iadd (by decide +kernel)) rfl) <|
  mc_1 (mk_p (ms_ald (Or.inl ⟨rfl, by decide +kernel⟩)) rfl) <|
  mc_1 (mk_p (ms_aload_n (k := 0) (by decide +kernel) rfl) rfl) <|
  mc_1 (mk_p (ms_iload_n (k := 3) (by decide +kernel) rfl) rfl) <|
  mc_1 (mk_p (ms_iconst (n := 2) (by decide +kernel) (by decide +kernel)) rfl) <| mc_0
theorem mw_L_18 : ∀ e ∈ mt_L_18, mx_Ok mx_MT mq_L e.1 e.2 := 
  mc_1 (mk_p (ms_iadd (by decide +kernel)) rfl) <|
  mc_1 (mk_p (ms_ald (Or.inl ⟨rfl, by decide +kernel⟩)) rfl) <|
  mc_1 (mk_c (k := mq_169) rfl ⟨mo_169, 26, 1328, none, ml_m_LeagueOfficeLaw_26, Or.inr (Or.inr (Or.inl ⟨12, TX12, 78, by decide, rfl, rfl, (by decide +kernel), ⟨2, rfl, mx_npd (by decide +kernel)⟩, ml_in_1329, ml_se_1330⟩))⟩) <|
  mc_1 (mk_p (ms_pop (by decide +kernel)) rfl) <|
  mc_1 (mk_p (ms_goto (off := (1284)) (by decide +kernel) (by decide)) rfl) <|
  mc_1 (mk_p (ms_aload_n (k := 1) (by decide +kernel) rfl) rfl) <|
  mc_1 (mk_p (ms_aload_n (k := 0) (by decide +kernel) rfl) rfl) <|
  mc_1 (mk_p (ms_iload_n (k := 3) (by decide +kernel) rfl) rfl) <|
  mc_1 (mk_p (ms_iconst (n := 1) (by decide +kernel) (by decide +kernel)) rfl) <|
  mc_1 (mk_p (ms_iadd (by decide +kernel)) rfl) <|
  mc_1 (mk_p (ms_ald (Or.inl ⟨rfl, by decide +kernel⟩)) rfl) <|
  mc_1 (mk_p (ms_aload_n (k := 0) (by decide +kernel) rfl) rfl) <| mc_0
theorem mw_L_19 : ∀ e ∈ mt_L_19, mx_Ok mx_MT mq_L e.1 e.2 := 
  mc_1 (mk_p (ms_iload_n (k := 3) (by decide +kernel) rfl) rfl) <|
  mc_1 (mk_p (ms_iconst (n := 2) (by decide +kernel) (by decide +kernel)) rfl) <|
  mc_1 (mk_p (ms_iadd (by decide +kernel)) rfl) <|
  mc_1 (mk_p (ms_ald (Or.inl ⟨rfl, by decide +kernel⟩)) rfl) <|
  mc_1 (mk_p (ms_aload_n (k := 0) (by decide +kernel) rfl) rfl) <|
  mc_1 (mk_p (ms_iload_n (k := 3) (by decide +kernel) rfl) rfl) <|
  mc_1 (mk_p (ms_iconst (n := 3) (by decide +kernel) (by decide +kernel)) rfl) <|
  mc_1 (mk_p (ms_iadd (by decide +kernel)) rfl) <|
  mc_1 (mk_p (ms_ald (Or.inl ⟨rfl, by decide +kernel⟩)) rfl) <|
  mc_1 (mk_p (ms_aload_n (k := 0) (by decide +kernel) rfl) rfl) <|
  mc_1 (mk_p (ms_iload_n (k := 3) (by decide +kernel) rfl) rfl) <|
  mc_1 (mk_p (ms_iconst (n := 4) (by decide +kernel) (by decide +kernel)) rfl) <|
  mc_1 (mk_p (ms_iadd (by decide +kernel)) rfl) <|
  mc_1 (mk_p (ms_ald (Or.inl ⟨rfl, by decide +kernel⟩)) rfl) <|
  mc_1 (mk_c (k := mq_122) rfl ⟨mo_122, 27, 757, none, ml_m_LeagueOfficeLaw_27, Or.inr (Or.inr (Or.inl ⟨11, TX11, 10, by decide, rfl, rfl, (by decide +kernel), ⟨4, rfl, mx_npd (by decide +kernel)⟩, ml_in_758, ml_se_759⟩))⟩) <| mc_0
theorem mw_L_20 : ∀ e ∈ mt_L_20, mx_Ok mx_MT mq_L e.1 e.2 := 
  mc_1 (mk_p (ms_pop (by decide +kernel)) rfl) <|
  mc_1 (mk_p (ms_aload_n (k := 2) (by decide +kernel) rfl) rfl) <|
  mc_1 (mk_p (ms_aload_n (k := 0) (by decide +kernel) rfl) rfl) <|
  mc_1 (mk_p (ms_iload_n (k := 3) (by decide +kernel) rfl) rfl) <|
  mc_1 (mk_p (ms_iconst (n := 1) (by decide +kernel) (by decide +kernel)) rfl) <|
  mc_1 (mk_p (ms_iadd (by decide +kernel)) rfl) <|
  mc_1 (mk_p (ms_ald (Or.inl ⟨rfl, by decide +kernel⟩)) rfl) <|
  mc_1 (mk_p (ms_aload_n (k := 0) (by decide +kernel) rfl) rfl) <|
  mc_1 (mk_p (ms_iload_n (k := 3) (by decide +kernel) rfl) rfl) <|
  mc_1 (mk_p (ms_iconst (n := 2) (by decide +kernel) (by decide +kernel)) rfl) <|
  mc_1 (mk_p (ms_iadd (by decide +kernel)) rfl) <|
  mc_1 (mk_p (ms_ald (Or.inl ⟨rfl, by decide +kernel⟩)) rfl) <|
  mc_1 (mk_p (ms_aload_n (k := 0) (by decide +kernel) rfl) rfl) <|
  mc_1 (mk_p (ms_iload_n (k := 3) (by decide +kernel) rfl) rfl) <|
  mc_1 (mk_p (ms_iconst (n := 3) (by decide +kernel) (by decide +kernel)) rfl) <| mc_0
theorem mw_L_21 : ∀ e ∈ mt_L_21, mx_Ok mx_MT mq_L e.1 e.2 := 
  mc_1 (mk_p (ms_iadd (by decide +kernel)) rfl) <|
  mc_1 (mk_p (ms_ald (Or.inl ⟨rfl, by decide +kernel⟩)) rfl) <|
  mc_1 (mk_p (ms_aload_n (k := 0) (by decide +kernel) rfl) rfl) <|
  mc_1 (mk_p (ms_iload_n (k := 3) (by decide +kernel) rfl) rfl) <|
  mc_1 (mk_p (ms_iconst (n := 4) (by decide +kernel) (by decide +kernel)) rfl) <|
  mc_1 (mk_p (ms_iadd (by decide +kernel)) rfl) <|
  mc_1 (mk_p (ms_ald (Or.inl ⟨rfl, by decide +kernel⟩)) rfl) <|
  mc_1 (mk_c (k := mq_176) rfl ⟨mo_176, 31, 1337, none, ml_m_LeagueOfficeLaw_31, Or.inr (Or.inr (Or.inl ⟨12, TX12, 78, by decide, rfl, rfl, (by decide +kernel), ⟨4, rfl, mx_npd (by decide +kernel)⟩, ml_in_1338, ml_se_1339⟩))⟩) <|
  mc_1 (mk_p (ms_pop (by decide +kernel)) rfl) <|
  mc_1 (mk_p (ms_goto (off := (1231)) (by decide +kernel) (by decide)) rfl) <|
  mc_1 (mk_p (ms_aload_n (k := 1) (by decide +kernel) rfl) rfl) <|
  mc_1 (mk_p (ms_aload_n (k := 0) (by decide +kernel) rfl) rfl) <| mc_0
theorem mw_L_22 : ∀ e ∈ mt_L_22, mx_Ok mx_MT mq_L e.1 e.2 := 
  mc_1 (mk_p (ms_iload_n (k := 3) (by decide +kernel) rfl) rfl) <|
  mc_1 (mk_p (ms_iconst (n := 1) (by decide +kernel) (by decide +kernel)) rfl) <|
  mc_1 (mk_p (ms_iadd (by decide +kernel)) rfl) <|
  mc_1 (mk_p (ms_ald (Or.inl ⟨rfl, by decide +kernel⟩)) rfl) <|
  mc_1 (mk_p (ms_aload_n (k := 0) (by decide +kernel) rfl) rfl) <|
  mc_1 (mk_p (ms_iload_n (k := 3) (by decide +kernel) rfl) rfl) <|
  mc_1 (mk_p (ms_iconst (n := 2) (by decide +kernel) (by decide +kernel)) rfl) <|
  mc_1 (mk_p (ms_iadd (by decide +kernel)) rfl) <|
  mc_1 (mk_p (ms_ald (Or.inl ⟨rfl, by decide +kernel⟩)) rfl) <|
  mc_1 (mk_c (k := mq_123) rfl ⟨mo_123, 32, 775, none, ml_m_LeagueOfficeLaw_32, Or.inr (Or.inr (Or.inl ⟨11, TX11, 10, by decide, rfl, rfl, (by decide +kernel), ⟨2, rfl, mx_npd (by decide +kernel)⟩, ml_in_776, ml_se_777⟩))⟩) <|
  mc_1 (mk_p (ms_pop (by decide +kernel)) rfl) <|
  mc_1 (mk_p (ms_aload_n (k := 2) (by decide +kernel) rfl) rfl) <|
  mc_1 (mk_p (ms_aload_n (k := 0) (by decide +kernel) rfl) rfl) <|
  mc_1 (mk_p (ms_iload_n (k := 3) (by decide +kernel) rfl) rfl) <| mc_0
theorem mw_L_23 : ∀ e ∈ mt_L_23, mx_Ok mx_MT mq_L e.1 e.2 := 
  mc_1 (mk_p (ms_iconst (n := 1) (by decide +kernel) (by decide +kernel)) rfl) <|
  mc_1 (mk_p (ms_iadd (by decide +kernel)) rfl) <|
  mc_1 (mk_p (ms_ald (Or.inl ⟨rfl, by decide +kernel⟩)) rfl) <|
  mc_1 (mk_p (ms_aload_n (k := 0) (by decide +kernel) rfl) rfl) <|
  mc_1 (mk_p (ms_iload_n (k := 3) (by decide +kernel) rfl) rfl) <|
  mc_1 (mk_p (ms_iconst (n := 2) (by decide +kernel) (by decide +kernel)) rfl) <|
  mc_1 (mk_p (ms_iadd (by decide +kernel)) rfl) <|
  mc_1 (mk_p (ms_ald (Or.inl ⟨rfl, by decide +kernel⟩)) rfl) <|
  mc_1 (mk_c (k := mq_177) rfl ⟨mo_177, 35, 1344, none, ml_m_LeagueOfficeLaw_35, Or.inr (Or.inr (Or.inl ⟨12, TX12, 78, by decide, rfl, rfl, (by decide +kernel), ⟨2, rfl, mx_npd (by decide +kernel)⟩, ml_in_1345, ml_se_1346⟩))⟩) <|
  mc_1 (mk_p (ms_pop (by decide +kernel)) rfl) <|
  mc_1 (mk_p (ms_goto (off := (1198)) (by decide +kernel) (by decide)) rfl) <|
  mc_1 (mk_p (ms_aload_n (k := 1) (by decide +kernel) rfl) rfl) <| mc_0
theorem mw_L_24 : ∀ e ∈ mt_L_24, mx_Ok mx_MT mq_L e.1 e.2 := 
  mc_1 (mk_p (ms_aload_n (k := 0) (by decide +kernel) rfl) rfl) <|
  mc_1 (mk_p (ms_iload_n (k := 3) (by decide +kernel) rfl) rfl) <|
  mc_1 (mk_p (ms_iconst (n := 1) (by decide +kernel) (by decide +kernel)) rfl) <|
  mc_1 (mk_p (ms_iadd (by decide +kernel)) rfl) <|
  mc_1 (mk_p (ms_ald (Or.inl ⟨rfl, by decide +kernel⟩)) rfl) <|
  mc_1 (mk_p (ms_aload_n (k := 0) (by decide +kernel) rfl) rfl) <|
  mc_1 (mk_p (ms_iload_n (k := 3) (by decide +kernel) rfl) rfl) <|
  mc_1 (mk_p (ms_iconst (n := 2) (by decide +kernel) (by decide +kernel)) rfl) <|
  mc_1 (mk_p (ms_iadd (by decide +kernel)) rfl) <|
  mc_1 (mk_p (ms_ald (Or.inl ⟨rfl, by decide +kernel⟩)) rfl) <|
  mc_1 (mk_p (ms_aload_n (k := 0) (by decide +kernel) rfl) rfl) <|
  mc_1 (mk_p (ms_iload_n (k := 3) (by decide +kernel) rfl) rfl) <|
  mc_1 (mk_p (ms_iconst (n := 3) (by decide +kernel) (by decide +kernel)) rfl) <|
  mc_1 (mk_p (ms_iadd (by decide +kernel)) rfl) <|
  mc_1 (mk_p (ms_ald (Or.inl ⟨rfl, by decide +kernel⟩)) rfl) <|
  mc_1 (mk_c (k := mq_124) rfl ⟨mo_124, 36, 794, none, ml_m_LeagueOfficeLaw_36, Or.inr (Or.inr (Or.inl ⟨11, TX11, 10, by decide, rfl, rfl, (by decide +kernel), ⟨3, rfl, mx_npd (by decide +kernel)⟩, ml_in_795, ml_se_796⟩))⟩) <| mc_0
theorem mw_L_25 : ∀ e ∈ mt_L_25, mx_Ok mx_MT mq_L e.1 e.2 := 
  mc_1 (mk_p (ms_pop (by decide +kernel)) rfl) <|
  mc_1 (mk_p (ms_aload_n (k := 2) (by decide +kernel) rfl) rfl) <|
  mc_1 (mk_p (ms_aload_n (k := 0) (by decide +kernel) rfl) rfl) <|
  mc_1 (mk_p (ms_iload_n (k := 3) (by decide +kernel) rfl) rfl) <|
  mc_1 (mk_p (ms_iconst (n := 1) (by decide +kernel) (by decide +kernel)) rfl) <|
  mc_1 (mk_p (ms_iadd (by decide +kernel)) rfl) <|
  mc_1 (mk_p (ms_ald (Or.inl ⟨rfl, by decide +kernel⟩)) rfl) <|
  mc_1 (mk_p (ms_aload_n (k := 0) (by decide +kernel) rfl) rfl) <|
  mc_1 (mk_p (ms_iload_n (k := 3) (by decide +kernel) rfl) rfl) <|
  mc_1 (mk_p (ms_iconst (n := 2) (by decide +kernel) (by decide +kernel)) rfl) <|
  mc_1 (mk_p (ms_iadd (by decide +kernel)) rfl) <|
  mc_1 (mk_p (ms_ald (Or.inl ⟨rfl, by decide +kernel⟩)) rfl) <|
  mc_1 (mk_p (ms_aload_n (k := 0) (by decide +kernel) rfl) rfl) <|
  mc_1 (mk_p (ms_iload_n (k := 3) (by decide +kernel) rfl) rfl) <| mc_0
theorem mw_L_26 : ∀ e ∈ mt_L_26, mx_Ok mx_MT mq_L e.1 e.2 := 
  mc_1 (mk_p (ms_iconst (n := 3) (by decide +kernel) (by decide +kernel)) rfl) <|
  mc_1 (mk_p (ms_iadd (by decide +kernel)) rfl) <|
  mc_1 (mk_p (ms_ald (Or.inl ⟨rfl, by decide +kernel⟩)) rfl) <|
  mc_1 (mk_c (k := mq_178) rfl ⟨mo_178, 40, 1364, none, ml_m_LeagueOfficeLaw_40, Or.inr (Or.inr (Or.inl ⟨12, TX12, 78, by decide, rfl, rfl, (by decide +kernel), ⟨3, rfl, mx_npd (by decide +kernel)⟩, ml_in_1365, ml_se_1366⟩))⟩) <|
  mc_1 (mk_p (ms_pop (by decide +kernel)) rfl) <|
  mc_1 (mk_p (ms_goto (off := (1155)) (by decide +kernel) (by decide)) rfl) <|
  mc_1 (mk_p (ms_aload_n (k := 1) (by decide +kernel) rfl) rfl) <|
  mc_1 (mk_p (ms_aload_n (k := 0) (by decide +kernel) rfl) rfl) <|
  mc_1 (mk_p (ms_iload_n (k := 3) (by decide +kernel) rfl) rfl) <|
  mc_1 (mk_p (ms_iconst (n := 1) (by decide +kernel) (by decide +kernel)) rfl) <|
  mc_1 (mk_p (ms_iadd (by decide +kernel)) rfl) <|
  mc_1 (mk_p (ms_ald (Or.inl ⟨rfl, by decide +kernel⟩)) rfl) <| mc_0
theorem mw_L_27 : ∀ e ∈ mt_L_27, mx_Ok mx_MT mq_L e.1 e.2 := 
  mc_1 (mk_p (ms_aload_n (k := 0) (by decide +kernel) rfl) rfl) <|
  mc_1 (mk_p (ms_iload_n (k := 3) (by decide +kernel) rfl) rfl) <|
  mc_1 (mk_p (ms_iconst (n := 2) (by decide +kernel) (by decide +kernel)) rfl) <|
  mc_1 (mk_p (ms_iadd (by decide +kernel)) rfl) <|
  mc_1 (mk_p (ms_ald (Or.inl ⟨rfl, by decide +kernel⟩)) rfl) <|
  mc_1 (mk_c (k := mq_125) rfl ⟨mo_125, 41, 806, none, ml_m_LeagueOfficeLaw_41, Or.inr (Or.inr (Or.inl ⟨11, TX11, 10, by decide, rfl, rfl, (by decide +kernel), ⟨2, rfl, mx_npd (by decide +kernel)⟩, ml_in_807, ml_se_808⟩))⟩) <|
  mc_1 (mk_p (ms_pop (by decide +kernel)) rfl) <|
  mc_1 (mk_p (ms_aload_n (k := 2) (by decide +kernel) rfl) rfl) <|
  mc_1 (mk_p (ms_aload_n (k := 0) (by decide +kernel) rfl) rfl) <|
  mc_1 (mk_p (ms_iload_n (k := 3) (by decide +kernel) rfl) rfl) <|
  mc_1 (mk_p (ms_iconst (n := 1) (by decide +kernel) (by decide +kernel)) rfl) <|
  mc_1 (mk_p (ms_iadd (by decide +kernel)) rfl) <|
  mc_1 (mk_p (ms_ald (Or.inl ⟨rfl, by decide +kernel⟩)) rfl) <|
  mc_1 (mk_p (ms_aload_n (k := 0) (by decide +kernel) rfl) rfl) <| mc_0
theorem mw_L_28 : ∀ e ∈ mt_L_28, mx_Ok mx_MT mq_L e.1 e.2 := 
  mc_1 (mk_p (ms_iload_n (k := 3) (by decide +kernel) rfl) rfl) <|
  mc_1 (mk_p (ms_iconst (n := 2) (by decide +kernel) (by decide +kernel)) rfl) <|
  mc_1 (mk_p (ms_iadd (by decide +kernel)) rfl) <|
  mc_1 (mk_p (ms_ald (Or.inl ⟨rfl, by decide +kernel⟩)) rfl) <|
  mc_1 (mk_c (k := mq_180) rfl ⟨mo_180, 44, 1368, none, ml_m_LeagueOfficeLaw_44, Or.inr (Or.inr (Or.inl ⟨12, TX12, 78, by decide, rfl, rfl, (by decide +kernel), ⟨2, rfl, mx_npd (by decide +kernel)⟩, ml_in_1369, ml_se_1370⟩))⟩) <|
  mc_1 (mk_p (ms_pop (by decide +kernel)) rfl) <|
  mc_1 (mk_p (ms_goto (off := (1122)) (by decide +kernel) (by decide)) rfl) <|
  mc_1 (mk_p (ms_aload_n (k := 1) (by decide +kernel) rfl) rfl) <|
  mc_1 (mk_p (ms_aload_n (k := 0) (by decide +kernel) rfl) rfl) <|
  mc_1 (mk_p (ms_iload_n (k := 3) (by decide +kernel) rfl) rfl) <|
  mc_1 (mk_p (ms_iconst (n := 1) (by decide +kernel) (by decide +kernel)) rfl) <|
  mc_1 (mk_p (ms_iadd (by decide +kernel)) rfl) <| mc_0
theorem mw_L_29 : ∀ e ∈ mt_L_29, mx_Ok mx_MT mq_L e.1 e.2 := 
  mc_1 (mk_p (ms_ald (Or.inl ⟨rfl, by decide +kernel⟩)) rfl) <|
  mc_1 (mk_p (ms_aload_n (k := 0) (by decide +kernel) rfl) rfl) <|
  mc_1 (mk_p (ms_iload_n (k := 3) (by decide +kernel) rfl) rfl) <|
  mc_1 (mk_p (ms_iconst (n := 2) (by decide +kernel) (by decide +kernel)) rfl) <|
  mc_1 (mk_p (ms_iadd (by decide +kernel)) rfl) <|
  mc_1 (mk_p (ms_ald (Or.inl ⟨rfl, by decide +kernel⟩)) rfl) <|
  mc_1 (mk_p (ms_i2l (by decide +kernel)) rfl) <|
  mc_1 (mk_p (ms_bipush (n := 32) (by decide +kernel) (by decide +kernel)) rfl) <|
  mc_1 (mk_p (ms_lshl (by decide +kernel)) rfl) <|
  mc_1 (mk_p (ms_aload_n (k := 0) (by decide +kernel) rfl) rfl) <|
  mc_1 (mk_p (ms_iload_n (k := 3) (by decide +kernel) rfl) rfl) <|
  mc_1 (mk_p (ms_iconst (n := 3) (by decide +kernel) (by decide +kernel)) rfl) <|
  mc_1 (mk_p (ms_iadd (by decide +kernel)) rfl) <|
  mc_1 (mk_p (ms_ald (Or.inl ⟨rfl, by decide +kernel⟩)) rfl) <|
  mc_1 (mk_p (ms_i2l (by decide +kernel)) rfl) <| mc_0
theorem mw_L_30 : ∀ e ∈ mt_L_30, mx_Ok mx_MT mq_L e.1 e.2 := 
  mc_1 (mk_p (ms_ldc2 (idx := 45) 1962 (by decide +kernel) (by decide +kernel)) rfl) <|
  mc_1 (mk_p (ms_land (by decide +kernel)) rfl) <|
  mc_1 (mk_p (ms_lor (by decide +kernel)) rfl) <|
  mc_1 (mk_c (k := mq_126) rfl ⟨mo_126, 47, 819, none, ml_m_LeagueOfficeLaw_47, Or.inr (Or.inr (Or.inl ⟨11, TX11, 10, by decide, rfl, rfl, (by decide +kernel), ⟨2, rfl, mx_npd (by decide +kernel)⟩, ml_in_820, ml_se_821⟩))⟩) <|
  mc_1 (mk_p (ms_pop (by decide +kernel)) rfl) <|
  mc_1 (mk_p (ms_aload_n (k := 2) (by decide +kernel) rfl) rfl) <|
  mc_1 (mk_p (ms_aload_n (k := 0) (by decide +kernel) rfl) rfl) <|
  mc_1 (mk_p (ms_iload_n (k := 3) (by decide +kernel) rfl) rfl) <|
  mc_1 (mk_p (ms_iconst (n := 1) (by decide +kernel) (by decide +kernel)) rfl) <|
  mc_1 (mk_p (ms_iadd (by decide +kernel)) rfl) <|
  mc_1 (mk_p (ms_ald (Or.inl ⟨rfl, by decide +kernel⟩)) rfl) <|
  mc_1 (mk_p (ms_aload_n (k := 0) (by decide +kernel) rfl) rfl) <| mc_0
theorem mw_L_31 : ∀ e ∈ mt_L_31, mx_Ok mx_MT mq_L e.1 e.2 := 
  mc_1 (mk_p (ms_iload_n (k := 3) (by decide +kernel) rfl) rfl) <|
  mc_1 (mk_p (ms_iconst (n := 2) (by decide +kernel) (by decide +kernel)) rfl) <|
  mc_1 (mk_p (ms_iadd (by decide +kernel)) rfl) <|
  mc_1 (mk_p (ms_ald (Or.inl ⟨rfl, by decide +kernel⟩)) rfl) <|
  mc_1 (mk_p (ms_i2l (by decide +kernel)) rfl) <|
  mc_1 (mk_p (ms_bipush (n := 32) (by decide +kernel) (by decide +kernel)) rfl) <|
  mc_1 (mk_p (ms_lshl (by decide +kernel)) rfl) <|
  mc_1 (mk_p (ms_aload_n (k := 0) (by decide +kernel) rfl) rfl) <|
  mc_1 (mk_p (ms_iload_n (k := 3) (by decide +kernel) rfl) rfl) <|
  mc_1 (mk_p (ms_iconst (n := 3) (by decide +kernel) (by decide +kernel)) rfl) <|
  mc_1 (mk_p (ms_iadd (by decide +kernel)) rfl) <|
  mc_1 (mk_p (ms_ald (Or.inl ⟨rfl, by decide +kernel⟩)) rfl) <|
  mc_1 (mk_p (ms_i2l (by decide +kernel)) rfl) <|
  mc_1 (mk_p (ms_ldc2 (idx := 45) 1962 (by decide +kernel) (by decide +kernel)) rfl) <| mc_0
theorem mw_L_32 : ∀ e ∈ mt_L_32, mx_Ok mx_MT mq_L e.1 e.2 := 
  mc_1 (mk_p (ms_land (by decide +kernel)) rfl) <|
  mc_1 (mk_p (ms_lor (by decide +kernel)) rfl) <|
  mc_1 (mk_c (k := mq_182) rfl ⟨mo_182, 51, 1688, none, ml_m_LeagueOfficeLaw_51, Or.inr (Or.inr (Or.inl ⟨12, TX12, 78, by decide, rfl, rfl, (by decide +kernel), ⟨2, rfl, mx_npd (by decide +kernel)⟩, ml_in_1689, ml_se_1690⟩))⟩) <|
  mc_1 (mk_p (ms_pop (by decide +kernel)) rfl) <|
  mc_1 (mk_p (ms_goto (off := (1059)) (by decide +kernel) (by decide)) rfl) <|
  mc_1 (mk_p (ms_aload_n (k := 1) (by decide +kernel) rfl) rfl) <|
  mc_1 (mk_c (k := mq_127) rfl ⟨mo_127, 52, 824, none, ml_m_LeagueOfficeLaw_52, Or.inr (Or.inr (Or.inl ⟨11, TX11, 10, by decide, rfl, rfl, (by decide +kernel), ⟨0, rfl, mx_npd (by decide +kernel)⟩, ml_in_825, ml_se_826⟩))⟩) <|
  mc_1 (mk_p (ms_pop (by decide +kernel)) rfl) <|
  mc_1 (mk_p (ms_aload_n (k := 2) (by decide +kernel) rfl) rfl) <| mc_0
theorem mw_L_33 : ∀ e ∈ mt_L_33, mx_Ok mx_MT mq_L e.1 e.2 := 
  mc_1 (mk_c (k := mq_199) rfl ⟨mo_199, 56, 1692, none, ml_m_LeagueOfficeLaw_56, Or.inr (Or.inr (Or.inl ⟨12, TX12, 78, by decide, rfl, rfl, (by decide +kernel), ⟨0, rfl, mx_npd (by decide +kernel)⟩, ml_in_1693, ml_se_1694⟩))⟩) <|
  mc_1 (mk_p (ms_pop (by decide +kernel)) rfl) <|
  mc_1 (mk_p (ms_goto (off := (1046)) (by decide +kernel) (by decide)) rfl) <|
  mc_1 (mk_p (ms_aload_n (k := 1) (by decide +kernel) rfl) rfl) <|
  mc_1 (mk_p (ms_aload_n (k := 0) (by decide +kernel) rfl) rfl) <|
  mc_1 (mk_p (ms_iload_n (k := 3) (by decide +kernel) rfl) rfl) <|
  mc_1 (mk_p (ms_iconst (n := 1) (by decide +kernel) (by decide +kernel)) rfl) <|
  mc_1 (mk_p (ms_iadd (by decide +kernel)) rfl) <|
  mc_1 (mk_p (ms_ald (Or.inl ⟨rfl, by decide +kernel⟩)) rfl) <|
  mc_1 (mk_p (ms_aload_n (k := 0) (by decide +kernel) rfl) rfl) <|
  mc_1 (mk_p (ms_iload_n (k := 3) (by decide +kernel) rfl) rfl) <|
  mc_1 (mk_p (ms_iconst (n := 2) (by decide +kernel) (by decide +kernel)) rfl) <| mc_0
theorem mw_L_34 : ∀ e ∈ mt_L_34, mx_Ok mx_MT mq_L e.1 e.2 := 
  mc_1 (mk_p (ms_iadd (by decide +kernel)) rfl) <|
  mc_1 (mk_p (ms_ald (Or.inl ⟨rfl, by decide +kernel⟩)) rfl) <|
  mc_1 (mk_c (k := mq_128) rfl ⟨mo_128, 57, 828, none, ml_m_LeagueOfficeLaw_57, Or.inr (Or.inr (Or.inl ⟨11, TX11, 10, by decide, rfl, rfl, (by decide +kernel), ⟨2, rfl, mx_npd (by decide +kernel)⟩, ml_in_829, ml_se_830⟩))⟩) <|
  mc_1 (mk_p (ms_pop (by decide +kernel)) rfl) <|
  mc_1 (mk_p (ms_aload_n (k := 2) (by decide +kernel) rfl) rfl) <|
  mc_1 (mk_p (ms_aload_n (k := 0) (by decide +kernel) rfl) rfl) <|
  mc_1 (mk_p (ms_iload_n (k := 3) (by decide +kernel) rfl) rfl) <|
  mc_1 (mk_p (ms_iconst (n := 1) (by decide +kernel) (by decide +kernel)) rfl) <|
  mc_1 (mk_p (ms_iadd (by decide +kernel)) rfl) <|
  mc_1 (mk_p (ms_ald (Or.inl ⟨rfl, by decide +kernel⟩)) rfl) <|
  mc_1 (mk_p (ms_aload_n (k := 0) (by decide +kernel) rfl) rfl) <|
  mc_1 (mk_p (ms_iload_n (k := 3) (by decide +kernel) rfl) rfl) <|
  mc_1 (mk_p (ms_iconst (n := 2) (by decide +kernel) (by decide +kernel)) rfl) <|
  mc_1 (mk_p (ms_iadd (by decide +kernel)) rfl) <| mc_0
theorem mw_L_35 : ∀ e ∈ mt_L_35, mx_Ok mx_MT mq_L e.1 e.2 := 
  mc_1 (mk_p (ms_ald (Or.inl ⟨rfl, by decide +kernel⟩)) rfl) <|
  mc_1 (mk_c (k := mq_200) rfl ⟨mo_200, 60, 1696, none, ml_m_LeagueOfficeLaw_60, Or.inr (Or.inr (Or.inl ⟨12, TX12, 78, by decide, rfl, rfl, (by decide +kernel), ⟨2, rfl, mx_npd (by decide +kernel)⟩, ml_in_1697, ml_se_1698⟩))⟩) <|
  mc_1 (mk_p (ms_pop (by decide +kernel)) rfl) <|
  mc_1 (mk_p (ms_goto (off := (1013)) (by decide +kernel) (by decide)) rfl) <|
  mc_1 (mk_p (ms_aload_n (k := 1) (by decide +kernel) rfl) rfl) <|
  mc_1 (mk_p (ms_aload_n (k := 0) (by decide +kernel) rfl) rfl) <|
  mc_1 (mk_p (ms_iload_n (k := 3) (by decide +kernel) rfl) rfl) <|
  mc_1 (mk_p (ms_iconst (n := 1) (by decide +kernel) (by decide +kernel)) rfl) <|
  mc_1 (mk_p (ms_iadd (by decide +kernel)) rfl) <|
  mc_1 (mk_p (ms_ald (Or.inl ⟨rfl, by decide +kernel⟩)) rfl) <|
  mc_1 (mk_c (k := mq_129) rfl ⟨mo_129, 61, 832, none, ml_m_LeagueOfficeLaw_61, Or.inr (Or.inr (Or.inl ⟨11, TX11, 10, by decide, rfl, rfl, (by decide +kernel), ⟨1, rfl, mx_npd (by decide +kernel)⟩, ml_in_833, ml_se_834⟩))⟩) <| mc_0
theorem mw_L_36 : ∀ e ∈ mt_L_36, mx_Ok mx_MT mq_L e.1 e.2 := 
  mc_1 (mk_p (ms_pop (by decide +kernel)) rfl) <|
  mc_1 (mk_p (ms_aload_n (k := 2) (by decide +kernel) rfl) rfl) <|
  mc_1 (mk_p (ms_aload_n (k := 0) (by decide +kernel) rfl) rfl) <|
  mc_1 (mk_p (ms_iload_n (k := 3) (by decide +kernel) rfl) rfl) <|
  mc_1 (mk_p (ms_iconst (n := 1) (by decide +kernel) (by decide +kernel)) rfl) <|
  mc_1 (mk_p (ms_iadd (by decide +kernel)) rfl) <|
  mc_1 (mk_p (ms_ald (Or.inl ⟨rfl, by decide +kernel⟩)) rfl) <|
  mc_1 (mk_c (k := mq_202) rfl ⟨mo_202, 64, 1700, none, ml_m_LeagueOfficeLaw_64, Or.inr (Or.inr (Or.inl ⟨12, TX12, 78, by decide, rfl, rfl, (by decide +kernel), ⟨1, rfl, mx_npd (by decide +kernel)⟩, ml_in_1701, ml_se_1702⟩))⟩) <|
  mc_1 (mk_p (ms_pop (by decide +kernel)) rfl) <|
  mc_1 (mk_p (ms_goto (off := (990)) (by decide +kernel) (by decide)) rfl) <|
  mc_1 (mk_p (ms_aload_n (k := 1) (by decide +kernel) rfl) rfl) <| mc_0
theorem mw_L_37 : ∀ e ∈ mt_L_37, mx_Ok mx_MT mq_L e.1 e.2 := 
  mc_1 (mk_p (ms_aload_n (k := 0) (by decide +kernel) rfl) rfl) <|
  mc_1 (mk_p (ms_iload_n (k := 3) (by decide +kernel) rfl) rfl) <|
  mc_1 (mk_p (ms_iconst (n := 1) (by decide +kernel) (by decide +kernel)) rfl) <|
  mc_1 (mk_p (ms_iadd (by decide +kernel)) rfl) <|
  mc_1 (mk_p (ms_ald (Or.inl ⟨rfl, by decide +kernel⟩)) rfl) <|
  mc_1 (mk_p (ms_aload_n (k := 0) (by decide +kernel) rfl) rfl) <|
  mc_1 (mk_p (ms_iload_n (k := 3) (by decide +kernel) rfl) rfl) <|
  mc_1 (mk_p (ms_iconst (n := 2) (by decide +kernel) (by decide +kernel)) rfl) <|
  mc_1 (mk_p (ms_iadd (by decide +kernel)) rfl) <|
  mc_1 (mk_p (ms_ald (Or.inl ⟨rfl, by decide +kernel⟩)) rfl) <|
  mc_1 (mk_p (ms_aload_n (k := 0) (by decide +kernel) rfl) rfl) <|
  mc_1 (mk_p (ms_iload_n (k := 3) (by decide +kernel) rfl) rfl) <|
  mc_1 (mk_p (ms_iconst (n := 3) (by decide +kernel) (by decide +kernel)) rfl) <|
  mc_1 (mk_p (ms_iadd (by decide +kernel)) rfl) <|
  mc_1 (mk_p (ms_ald (Or.inl ⟨rfl, by decide +kernel⟩)) rfl) <|
  mc_1 (mk_c (k := mq_130) rfl ⟨mo_130, 65, 840, none, ml_m_LeagueOfficeLaw_65, Or.inr (Or.inr (Or.inl ⟨11, TX11, 10, by decide, rfl, rfl, (by decide +kernel), ⟨3, rfl, mx_npd (by decide +kernel)⟩, ml_in_841, ml_se_842⟩))⟩) <| mc_0
theorem mw_L_38 : ∀ e ∈ mt_L_38, mx_Ok mx_MT mq_L e.1 e.2 := 
  mc_1 (mk_p (ms_pop (by decide +kernel)) rfl) <|
  mc_1 (mk_p (ms_aload_n (k := 2) (by decide +kernel) rfl) rfl) <|
  mc_1 (mk_p (ms_aload_n (k := 0) (by decide +kernel) rfl) rfl) <|
  mc_1 (mk_p (ms_iload_n (k := 3) (by decide +kernel) rfl) rfl) <|
  mc_1 (mk_p (ms_iconst (n := 1) (by decide +kernel) (by decide +kernel)) rfl) <|
  mc_1 (mk_p (ms_iadd (by decide +kernel)) rfl) <|
  mc_1 (mk_p (ms_ald (Or.inl ⟨rfl, by decide +kernel⟩)) rfl) <|
  mc_1 (mk_p (ms_aload_n (k := 0) (by decide +kernel) rfl) rfl) <|
  mc_1 (mk_p (ms_iload_n (k := 3) (by decide +kernel) rfl) rfl) <|
  mc_1 (mk_p (ms_iconst (n := 2) (by decide +kernel) (by decide +kernel)) rfl) <|
  mc_1 (mk_p (ms_iadd (by decide +kernel)) rfl) <|
  mc_1 (mk_p (ms_ald (Or.inl ⟨rfl, by decide +kernel⟩)) rfl) <|
  mc_1 (mk_p (ms_aload_n (k := 0) (by decide +kernel) rfl) rfl) <|
  mc_1 (mk_p (ms_iload_n (k := 3) (by decide +kernel) rfl) rfl) <| mc_0
theorem mw_L_39 : ∀ e ∈ mt_L_39, mx_Ok mx_MT mq_L e.1 e.2 := 
  mc_1 (mk_p (ms_iconst (n := 3) (by decide +kernel) (by decide +kernel)) rfl) <|
  mc_1 (mk_p (ms_iadd (by decide +kernel)) rfl) <|
  mc_1 (mk_p (ms_ald (Or.inl ⟨rfl, by decide +kernel⟩)) rfl) <|
  mc_1 (mk_c (k := mq_206) rfl ⟨mo_206, 68, 1708, none, ml_m_LeagueOfficeLaw_68, Or.inr (Or.inr (Or.inl ⟨12, TX12, 78, by decide, rfl, rfl, (by decide +kernel), ⟨3, rfl, mx_npd (by decide +kernel)⟩, ml_in_1709, ml_se_1710⟩))⟩) <|
  mc_1 (mk_p (ms_pop (by decide +kernel)) rfl) <|
  mc_1 (mk_p (ms_goto (off := (947)) (by decide +kernel) (by decide)) rfl) <|
  mc_1 (mk_p (ms_aload_n (k := 1) (by decide +kernel) rfl) rfl) <|
  mc_1 (mk_p (ms_aload_n (k := 0) (by decide +kernel) rfl) rfl) <|
  mc_1 (mk_p (ms_iload_n (k := 3) (by decide +kernel) rfl) rfl) <|
  mc_1 (mk_p (ms_iconst (n := 1) (by decide +kernel) (by decide +kernel)) rfl) <|
  mc_1 (mk_p (ms_iadd (by decide +kernel)) rfl) <|
  mc_1 (mk_p (ms_ald (Or.inl ⟨rfl, by decide +kernel⟩)) rfl) <| mc_0
theorem mw_L_40 : ∀ e ∈ mt_L_40, mx_Ok mx_MT mq_L e.1 e.2 := 
  mc_1 (mk_p (ms_aload_n (k := 0) (by decide +kernel) rfl) rfl) <|
  mc_1 (mk_p (ms_iload_n (k := 3) (by decide +kernel) rfl) rfl) <|
  mc_1 (mk_p (ms_iconst (n := 2) (by decide +kernel) (by decide +kernel)) rfl) <|
  mc_1 (mk_p (ms_iadd (by decide +kernel)) rfl) <|
  mc_1 (mk_p (ms_ald (Or.inl ⟨rfl, by decide +kernel⟩)) rfl) <|
  mc_1 (mk_c (k := mq_131) rfl ⟨mo_131, 69, 844, none, ml_m_LeagueOfficeLaw_69, Or.inr (Or.inr (Or.inl ⟨11, TX11, 10, by decide, rfl, rfl, (by decide +kernel), ⟨2, rfl, mx_npd (by decide +kernel)⟩, ml_in_845, ml_se_846⟩))⟩) <|
  mc_1 (mk_p (ms_pop2 (by decide +kernel)) rfl) <|
  mc_1 (mk_p (ms_aload_n (k := 2) (by decide +kernel) rfl) rfl) <|
  mc_1 (mk_p (ms_aload_n (k := 0) (by decide +kernel) rfl) rfl) <|
  mc_1 (mk_p (ms_iload_n (k := 3) (by decide +kernel) rfl) rfl) <|
  mc_1 (mk_p (ms_iconst (n := 1) (by decide +kernel) (by decide +kernel)) rfl) <|
  mc_1 (mk_p (ms_iadd (by decide +kernel)) rfl) <|
  mc_1 (mk_p (ms_ald (Or.inl ⟨rfl, by decide +kernel⟩)) rfl) <|
  mc_1 (mk_p (ms_aload_n (k := 0) (by decide +kernel) rfl) rfl) <| mc_0
theorem mw_L_41 : ∀ e ∈ mt_L_41, mx_Ok mx_MT mq_L e.1 e.2 := 
  mc_1 (mk_p (ms_iload_n (k := 3) (by decide +kernel) rfl) rfl) <|
  mc_1 (mk_p (ms_iconst (n := 2) (by decide +kernel) (by decide +kernel)) rfl) <|
  mc_1 (mk_p (ms_iadd (by decide +kernel)) rfl) <|
  mc_1 (mk_p (ms_ald (Or.inl ⟨rfl, by decide +kernel⟩)) rfl) <|
  mc_1 (mk_c (k := mq_215) rfl ⟨mo_215, 73, 1712, none, ml_m_LeagueOfficeLaw_73, Or.inr (Or.inr (Or.inl ⟨12, TX12, 78, by decide, rfl, rfl, (by decide +kernel), ⟨2, rfl, mx_npd (by decide +kernel)⟩, ml_in_1713, ml_se_1714⟩))⟩) <|
  mc_1 (mk_p (ms_pop2 (by decide +kernel)) rfl) <|
  mc_1 (mk_p (ms_goto (off := (914)) (by decide +kernel) (by decide)) rfl) <|
  mc_1 (mk_p (ms_aload_n (k := 1) (by decide +kernel) rfl) rfl) <|
  mc_1 (mk_p (ms_aload_n (k := 0) (by decide +kernel) rfl) rfl) <|
  mc_1 (mk_p (ms_iload_n (k := 3) (by decide +kernel) rfl) rfl) <|
  mc_1 (mk_p (ms_iconst (n := 1) (by decide +kernel) (by decide +kernel)) rfl) <|
  mc_1 (mk_p (ms_iadd (by decide +kernel)) rfl) <| mc_0
theorem mw_L_42 : ∀ e ∈ mt_L_42, mx_Ok mx_MT mq_L e.1 e.2 := 
  mc_1 (mk_p (ms_ald (Or.inl ⟨rfl, by decide +kernel⟩)) rfl) <|
  mc_1 (mk_p (ms_aload_n (k := 0) (by decide +kernel) rfl) rfl) <|
  mc_1 (mk_p (ms_iload_n (k := 3) (by decide +kernel) rfl) rfl) <|
  mc_1 (mk_p (ms_iconst (n := 2) (by decide +kernel) (by decide +kernel)) rfl) <|
  mc_1 (mk_p (ms_iadd (by decide +kernel)) rfl) <|
  mc_1 (mk_p (ms_ald (Or.inl ⟨rfl, by decide +kernel⟩)) rfl) <|
  mc_1 (mk_c (k := mq_132) rfl ⟨mo_132, 74, 920, none, ml_m_LeagueOfficeLaw_74, Or.inr (Or.inr (Or.inl ⟨11, TX11, 10, by decide, rfl, rfl, (by decide +kernel), ⟨2, rfl, mx_npd (by decide +kernel)⟩, ml_in_921, ml_se_922⟩))⟩) <|
  mc_1 (mk_p (ms_pop2 (by decide +kernel)) rfl) <|
  mc_1 (mk_p (ms_aload_n (k := 2) (by decide +kernel) rfl) rfl) <|
  mc_1 (mk_p (ms_aload_n (k := 0) (by decide +kernel) rfl) rfl) <|
  mc_1 (mk_p (ms_iload_n (k := 3) (by decide +kernel) rfl) rfl) <|
  mc_1 (mk_p (ms_iconst (n := 1) (by decide +kernel) (by decide +kernel)) rfl) <|
  mc_1 (mk_p (ms_iadd (by decide +kernel)) rfl) <|
  mc_1 (mk_p (ms_ald (Or.inl ⟨rfl, by decide +kernel⟩)) rfl) <| mc_0
theorem mw_L_43 : ∀ e ∈ mt_L_43, mx_Ok mx_MT mq_L e.1 e.2 := 
  mc_1 (mk_p (ms_aload_n (k := 0) (by decide +kernel) rfl) rfl) <|
  mc_1 (mk_p (ms_iload_n (k := 3) (by decide +kernel) rfl) rfl) <|
  mc_1 (mk_p (ms_iconst (n := 2) (by decide +kernel) (by decide +kernel)) rfl) <|
  mc_1 (mk_p (ms_iadd (by decide +kernel)) rfl) <|
  mc_1 (mk_p (ms_ald (Or.inl ⟨rfl, by decide +kernel⟩)) rfl) <|
  mc_1 (mk_c (k := mq_216) rfl ⟨mo_216, 77, 1747, none, ml_m_LeagueOfficeLaw_77, Or.inr (Or.inr (Or.inl ⟨12, TX12, 78, by decide, rfl, rfl, (by decide +kernel), ⟨2, rfl, mx_npd (by decide +kernel)⟩, ml_in_1748, ml_se_1749⟩))⟩) <|
  mc_1 (mk_p (ms_pop2 (by decide +kernel)) rfl) <|
  mc_1 (mk_p (ms_goto (off := (881)) (by decide +kernel) (by decide)) rfl) <|
  mc_1 (mk_p (ms_aload_n (k := 1) (by decide +kernel) rfl) rfl) <|
  mc_1 (mk_p (ms_aload_n (k := 0) (by decide +kernel) rfl) rfl) <|
  mc_1 (mk_p (ms_iload_n (k := 3) (by decide +kernel) rfl) rfl) <|
  mc_1 (mk_p (ms_iconst (n := 1) (by decide +kernel) (by decide +kernel)) rfl) <| mc_0
theorem mw_L_44 : ∀ e ∈ mt_L_44, mx_Ok mx_MT mq_L e.1 e.2 := 
  mc_1 (mk_p (ms_iadd (by decide +kernel)) rfl) <|
  mc_1 (mk_p (ms_ald (Or.inl ⟨rfl, by decide +kernel⟩)) rfl) <|
  mc_1 (mk_p (ms_aload_n (k := 0) (by decide +kernel) rfl) rfl) <|
  mc_1 (mk_p (ms_iload_n (k := 3) (by decide +kernel) rfl) rfl) <|
  mc_1 (mk_p (ms_iconst (n := 2) (by decide +kernel) (by decide +kernel)) rfl) <|
  mc_1 (mk_p (ms_iadd (by decide +kernel)) rfl) <|
  mc_1 (mk_p (ms_ald (Or.inl ⟨rfl, by decide +kernel⟩)) rfl) <|
  mc_1 (mk_p (ms_aload_n (k := 0) (by decide +kernel) rfl) rfl) <|
  mc_1 (mk_p (ms_iload_n (k := 3) (by decide +kernel) rfl) rfl) <|
  mc_1 (mk_p (ms_iconst (n := 3) (by decide +kernel) (by decide +kernel)) rfl) <|
  mc_1 (mk_p (ms_iadd (by decide +kernel)) rfl) <|
  mc_1 (mk_p (ms_ald (Or.inl ⟨rfl, by decide +kernel⟩)) rfl) <|
  mc_1 (mk_c (k := mq_133) rfl ⟨mo_133, 78, 932, none, ml_m_LeagueOfficeLaw_78, Or.inr (Or.inr (Or.inl ⟨11, TX11, 10, by decide, rfl, rfl, (by decide +kernel), ⟨3, rfl, mx_npd (by decide +kernel)⟩, ml_in_933, ml_se_934⟩))⟩) <|
  mc_1 (mk_p (ms_pop (by decide +kernel)) rfl) <| mc_0
theorem mw_L_45 : ∀ e ∈ mt_L_45, mx_Ok mx_MT mq_L e.1 e.2 := 
  mc_1 (mk_p (ms_aload_n (k := 2) (by decide +kernel) rfl) rfl) <|
  mc_1 (mk_p (ms_aload_n (k := 0) (by decide +kernel) rfl) rfl) <|
  mc_1 (mk_p (ms_iload_n (k := 3) (by decide +kernel) rfl) rfl) <|
  mc_1 (mk_p (ms_iconst (n := 1) (by decide +kernel) (by decide +kernel)) rfl) <|
  mc_1 (mk_p (ms_iadd (by decide +kernel)) rfl) <|
  mc_1 (mk_p (ms_ald (Or.inl ⟨rfl, by decide +kernel⟩)) rfl) <|
  mc_1 (mk_p (ms_aload_n (k := 0) (by decide +kernel) rfl) rfl) <|
  mc_1 (mk_p (ms_iload_n (k := 3) (by decide +kernel) rfl) rfl) <|
  mc_1 (mk_p (ms_iconst (n := 2) (by decide +kernel) (by decide +kernel)) rfl) <|
  mc_1 (mk_p (ms_iadd (by decide +kernel)) rfl) <|
  mc_1 (mk_p (ms_ald (Or.inl ⟨rfl, by decide +kernel⟩)) rfl) <|
  mc_1 (mk_p (ms_aload_n (k := 0) (by decide +kernel) rfl) rfl) <|
  mc_1 (mk_p (ms_iload_n (k := 3) (by decide +kernel) rfl) rfl) <|
  mc_1 (mk_p (ms_iconst (n := 3) (by decide +kernel) (by decide +kernel)) rfl) <|
  mc_1 (mk_p (ms_iadd (by decide +kernel)) rfl) <|
  mc_1 (mk_p (ms_ald (Or.inl ⟨rfl, by decide +kernel⟩)) rfl) <| mc_0
theorem mw_L_46 : ∀ e ∈ mt_L_46, mx_Ok mx_MT mq_L e.1 e.2 := 
  mc_1 (mk_c (k := mq_220) rfl ⟨mo_220, 81, 1763, none, ml_m_LeagueOfficeLaw_81, Or.inr (Or.inr (Or.inl ⟨12, TX12, 78, by decide, rfl, rfl, (by decide +kernel), ⟨3, rfl, mx_npd (by decide +kernel)⟩, ml_in_1764, ml_se_1765⟩))⟩) <|
  mc_1 (mk_p (ms_pop (by decide +kernel)) rfl) <|
  mc_1 (mk_p (ms_goto (off := (838)) (by decide +kernel) (by decide)) rfl) <|
  mc_1 (mk_p (ms_aload_n (k := 1) (by decide +kernel) rfl) rfl) <|
  mc_1 (mk_p (ms_aload_n (k := 0) (by decide +kernel) rfl) rfl) <|
  mc_1 (mk_p (ms_iload_n (k := 3) (by decide +kernel) rfl) rfl) <|
  mc_1 (mk_p (ms_iconst (n := 1) (by decide +kernel) (by decide +kernel)) rfl) <|
  mc_1 (mk_p (ms_iadd (by decide +kernel)) rfl) <|
  mc_1 (mk_p (ms_ald (Or.inl ⟨rfl, by decide +kernel⟩)) rfl) <|
  mc_1 (mk_p (ms_aload_n (k := 0) (by decide +kernel) rfl) rfl) <|
  mc_1 (mk_p (ms_iload_n (k := 3) (by decide +kernel) rfl) rfl) <|
  mc_1 (mk_p (ms_iconst (n := 2) (by decide +kernel) (by decide +kernel)) rfl) <| mc_0
theorem mw_L_47 : ∀ e ∈ mt_L_47, mx_Ok mx_MT mq_L e.1 e.2 := 
  mc_1 (mk_p (ms_iadd (by decide +kernel)) rfl) <|
  mc_1 (mk_p (ms_ald (Or.inl ⟨rfl, by decide +kernel⟩)) rfl) <|
  mc_1 (mk_c (k := mq_134) rfl ⟨mo_134, 82, 946, none, ml_m_LeagueOfficeLaw_82, Or.inr (Or.inr (Or.inl ⟨11, TX11, 10, by decide, rfl, rfl, (by decide +kernel), ⟨2, rfl, mx_npd (by decide +kernel)⟩, ml_in_947, ml_se_948⟩))⟩) <|
  mc_1 (mk_p (ms_pop (by decide +kernel)) rfl) <|
  mc_1 (mk_p (ms_aload_n (k := 2) (by decide +kernel) rfl) rfl) <|
  mc_1 (mk_p (ms_aload_n (k := 0) (by decide +kernel) rfl) rfl) <|
  mc_1 (mk_p (ms_iload_n (k := 3) (by decide +kernel) rfl) rfl) <|
  mc_1 (mk_p (ms_iconst (n := 1) (by decide +kernel) (by decide +kernel)) rfl) <|
  mc_1 (mk_p (ms_iadd (by decide +kernel)) rfl) <|
  mc_1 (mk_p (ms_ald (Or.inl ⟨rfl, by decide +kernel⟩)) rfl) <|
  mc_1 (mk_p (ms_aload_n (k := 0) (by decide +kernel) rfl) rfl) <|
  mc_1 (mk_p (ms_iload_n (k := 3) (by decide +kernel) rfl) rfl) <|
  mc_1 (mk_p (ms_iconst (n := 2) (by decide +kernel) (by decide +kernel)) rfl) <|
  mc_1 (mk_p (ms_iadd (by decide +kernel)) rfl) <| mc_0
theorem mw_L_48 : ∀ e ∈ mt_L_48, mx_Ok mx_MT mq_L e.1 e.2 := 
  mc_1 (mk_p (ms_ald (Or.inl ⟨rfl, by decide +kernel⟩)) rfl) <|
  mc_1 (mk_c (k := mq_221) rfl ⟨mo_221, 85, 1779, none, ml_m_LeagueOfficeLaw_85, Or.inr (Or.inr (Or.inl ⟨12, TX12, 78, by decide, rfl, rfl, (by decide +kernel), ⟨2, rfl, mx_npd (by decide +kernel)⟩, ml_in_1780, ml_se_1781⟩))⟩) <|
  mc_1 (mk_p (ms_pop (by decide +kernel)) rfl) <|
  mc_1 (mk_p (ms_goto (off := (805)) (by decide +kernel) (by decide)) rfl) <|
  mc_1 (mk_p (ms_aload_n (k := 1) (by decide +kernel) rfl) rfl) <|
  mc_1 (mk_c (k := mq_135) rfl ⟨mo_135, 86, 951, none, ml_m_LeagueOfficeLaw_86, Or.inr (Or.inr (Or.inl ⟨11, TX11, 10, by decide, rfl, rfl, (by decide +kernel), ⟨0, rfl, mx_npd (by decide +kernel)⟩, ml_in_952, ml_se_953⟩))⟩) <|
  mc_1 (mk_p (ms_pop (by decide +kernel)) rfl) <|
  mc_1 (mk_p (ms_aload_n (k := 2) (by decide +kernel) rfl) rfl) <|
  mc_1 (mk_c (k := mq_223) rfl ⟨mo_223, 89, 1783, none, ml_m_LeagueOfficeLaw_89, Or.inr (Or.inr (Or.inl ⟨12, TX12, 78, by decide, rfl, rfl, (by decide +kernel), ⟨0, rfl, mx_npd (by decide +kernel)⟩, ml_in_1784, ml_se_1785⟩))⟩) <| mc_0
theorem mw_L_49 : ∀ e ∈ mt_L_49, mx_Ok mx_MT mq_L e.1 e.2 := 
  mc_1 (mk_p (ms_pop (by decide +kernel)) rfl) <|
  mc_1 (mk_p (ms_goto (off := (792)) (by decide +kernel) (by decide)) rfl) <|
  mc_1 (mk_p (ms_aload_n (k := 1) (by decide +kernel) rfl) rfl) <|
  mc_1 (mk_p (ms_aload_n (k := 0) (by decide +kernel) rfl) rfl) <|
  mc_1 (mk_p (ms_iload_n (k := 3) (by decide +kernel) rfl) rfl) <|
  mc_1 (mk_p (ms_iconst (n := 1) (by decide +kernel) (by decide +kernel)) rfl) <|
  mc_1 (mk_p (ms_iadd (by decide +kernel)) rfl) <|
  mc_1 (mk_p (ms_ald (Or.inl ⟨rfl, by decide +kernel⟩)) rfl) <|
  mc_1 (mk_p (ms_aload_n (k := 0) (by decide +kernel) rfl) rfl) <|
  mc_1 (mk_p (ms_iload_n (k := 3) (by decide +kernel) rfl) rfl) <|
  mc_1 (mk_p (ms_iconst (n := 2) (by decide +kernel) (by decide +kernel)) rfl) <|
  mc_1 (mk_p (ms_iadd (by decide +kernel)) rfl) <|
  mc_1 (mk_p (ms_ald (Or.inl ⟨rfl, by decide +kernel⟩)) rfl) <| mc_0
theorem mw_L_50 : ∀ e ∈ mt_L_50, mx_Ok mx_MT mq_L e.1 e.2 := 
  mc_1 (mk_p (ms_aload_n (k := 0) (by decide +kernel) rfl) rfl) <|
  mc_1 (mk_p (ms_iload_n (k := 3) (by decide +kernel) rfl) rfl) <|
  mc_1 (mk_p (ms_iconst (n := 3) (by decide +kernel) (by decide +kernel)) rfl) <|
  mc_1 (mk_p (ms_iadd (by decide +kernel)) rfl) <|
  mc_1 (mk_p (ms_ald (Or.inl ⟨rfl, by decide +kernel⟩)) rfl) <|
  mc_1 (mk_c (k := mq_136) rfl ⟨mo_136, 90, 955, none, ml_m_LeagueOfficeLaw_90, Or.inr (Or.inr (Or.inl ⟨11, TX11, 10, by decide, rfl, rfl, (by decide +kernel), ⟨3, rfl, mx_npd (by decide +kernel)⟩, ml_in_956, ml_se_957⟩))⟩) <|
  mc_1 (mk_p (ms_pop (by decide +kernel)) rfl) <|
  mc_1 (mk_p (ms_aload_n (k := 2) (by decide +kernel) rfl) rfl) <|
  mc_1 (mk_p (ms_aload_n (k := 0) (by decide +kernel) rfl) rfl) <|
  mc_1 (mk_p (ms_iload_n (k := 3) (by decide +kernel) rfl) rfl) <|
  mc_1 (mk_p (ms_iconst (n := 1) (by decide +kernel) (by decide +kernel)) rfl) <|
  mc_1 (mk_p (ms_iadd (by decide +kernel)) rfl) <|
  mc_1 (mk_p (ms_ald (Or.inl ⟨rfl, by decide +kernel⟩)) rfl) <|
  mc_1 (mk_p (ms_aload_n (k := 0) (by decide +kernel) rfl) rfl) <| mc_0
theorem mw_L_51 : ∀ e ∈ mt_L_51, mx_Ok mx_MT mq_L e.1 e.2 := 
  mc_1 (mk_p (ms_iload_n (k := 3) (by decide +kernel) rfl) rfl) <|
  mc_1 (mk_p (ms_iconst (n := 2) (by decide +kernel) (by decide +kernel)) rfl) <|
  mc_1 (mk_p (ms_iadd (by decide +kernel)) rfl) <|
  mc_1 (mk_p (ms_ald (Or.inl ⟨rfl, by decide +kernel⟩)) rfl) <|
  mc_1 (mk_p (ms_aload_n (k := 0) (by decide +kernel) rfl) rfl) <|
  mc_1 (mk_p (ms_iload_n (k := 3) (by decide +kernel) rfl) rfl) <|
  mc_1 (mk_p (ms_iconst (n := 3) (by decide +kernel) (by decide +kernel)) rfl) <|
  mc_1 (mk_p (ms_iadd (by decide +kernel)) rfl) <|
  mc_1 (mk_p (ms_ald (Or.inl ⟨rfl, by decide +kernel⟩)) rfl) <|
  mc_1 (mk_c (k := mq_224) rfl ⟨mo_224, 93, 1787, none, ml_m_LeagueOfficeLaw_93, Or.inr (Or.inr (Or.inl ⟨12, TX12, 78, by decide, rfl, rfl, (by decide +kernel), ⟨3, rfl, mx_npd (by decide +kernel)⟩, ml_in_1788, ml_se_1789⟩))⟩) <|
  mc_1 (mk_p (ms_pop (by decide +kernel)) rfl) <|
  mc_1 (mk_p (ms_goto (off := (749)) (by decide +kernel) (by decide)) rfl) <| mc_0
theorem mw_L_52 : ∀ e ∈ mt_L_52, mx_Ok mx_MT mq_L e.1 e.2 := 
  mc_1 (mk_p (ms_aload_n (k := 1) (by decide +kernel) rfl) rfl) <|
  mc_1 (mk_p (ms_aload_n (k := 0) (by decide +kernel) rfl) rfl) <|
  mc_1 (mk_p (ms_iload_n (k := 3) (by decide +kernel) rfl) rfl) <|
  mc_1 (mk_p (ms_iconst (n := 1) (by decide +kernel) (by decide +kernel)) rfl) <|
  mc_1 (mk_p (ms_iadd (by decide +kernel)) rfl) <|
  mc_1 (mk_p (ms_ald (Or.inl ⟨rfl, by decide +kernel⟩)) rfl) <|
  mc_1 (mk_p (ms_aload_n (k := 0) (by decide +kernel) rfl) rfl) <|
  mc_1 (mk_p (ms_iload_n (k := 3) (by decide +kernel) rfl) rfl) <|
  mc_1 (mk_p (ms_iconst (n := 2) (by decide +kernel) (by decide +kernel)) rfl) <|
  mc_1 (mk_p (ms_iadd (by decide +kernel)) rfl) <|
  mc_1 (mk_p (ms_ald (Or.inl ⟨rfl, by decide +kernel⟩)) rfl) <|
  mc_1 (mk_c (k := mq_137) rfl ⟨mo_137, 94, 963, none, ml_m_LeagueOfficeLaw_94, Or.inr (Or.inr (Or.inl ⟨11, TX11, 10, by decide, rfl, rfl, (by decide +kernel), ⟨2, rfl, mx_npd (by decide +kernel)⟩, ml_in_964, ml_se_965⟩))⟩) <|
  mc_1 (mk_p (ms_pop (by decide +kernel)) rfl) <|
  mc_1 (mk_p (ms_aload_n (k := 2) (by decide +kernel) rfl) rfl) <| mc_0
theorem mw_L_53 : ∀ e ∈ mt_L_53, mx_Ok mx_MT mq_L e.1 e.2 := 
  mc_1 (mk_p (ms_aload_n (k := 0) (by decide +kernel) rfl) rfl) <|
  mc_1 (mk_p (ms_iload_n (k := 3) (by decide +kernel) rfl) rfl) <|
  mc_1 (mk_p (ms_iconst (n := 1) (by decide +kernel) (by decide +kernel)) rfl) <|
  mc_1 (mk_p (ms_iadd (by decide +kernel)) rfl) <|
  mc_1 (mk_p (ms_ald (Or.inl ⟨rfl, by decide +kernel⟩)) rfl) <|
  mc_1 (mk_p (ms_aload_n (k := 0) (by decide +kernel) rfl) rfl) <|
  mc_1 (mk_p (ms_iload_n (k := 3) (by decide +kernel) rfl) rfl) <|
  mc_1 (mk_p (ms_iconst (n := 2) (by decide +kernel) (by decide +kernel)) rfl) <|
  mc_1 (mk_p (ms_iadd (by decide +kernel)) rfl) <|
  mc_1 (mk_p (ms_ald (Or.inl ⟨rfl, by decide +kernel⟩)) rfl) <|
  mc_1 (mk_c (k := mq_226) rfl ⟨mo_226, 97, 1795, none, ml_m_LeagueOfficeLaw_97, Or.inr (Or.inr (Or.inl ⟨12, TX12, 78, by decide, rfl, rfl, (by decide +kernel), ⟨2, rfl, mx_npd (by decide +kernel)⟩, ml_in_1796, ml_se_1797⟩))⟩) <|
  mc_1 (mk_p (ms_pop (by decide +kernel)) rfl) <|
  mc_1 (mk_p (ms_goto (off := (716)) (by decide +kernel) (by decide)) rfl) <| mc_0
theorem mw_L_54 : ∀ e ∈ mt_L_54, mx_Ok mx_MT mq_L e.1 e.2 := 
  mc_1 (mk_p (ms_aload_n (k := 1) (by decide +kernel) rfl) rfl) <|
  mc_1 (mk_p (ms_aload_n (k := 0) (by decide +kernel) rfl) rfl) <|
  mc_1 (mk_p (ms_iload_n (k := 3) (by decide +kernel) rfl) rfl) <|
  mc_1 (mk_p (ms_iconst (n := 1) (by decide +kernel) (by decide +kernel)) rfl) <|
  mc_1 (mk_p (ms_iadd (by decide +kernel)) rfl) <|
  mc_1 (mk_p (ms_ald (Or.inl ⟨rfl, by decide +kernel⟩)) rfl) <|
  mc_1 (mk_p (ms_aload_n (k := 0) (by decide +kernel) rfl) rfl) <|
  mc_1 (mk_p (ms_iload_n (k := 3) (by decide +kernel) rfl) rfl) <|
  mc_1 (mk_p (ms_iconst (n := 2) (by decide +kernel) (by decide +kernel)) rfl) <|
  mc_1 (mk_p (ms_iadd (by decide +kernel)) rfl) <|
  mc_1 (mk_p (ms_ald (Or.inl ⟨rfl, by decide +kernel⟩)) rfl) <|
  mc_1 (mk_p (ms_aload_n (k := 0) (by decide +kernel) rfl) rfl) <|
  mc_1 (mk_p (ms_iload_n (k := 3) (by decide +kernel) rfl) rfl) <|
  mc_1 (mk_p (ms_iconst (n := 3) (by decide +kernel) (by decide +kernel)) rfl) <|
  mc_1 (mk_p (ms_iadd (by decide +kernel)) rfl) <| mc_0
theorem mw_L_55 : ∀ e ∈ mt_L_55, mx_Ok mx_MT mq_L e.1 e.2 := 
  mc_1 (mk_p (ms_ald (Or.inl ⟨rfl, by decide +kernel⟩)) rfl) <|
  mc_1 (mk_c (k := mq_138) rfl ⟨mo_138, 98, 973, none, ml_m_LeagueOfficeLaw_98, Or.inr (Or.inr (Or.inl ⟨11, TX11, 10, by decide, rfl, rfl, (by decide +kernel), ⟨3, rfl, mx_npd (by decide +kernel)⟩, ml_in_974, ml_se_975⟩))⟩) <|
  mc_1 (mk_p (ms_pop (by decide +kernel)) rfl) <|
  mc_1 (mk_p (ms_aload_n (k := 2) (by decide +kernel) rfl) rfl) <|
  mc_1 (mk_p (ms_aload_n (k := 0) (by decide +kernel) rfl) rfl) <|
  mc_1 (mk_p (ms_iload_n (k := 3) (by decide +kernel) rfl) rfl) <|
  mc_1 (mk_p (ms_iconst (n := 1) (by decide +kernel) (by decide +kernel)) rfl) <|
  mc_1 (mk_p (ms_iadd (by decide +kernel)) rfl) <|
  mc_1 (mk_p (ms_ald (Or.inl ⟨rfl, by decide +kernel⟩)) rfl) <|
  mc_1 (mk_p (ms_aload_n (k := 0) (by decide +kernel) rfl) rfl) <|
  mc_1 (mk_p (ms_iload_n (k := 3) (by decide +kernel) rfl) rfl) <|
  mc_1 (mk_p (ms_iconst (n := 2) (by decide +kernel) (by decide +kernel)) rfl) <|
  mc_1 (mk_p (ms_iadd (by decide +kernel)) rfl) <|
  mc_1 (mk_p (ms_ald (Or.inl ⟨rfl, by decide +kernel⟩)) rfl) <| mc_0
theorem mw_L_56 : ∀ e ∈ mt_L_56, mx_Ok mx_MT mq_L e.1 e.2 := 
  mc_1 (mk_p (ms_aload_n (k := 0) (by decide +kernel) rfl) rfl) <|
  mc_1 (mk_p (ms_iload_n (k := 3) (by decide +kernel) rfl) rfl) <|
  mc_1 (mk_p (ms_iconst (n := 3) (by decide +kernel) (by decide +kernel)) rfl) <|
  mc_1 (mk_p (ms_iadd (by decide +kernel)) rfl) <|
  mc_1 (mk_p (ms_ald (Or.inl ⟨rfl, by decide +kernel⟩)) rfl) <|
  mc_1 (mk_c (k := mq_227) rfl ⟨mo_227, 101, 1803, none, ml_m_LeagueOfficeLaw_101, Or.inr (Or.inr (Or.inl ⟨12, TX12, 78, by decide, rfl, rfl, (by decide +kernel), ⟨3, rfl, mx_npd (by decide +kernel)⟩, ml_in_1804, ml_se_1805⟩))⟩) <|
  mc_1 (mk_p (ms_pop (by decide +kernel)) rfl) <|
  mc_1 (mk_p (ms_goto (off := (673)) (by decide +kernel) (by decide)) rfl) <|
  mc_1 (mk_p (ms_aload_n (k := 1) (by decide +kernel) rfl) rfl) <|
  mc_1 (mk_p (ms_aload_n (k := 0) (by decide +kernel) rfl) rfl) <|
  mc_1 (mk_p (ms_iload_n (k := 3) (by decide +kernel) rfl) rfl) <|
  mc_1 (mk_p (ms_iconst (n := 1) (by decide +kernel) (by decide +kernel)) rfl) <| mc_0
theorem mw_L_57 : ∀ e ∈ mt_L_57, mx_Ok mx_MT mq_L e.1 e.2 := 
  mc_1 (mk_p (ms_iadd (by decide +kernel)) rfl) <|
  mc_1 (mk_p (ms_ald (Or.inl ⟨rfl, by decide +kernel⟩)) rfl) <|
  mc_1 (mk_c (k := mq_139) rfl ⟨mo_139, 102, 977, none, ml_m_LeagueOfficeLaw_102, Or.inr (Or.inr (Or.inl ⟨11, TX11, 10, by decide, rfl, rfl, (by decide +kernel), ⟨1, rfl, mx_npd (by decide +kernel)⟩, ml_in_978, ml_se_979⟩))⟩) <|
  mc_1 (mk_p (ms_pop (by decide +kernel)) rfl) <|
  mc_1 (mk_p (ms_aload_n (k := 2) (by decide +kernel) rfl) rfl) <|
  mc_1 (mk_p (ms_aload_n (k := 0) (by decide +kernel) rfl) rfl) <|
  mc_1 (mk_p (ms_iload_n (k := 3) (by decide +kernel) rfl) rfl) <|
  mc_1 (mk_p (ms_iconst (n := 1) (by decide +kernel) (by decide +kernel)) rfl) <|
  mc_1 (mk_p (ms_iadd (by decide +kernel)) rfl) <|
  mc_1 (mk_p (ms_ald (Or.inl ⟨rfl, by decide +kernel⟩)) rfl) <|
  mc_1 (mk_c (k := mq_229) rfl ⟨mo_229, 105, 1807, none, ml_m_LeagueOfficeLaw_105, Or.inr (Or.inr (Or.inl ⟨12, TX12, 78, by decide, rfl, rfl, (by decide +kernel), ⟨1, rfl, mx_npd (by decide +kernel)⟩, ml_in_1808, ml_se_1809⟩))⟩) <|
  mc_1 (mk_p (ms_pop (by decide +kernel)) rfl) <| mc_0
theorem mw_L_58 : ∀ e ∈ mt_L_58, mx_Ok mx_MT mq_L e.1 e.2 := 
  mc_1 (mk_p (ms_goto (off := (650)) (by decide +kernel) (by decide)) rfl) <|
  mc_1 (mk_p (ms_aload_n (k := 1) (by decide +kernel) rfl) rfl) <|
  mc_1 (mk_p (ms_aload_n (k := 0) (by decide +kernel) rfl) rfl) <|
  mc_1 (mk_p (ms_iload_n (k := 3) (by decide +kernel) rfl) rfl) <|
  mc_1 (mk_p (ms_iconst (n := 1) (by decide +kernel) (by decide +kernel)) rfl) <|
  mc_1 (mk_p (ms_iadd (by decide +kernel)) rfl) <|
  mc_1 (mk_p (ms_ald (Or.inl ⟨rfl, by decide +kernel⟩)) rfl) <|
  mc_1 (mk_p (ms_aload_n (k := 0) (by decide +kernel) rfl) rfl) <|
  mc_1 (mk_p (ms_iload_n (k := 3) (by decide +kernel) rfl) rfl) <|
  mc_1 (mk_p (ms_iconst (n := 2) (by decide +kernel) (by decide +kernel)) rfl) <|
  mc_1 (mk_p (ms_iadd (by decide +kernel)) rfl) <|
  mc_1 (mk_p (ms_ald (Or.inl ⟨rfl, by decide +kernel⟩)) rfl) <|
  mc_1 (mk_c (k := mq_140) rfl ⟨mo_140, 106, 998, none, ml_m_LeagueOfficeLaw_106, Or.inr (Or.inr (Or.inl ⟨11, TX11, 10, by decide, rfl, rfl, (by decide +kernel), ⟨2, rfl, mx_npd (by decide +kernel)⟩, ml_in_999, ml_se_1000⟩))⟩) <| mc_0
theorem mw_L_59 : ∀ e ∈ mt_L_59, mx_Ok mx_MT mq_L e.1 e.2 := 
  mc_1 (mk_p (ms_pop (by decide +kernel)) rfl) <|
  mc_1 (mk_p (ms_aload_n (k := 2) (by decide +kernel) rfl) rfl) <|
  mc_1 (mk_p (ms_aload_n (k := 0) (by decide +kernel) rfl) rfl) <|
  mc_1 (mk_p (ms_iload_n (k := 3) (by decide +kernel) rfl) rfl) <|
  mc_1 (mk_p (ms_iconst (n := 1) (by decide +kernel) (by decide +kernel)) rfl) <|
  mc_1 (mk_p (ms_iadd (by decide +kernel)) rfl) <|
  mc_1 (mk_p (ms_ald (Or.inl ⟨rfl, by decide +kernel⟩)) rfl) <|
  mc_1 (mk_p (ms_aload_n (k := 0) (by decide +kernel) rfl) rfl) <|
  mc_1 (mk_p (ms_iload_n (k := 3) (by decide +kernel) rfl) rfl) <|
  mc_1 (mk_p (ms_iconst (n := 2) (by decide +kernel) (by decide +kernel)) rfl) <|
  mc_1 (mk_p (ms_iadd (by decide +kernel)) rfl) <|
  mc_1 (mk_p (ms_ald (Or.inl ⟨rfl, by decide +kernel⟩)) rfl) <|
  mc_1 (mk_c (k := mq_232) rfl ⟨mo_232, 109, 1815, none, ml_m_LeagueOfficeLaw_109, Or.inr (Or.inr (Or.inl ⟨12, TX12, 78, by decide, rfl, rfl, (by decide +kernel), ⟨2, rfl, mx_npd (by decide +kernel)⟩, ml_in_1816, ml_se_1817⟩))⟩) <| mc_0
theorem mw_L_60 : ∀ e ∈ mt_L_60, mx_Ok mx_MT mq_L e.1 e.2 := 
  mc_1 (mk_p (ms_pop (by decide +kernel)) rfl) <|
  mc_1 (mk_p (ms_goto (off := (617)) (by decide +kernel) (by decide)) rfl) <|
  mc_1 (mk_p (ms_aload_n (k := 1) (by decide +kernel) rfl) rfl) <|
  mc_1 (mk_p (ms_aload_n (k := 0) (by decide +kernel) rfl) rfl) <|
  mc_1 (mk_p (ms_iload_n (k := 3) (by decide +kernel) rfl) rfl) <|
  mc_1 (mk_p (ms_iconst (n := 1) (by decide +kernel) (by decide +kernel)) rfl) <|
  mc_1 (mk_p (ms_iadd (by decide +kernel)) rfl) <|
  mc_1 (mk_p (ms_ald (Or.inl ⟨rfl, by decide +kernel⟩)) rfl) <|
  mc_1 (mk_p (ms_aload_n (k := 0) (by decide +kernel) rfl) rfl) <|
  mc_1 (mk_p (ms_iload_n (k := 3) (by decide +kernel) rfl) rfl) <|
  mc_1 (mk_p (ms_iconst (n := 2) (by decide +kernel) (by decide +kernel)) rfl) <|
  mc_1 (mk_p (ms_iadd (by decide +kernel)) rfl) <|
  mc_1 (mk_p (ms_ald (Or.inl ⟨rfl, by decide +kernel⟩)) rfl) <|
  mc_1 (mk_c (k := mq_141) rfl ⟨mo_141, 110, 1027, none, ml_m_LeagueOfficeLaw_110, Or.inr (Or.inr (Or.inl ⟨11, TX11, 10, by decide, rfl, rfl, (by decide +kernel), ⟨2, rfl, mx_npd (by decide +kernel)⟩, ml_in_1028, ml_se_1029⟩))⟩) <| mc_0
theorem mw_L_61 : ∀ e ∈ mt_L_61, mx_Ok mx_MT mq_L e.1 e.2 := 
  mc_1 (mk_p (ms_pop (by decide +kernel)) rfl) <|
  mc_1 (mk_p (ms_aload_n (k := 2) (by decide +kernel) rfl) rfl) <|
  mc_1 (mk_p (ms_aload_n (k := 0) (by decide +kernel) rfl) rfl) <|
  mc_1 (mk_p (ms_iload_n (k := 3) (by decide +kernel) rfl) rfl) <|
  mc_1 (mk_p (ms_iconst (n := 1) (by decide +kernel) (by decide +kernel)) rfl) <|
  mc_1 (mk_p (ms_iadd (by decide +kernel)) rfl) <|
  mc_1 (mk_p (ms_ald (Or.inl ⟨rfl, by decide +kernel⟩)) rfl) <|
  mc_1 (mk_p (ms_aload_n (k := 0) (by decide +kernel) rfl) rfl) <|
  mc_1 (mk_p (ms_iload_n (k := 3) (by decide +kernel) rfl) rfl) <|
  mc_1 (mk_p (ms_iconst (n := 2) (by decide +kernel) (by decide +kernel)) rfl) <|
  mc_1 (mk_p (ms_iadd (by decide +kernel)) rfl) <|
  mc_1 (mk_p (ms_ald (Or.inl ⟨rfl, by decide +kernel⟩)) rfl) <|
  mc_1 (mk_c (k := mq_234) rfl ⟨mo_234, 113, 1827, none, ml_m_LeagueOfficeLaw_113, Or.inr (Or.inr (Or.inl ⟨12, TX12, 78, by decide, rfl, rfl, (by decide +kernel), ⟨2, rfl, mx_npd (by decide +kernel)⟩, ml_in_1828, ml_se_1829⟩))⟩) <| mc_0
theorem mw_L_62 : ∀ e ∈ mt_L_62, mx_Ok mx_MT mq_L e.1 e.2 := 
  mc_1 (mk_p (ms_pop (by decide +kernel)) rfl) <|
  mc_1 (mk_p (ms_goto (off := (584)) (by decide +kernel) (by decide)) rfl) <|
  mc_1 (mk_p (ms_aload_n (k := 1) (by decide +kernel) rfl) rfl) <|
  mc_1 (mk_p (ms_aload_n (k := 0) (by decide +kernel) rfl) rfl) <|
  mc_1 (mk_p (ms_iload_n (k := 3) (by decide +kernel) rfl) rfl) <|
  mc_1 (mk_p (ms_iconst (n := 1) (by decide +kernel) (by decide +kernel)) rfl) <|
  mc_1 (mk_p (ms_iadd (by decide +kernel)) rfl) <|
  mc_1 (mk_p (ms_ald (Or.inl ⟨rfl, by decide +kernel⟩)) rfl) <|
  mc_1 (mk_p (ms_aload_n (k := 0) (by decide +kernel) rfl) rfl) <|
  mc_1 (mk_p (ms_iload_n (k := 3) (by decide +kernel) rfl) rfl) <|
  mc_1 (mk_p (ms_iconst (n := 2) (by decide +kernel) (by decide +kernel)) rfl) <|
  mc_1 (mk_p (ms_iadd (by decide +kernel)) rfl) <|
  mc_1 (mk_p (ms_ald (Or.inl ⟨rfl, by decide +kernel⟩)) rfl) <| mc_0
theorem mw_L_63 : ∀ e ∈ mt_L_63, mx_Ok mx_MT mq_L e.1 e.2 := 
  mc_1 (mk_c (k := mq_142) rfl ⟨mo_142, 114, 1036, none, ml_m_LeagueOfficeLaw_114, Or.inr (Or.inr (Or.inl ⟨11, TX11, 10, by decide, rfl, rfl, (by decide +kernel), ⟨2, rfl, mx_npd (by decide +kernel)⟩, ml_in_1037, ml_se_1038⟩))⟩) <|
  mc_1 (mk_p (ms_pop (by decide +kernel)) rfl) <|
  mc_1 (mk_p (ms_aload_n (k := 2) (by decide +kernel) rfl) rfl) <|
  mc_1 (mk_p (ms_aload_n (k := 0) (by decide +kernel) rfl) rfl) <|
  mc_1 (mk_p (ms_iload_n (k := 3) (by decide +kernel) rfl) rfl) <|
  mc_1 (mk_p (ms_iconst (n := 1) (by decide +kernel) (by decide +kernel)) rfl) <|
  mc_1 (mk_p (ms_iadd (by decide +kernel)) rfl) <|
  mc_1 (mk_p (ms_ald (Or.inl ⟨rfl, by decide +kernel⟩)) rfl) <|
  mc_1 (mk_p (ms_aload_n (k := 0) (by decide +kernel) rfl) rfl) <|
  mc_1 (mk_p (ms_iload_n (k := 3) (by decide +kernel) rfl) rfl) <|
  mc_1 (mk_p (ms_iconst (n := 2) (by decide +kernel) (by decide +kernel)) rfl) <|
  mc_1 (mk_p (ms_iadd (by decide +kernel)) rfl) <|
  mc_1 (mk_p (ms_ald (Or.inl ⟨rfl, by decide +kernel⟩)) rfl) <|
  mc_1 (mk_c (k := mq_235) rfl ⟨mo_235, 117, 1835, none, ml_m_LeagueOfficeLaw_117, Or.inr (Or.inr (Or.inl ⟨12, TX12, 78, by decide, rfl, rfl, (by decide +kernel), ⟨2, rfl, mx_npd (by decide +kernel)⟩, ml_in_1836, ml_se_1837⟩))⟩) <| mc_0
theorem mw_L_64 : ∀ e ∈ mt_L_64, mx_Ok mx_MT mq_L e.1 e.2 := 
  mc_1 (mk_p (ms_pop (by decide +kernel)) rfl) <|
  mc_1 (mk_p (ms_goto (off := (551)) (by decide +kernel) (by decide)) rfl) <|
  mc_1 (mk_p (ms_aload_n (k := 1) (by decide +kernel) rfl) rfl) <|
  mc_1 (mk_p (ms_aload_n (k := 0) (by decide +kernel) rfl) rfl) <|
  mc_1 (mk_p (ms_iload_n (k := 3) (by decide +kernel) rfl) rfl) <|
  mc_1 (mk_p (ms_iconst (n := 1) (by decide +kernel) (by decide +kernel)) rfl) <|
  mc_1 (mk_p (ms_iadd (by decide +kernel)) rfl) <|
  mc_1 (mk_p (ms_ald (Or.inl ⟨rfl, by decide +kernel⟩)) rfl) <|
  mc_1 (mk_c (k := mq_143) rfl ⟨mo_143, 118, 1044, none, ml_m_LeagueOfficeLaw_118, Or.inr (Or.inr (Or.inl ⟨11, TX11, 10, by decide, rfl, rfl, (by decide +kernel), ⟨1, rfl, mx_npd (by decide +kernel)⟩, ml_in_1045, ml_se_1046⟩))⟩) <|
  mc_1 (mk_p (ms_pop (by decide +kernel)) rfl) <| mc_0
theorem mw_L_65 : ∀ e ∈ mt_L_65, mx_Ok mx_MT mq_L e.1 e.2 := 
  mc_1 (mk_p (ms_aload_n (k := 2) (by decide +kernel) rfl) rfl) <|
  mc_1 (mk_p (ms_aload_n (k := 0) (by decide +kernel) rfl) rfl) <|
  mc_1 (mk_p (ms_iload_n (k := 3) (by decide +kernel) rfl) rfl) <|
  mc_1 (mk_p (ms_iconst (n := 1) (by decide +kernel) (by decide +kernel)) rfl) <|
  mc_1 (mk_p (ms_iadd (by decide +kernel)) rfl) <|
  mc_1 (mk_p (ms_ald (Or.inl ⟨rfl, by decide +kernel⟩)) rfl) <|
  mc_1 (mk_c (k := mq_237) rfl ⟨mo_237, 121, 1839, none, ml_m_LeagueOfficeLaw_121, Or.inr (Or.inr (Or.inl ⟨12, TX12, 78, by decide, rfl, rfl, (by decide +kernel), ⟨1, rfl, mx_npd (by decide +kernel)⟩, ml_in_1840, ml_se_1841⟩))⟩) <|
  mc_1 (mk_p (ms_pop (by decide +kernel)) rfl) <|
  mc_1 (mk_p (ms_goto (off := (528)) (by decide +kernel) (by decide)) rfl) <|
  mc_1 (mk_p (ms_aload_n (k := 1) (by decide +kernel) rfl) rfl) <|
  mc_1 (mk_p (ms_aload_n (k := 0) (by decide +kernel) rfl) rfl) <|
  mc_1 (mk_p (ms_iload_n (k := 3) (by decide +kernel) rfl) rfl) <| mc_0
theorem mw_L_66 : ∀ e ∈ mt_L_66, mx_Ok mx_MT mq_L e.1 e.2 := 
  mc_1 (mk_p (ms_iconst (n := 1) (by decide +kernel) (by decide +kernel)) rfl) <|
  mc_1 (mk_p (ms_iadd (by decide +kernel)) rfl) <|
  mc_1 (mk_p (ms_ald (Or.inl ⟨rfl, by decide +kernel⟩)) rfl) <|
  mc_1 (mk_c (k := mq_144) rfl ⟨mo_144, 122, 1055, none, ml_m_LeagueOfficeLaw_122, Or.inr (Or.inr (Or.inl ⟨11, TX11, 10, by decide, rfl, rfl, (by decide +kernel), ⟨1, rfl, mx_npd (by decide +kernel)⟩, ml_in_1056, ml_se_1057⟩))⟩) <|
  mc_1 (mk_p (ms_pop (by decide +kernel)) rfl) <|
  mc_1 (mk_p (ms_aload_n (k := 2) (by decide +kernel) rfl) rfl) <|
  mc_1 (mk_p (ms_aload_n (k := 0) (by decide +kernel) rfl) rfl) <|
  mc_1 (mk_p (ms_iload_n (k := 3) (by decide +kernel) rfl) rfl) <|
  mc_1 (mk_p (ms_iconst (n := 1) (by decide +kernel) (by decide +kernel)) rfl) <|
  mc_1 (mk_p (ms_iadd (by decide +kernel)) rfl) <|
  mc_1 (mk_p (ms_ald (Or.inl ⟨rfl, by decide +kernel⟩)) rfl) <|
  mc_1 (mk_c (k := mq_239) rfl ⟨mo_239, 125, 1847, none, ml_m_LeagueOfficeLaw_125, Or.inr (Or.inr (Or.inl ⟨12, TX12, 78, by decide, rfl, rfl, (by decide +kernel), ⟨1, rfl, mx_npd (by decide +kernel)⟩, ml_in_1848, ml_se_1849⟩))⟩) <| mc_0
theorem mw_L_67 : ∀ e ∈ mt_L_67, mx_Ok mx_MT mq_L e.1 e.2 := 
  mc_1 (mk_p (ms_pop (by decide +kernel)) rfl) <|
  mc_1 (mk_p (ms_goto (off := (505)) (by decide +kernel) (by decide)) rfl) <|
  mc_1 (mk_p (ms_aload_n (k := 1) (by decide +kernel) rfl) rfl) <|
  mc_1 (mk_p (ms_aload_n (k := 0) (by decide +kernel) rfl) rfl) <|
  mc_1 (mk_p (ms_iload_n (k := 3) (by decide +kernel) rfl) rfl) <|
  mc_1 (mk_p (ms_iconst (n := 1) (by decide +kernel) (by decide +kernel)) rfl) <|
  mc_1 (mk_p (ms_iadd (by decide +kernel)) rfl) <|
  mc_1 (mk_p (ms_ald (Or.inl ⟨rfl, by decide +kernel⟩)) rfl) <|
  mc_1 (mk_c (k := mq_145) rfl ⟨mo_145, 126, 1085, none, ml_m_LeagueOfficeLaw_126, Or.inr (Or.inr (Or.inl ⟨11, TX11, 10, by decide, rfl, rfl, (by decide +kernel), ⟨1, rfl, mx_npd (by decide +kernel)⟩, ml_in_1086, ml_se_1087⟩))⟩) <|
  mc_1 (mk_p (ms_pop (by decide +kernel)) rfl) <|
  mc_1 (mk_p (ms_aload_n (k := 2) (by decide +kernel) rfl) rfl) <|
  mc_1 (mk_p (ms_aload_n (k := 0) (by decide +kernel) rfl) rfl) <| mc_0
theorem mw_L_68 : ∀ e ∈ mt_L_68, mx_Ok mx_MT mq_L e.1 e.2 := 
  mc_1 (mk_p (ms_iload_n (k := 3) (by decide +kernel) rfl) rfl) <|
  mc_1 (mk_p (ms_iconst (n := 1) (by decide +kernel) (by decide +kernel)) rfl) <|
  mc_1 (mk_p (ms_iadd (by decide +kernel)) rfl) <|
  mc_1 (mk_p (ms_ald (Or.inl ⟨rfl, by decide +kernel⟩)) rfl) <|
  mc_1 (mk_c (k := mq_240) rfl ⟨mo_240, 129, 1855, none, ml_m_LeagueOfficeLaw_129, Or.inr (Or.inr (Or.inl ⟨12, TX12, 78, by decide, rfl, rfl, (by decide +kernel), ⟨1, rfl, mx_npd (by decide +kernel)⟩, ml_in_1856, ml_se_1857⟩))⟩) <|
  mc_1 (mk_p (ms_pop (by decide +kernel)) rfl) <|
  mc_1 (mk_p (ms_goto (off := (482)) (by decide +kernel) (by decide)) rfl) <|
  mc_1 (mk_p (ms_aload_n (k := 1) (by decide +kernel) rfl) rfl) <|
  mc_1 (mk_p (ms_aload_n (k := 0) (by decide +kernel) rfl) rfl) <|
  mc_1 (mk_p (ms_iload_n (k := 3) (by decide +kernel) rfl) rfl) <|
  mc_1 (mk_p (ms_iconst (n := 1) (by decide +kernel) (by decide +kernel)) rfl) <|
  mc_1 (mk_p (ms_iadd (by decide +kernel)) rfl) <| mc_0
theorem mw_L_69 : ∀ e ∈ mt_L_69, mx_Ok mx_MT mq_L e.1 e.2 := 
  mc_1 (mk_p (ms_ald (Or.inl ⟨rfl, by decide +kernel⟩)) rfl) <|
  mc_1 (mk_c (k := mq_146) rfl ⟨mo_146, 130, 1102, none, ml_m_LeagueOfficeLaw_130, Or.inr (Or.inr (Or.inl ⟨11, TX11, 10, by decide, rfl, rfl, (by decide +kernel), ⟨1, rfl, mx_npd (by decide +kernel)⟩, ml_in_1103, ml_se_1104⟩))⟩) <|
  mc_1 (mk_p (ms_pop (by decide +kernel)) rfl) <|
  mc_1 (mk_p (ms_aload_n (k := 2) (by decide +kernel) rfl) rfl) <|
  mc_1 (mk_p (ms_aload_n (k := 0) (by decide +kernel) rfl) rfl) <|
  mc_1 (mk_p (ms_iload_n (k := 3) (by decide +kernel) rfl) rfl) <|
  mc_1 (mk_p (ms_iconst (n := 1) (by decide +kernel) (by decide +kernel)) rfl) <|
  mc_1 (mk_p (ms_iadd (by decide +kernel)) rfl) <|
  mc_1 (mk_p (ms_ald (Or.inl ⟨rfl, by decide +kernel⟩)) rfl) <|
  mc_1 (mk_c (k := mq_242) rfl ⟨mo_242, 133, 1859, none, ml_m_LeagueOfficeLaw_133, Or.inr (Or.inr (Or.inl ⟨12, TX12, 78, by decide, rfl, rfl, (by decide +kernel), ⟨1, rfl, mx_npd (by decide +kernel)⟩, ml_in_1860, ml_se_1861⟩))⟩) <|
  mc_1 (mk_p (ms_pop (by decide +kernel)) rfl) <|
  mc_1 (mk_p (ms_goto (off := (459)) (by decide +kernel) (by decide)) rfl) <| mc_0
theorem mw_L_70 : ∀ e ∈ mt_L_70, mx_Ok mx_MT mq_L e.1 e.2 := 
  mc_1 (mk_p (ms_aload_n (k := 1) (by decide +kernel) rfl) rfl) <|
  mc_1 (mk_p (ms_aload_n (k := 0) (by decide +kernel) rfl) rfl) <|
  mc_1 (mk_p (ms_iload_n (k := 3) (by decide +kernel) rfl) rfl) <|
  mc_1 (mk_p (ms_iconst (n := 1) (by decide +kernel) (by decide +kernel)) rfl) <|
  mc_1 (mk_p (ms_iadd (by decide +kernel)) rfl) <|
  mc_1 (mk_p (ms_ald (Or.inl ⟨rfl, by decide +kernel⟩)) rfl) <|
  mc_1 (mk_p (ms_aload_n (k := 0) (by decide +kernel) rfl) rfl) <|
  mc_1 (mk_p (ms_iload_n (k := 3) (by decide +kernel) rfl) rfl) <|
  mc_1 (mk_p (ms_iconst (n := 2) (by decide +kernel) (by decide +kernel)) rfl) <|
  mc_1 (mk_p (ms_iadd (by decide +kernel)) rfl) <|
  mc_1 (mk_p (ms_ald (Or.inl ⟨rfl, by decide +kernel⟩)) rfl) <|
  mc_1 (mk_c (k := mq_147) rfl ⟨mo_147, 134, 1120, none, ml_m_LeagueOfficeLaw_134, Or.inr (Or.inr (Or.inl ⟨11, TX11, 10, by decide, rfl, rfl, (by decide +kernel), ⟨2, rfl, mx_npd (by decide +kernel)⟩, ml_in_1121, ml_se_1122⟩))⟩) <| mc_0
theorem mw_L_71 : ∀ e ∈ mt_L_71, mx_Ok mx_MT mq_L e.1 e.2 := 
  mc_1 (mk_p (ms_pop (by decide +kernel)) rfl) <|
  mc_1 (mk_p (ms_aload_n (k := 2) (by decide +kernel) rfl) rfl) <|
  mc_1 (mk_p (ms_aload_n (k := 0) (by decide +kernel) rfl) rfl) <|
  mc_1 (mk_p (ms_iload_n (k := 3) (by decide +kernel) rfl) rfl) <|
  mc_1 (mk_p (ms_iconst (n := 1) (by decide +kernel) (by decide +kernel)) rfl) <|
  mc_1 (mk_p (ms_iadd (by decide +kernel)) rfl) <|
  mc_1 (mk_p (ms_ald (Or.inl ⟨rfl, by decide +kernel⟩)) rfl) <|
  mc_1 (mk_p (ms_aload_n (k := 0) (by decide +kernel) rfl) rfl) <|
  mc_1 (mk_p (ms_iload_n (k := 3) (by decide +kernel) rfl) rfl) <|
  mc_1 (mk_p (ms_iconst (n := 2) (by decide +kernel) (by decide +kernel)) rfl) <|
  mc_1 (mk_p (ms_iadd (by decide +kernel)) rfl) <|
  mc_1 (mk_p (ms_ald (Or.inl ⟨rfl, by decide +kernel⟩)) rfl) <|
  mc_1 (mk_c (k := mq_249) rfl ⟨mo_249, 137, 1867, none, ml_m_LeagueOfficeLaw_137, Or.inr (Or.inr (Or.inl ⟨12, TX12, 78, by decide, rfl, rfl, (by decide +kernel), ⟨2, rfl, mx_npd (by decide +kernel)⟩, ml_in_1868, ml_se_1869⟩))⟩) <|
  mc_1 (mk_p (ms_pop (by decide +kernel)) rfl) <| mc_0
theorem mw_L_72 : ∀ e ∈ mt_L_72, mx_Ok mx_MT mq_L e.1 e.2 := 
  mc_1 (mk_p (ms_goto (off := (426)) (by decide +kernel) (by decide)) rfl) <|
  mc_1 (mk_p (ms_aload_n (k := 1) (by decide +kernel) rfl) rfl) <|
  mc_1 (mk_p (ms_aload_n (k := 0) (by decide +kernel) rfl) rfl) <|
  mc_1 (mk_p (ms_iload_n (k := 3) (by decide +kernel) rfl) rfl) <|
  mc_1 (mk_p (ms_iconst (n := 1) (by decide +kernel) (by decide +kernel)) rfl) <|
  mc_1 (mk_p (ms_iadd (by decide +kernel)) rfl) <|
  mc_1 (mk_p (ms_ald (Or.inl ⟨rfl, by decide +kernel⟩)) rfl) <|
  mc_1 (mk_p (ms_aload_n (k := 0) (by decide +kernel) rfl) rfl) <|
  mc_1 (mk_p (ms_iload_n (k := 3) (by decide +kernel) rfl) rfl) <|
  mc_1 (mk_p (ms_iconst (n := 2) (by decide +kernel) (by decide +kernel)) rfl) <|
  mc_1 (mk_p (ms_iadd (by decide +kernel)) rfl) <|
  mc_1 (mk_p (ms_ald (Or.inl ⟨rfl, by decide +kernel⟩)) rfl) <|
  mc_1 (mk_c (k := mq_148) rfl ⟨mo_148, 138, 1167, none, ml_m_LeagueOfficeLaw_138, Or.inr (Or.inr (Or.inl ⟨11, TX11, 10, by decide, rfl, rfl, (by decide +kernel), ⟨2, rfl, mx_npd (by decide +kernel)⟩, ml_in_1168, ml_se_1169⟩))⟩) <| mc_0
theorem mw_L_73 : ∀ e ∈ mt_L_73, mx_Ok mx_MT mq_L e.1 e.2 := 
  mc_1 (mk_p (ms_pop (by decide +kernel)) rfl) <|
  mc_1 (mk_p (ms_aload_n (k := 2) (by decide +kernel) rfl) rfl) <|
  mc_1 (mk_p (ms_aload_n (k := 0) (by decide +kernel) rfl) rfl) <|
  mc_1 (mk_p (ms_iload_n (k := 3) (by decide +kernel) rfl) rfl) <|
  mc_1 (mk_p (ms_iconst (n := 1) (by decide +kernel) (by decide +kernel)) rfl) <|
  mc_1 (mk_p (ms_iadd (by decide +kernel)) rfl) <|
  mc_1 (mk_p (ms_ald (Or.inl ⟨rfl, by decide +kernel⟩)) rfl) <|
  mc_1 (mk_p (ms_aload_n (k := 0) (by decide +kernel) rfl) rfl) <|
  mc_1 (mk_p (ms_iload_n (k := 3) (by decide +kernel) rfl) rfl) <|
  mc_1 (mk_p (ms_iconst (n := 2) (by decide +kernel) (by decide +kernel)) rfl) <|
  mc_1 (mk_p (ms_iadd (by decide +kernel)) rfl) <|
  mc_1 (mk_p (ms_ald (Or.inl ⟨rfl, by decide +kernel⟩)) rfl) <|
  mc_1 (mk_c (k := mq_250) rfl ⟨mo_250, 141, 1893, none, ml_m_LeagueOfficeLaw_141, Or.inr (Or.inr (Or.inl ⟨12, TX12, 78, by decide, rfl, rfl, (by decide +kernel), ⟨2, rfl, mx_npd (by decide +kernel)⟩, ml_in_1894, ml_se_1895⟩))⟩) <| mc_0
theorem mw_L_74 : ∀ e ∈ mt_L_74, mx_Ok mx_MT mq_L e.1 e.2 := 
  mc_1 (mk_p (ms_pop (by decide +kernel)) rfl) <|
  mc_1 (mk_p (ms_goto (off := (393)) (by decide +kernel) (by decide)) rfl) <|
  mc_1 (mk_p (ms_aload_n (k := 1) (by decide +kernel) rfl) rfl) <|
  mc_1 (mk_p (ms_aload_n (k := 0) (by decide +kernel) rfl) rfl) <|
  mc_1 (mk_p (ms_iload_n (k := 3) (by decide +kernel) rfl) rfl) <|
  mc_1 (mk_p (ms_iconst (n := 1) (by decide +kernel) (by decide +kernel)) rfl) <|
  mc_1 (mk_p (ms_iadd (by decide +kernel)) rfl) <|
  mc_1 (mk_p (ms_ald (Or.inl ⟨rfl, by decide +kernel⟩)) rfl) <|
  mc_1 (mk_p (ms_aload_n (k := 0) (by decide +kernel) rfl) rfl) <|
  mc_1 (mk_p (ms_iload_n (k := 3) (by decide +kernel) rfl) rfl) <|
  mc_1 (mk_p (ms_iconst (n := 2) (by decide +kernel) (by decide +kernel)) rfl) <|
  mc_1 (mk_p (ms_iadd (by decide +kernel)) rfl) <|
  mc_1 (mk_p (ms_ald (Or.inl ⟨rfl, by decide +kernel⟩)) rfl) <|
  mc_1 (mk_c (k := mq_149) rfl ⟨mo_149, 142, 1171, none, ml_m_LeagueOfficeLaw_142, Or.inr (Or.inr (Or.inl ⟨11, TX11, 10, by decide, rfl, rfl, (by decide +kernel), ⟨2, rfl, mx_npd (by decide +kernel)⟩, ml_in_1172, ml_se_1173⟩))⟩) <| mc_0
theorem mw_L_75 : ∀ e ∈ mt_L_75, mx_Ok mx_MT mq_L e.1 e.2 := 
  mc_1 (mk_p (ms_pop (by decide +kernel)) rfl) <|
  mc_1 (mk_p (ms_aload_n (k := 2) (by decide +kernel) rfl) rfl) <|
  mc_1 (mk_p (ms_aload_n (k := 0) (by decide +kernel) rfl) rfl) <|
  mc_1 (mk_p (ms_iload_n (k := 3) (by decide +kernel) rfl) rfl) <|
  mc_1 (mk_p (ms_iconst (n := 1) (by decide +kernel) (by decide +kernel)) rfl) <|
  mc_1 (mk_p (ms_iadd (by decide +kernel)) rfl) <|
  mc_1 (mk_p (ms_ald (Or.inl ⟨rfl, by decide +kernel⟩)) rfl) <|
  mc_1 (mk_p (ms_aload_n (k := 0) (by decide +kernel) rfl) rfl) <|
  mc_1 (mk_p (ms_iload_n (k := 3) (by decide +kernel) rfl) rfl) <|
  mc_1 (mk_p (ms_iconst (n := 2) (by decide +kernel) (by decide +kernel)) rfl) <|
  mc_1 (mk_p (ms_iadd (by decide +kernel)) rfl) <|
  mc_1 (mk_p (ms_ald (Or.inl ⟨rfl, by decide +kernel⟩)) rfl) <|
  mc_1 (mk_c (k := mq_251) rfl ⟨mo_251, 145, 1897, none, ml_m_LeagueOfficeLaw_145, Or.inr (Or.inr (Or.inl ⟨12, TX12, 78, by decide, rfl, rfl, (by decide +kernel), ⟨2, rfl, mx_npd (by decide +kernel)⟩, ml_in_1898, ml_se_1899⟩))⟩) <| mc_0
theorem mw_L_76 : ∀ e ∈ mt_L_76, mx_Ok mx_MT mq_L e.1 e.2 := 
  mc_1 (mk_p (ms_pop (by decide +kernel)) rfl) <|
  mc_1 (mk_p (ms_goto (off := (360)) (by decide +kernel) (by decide)) rfl) <|
  mc_1 (mk_p (ms_aload_n (k := 1) (by decide +kernel) rfl) rfl) <|
  mc_1 (mk_p (ms_aload_n (k := 0) (by decide +kernel) rfl) rfl) <|
  mc_1 (mk_p (ms_iload_n (k := 3) (by decide +kernel) rfl) rfl) <|
  mc_1 (mk_p (ms_iconst (n := 1) (by decide +kernel) (by decide +kernel)) rfl) <|
  mc_1 (mk_p (ms_iadd (by decide +kernel)) rfl) <|
  mc_1 (mk_p (ms_ald (Or.inl ⟨rfl, by decide +kernel⟩)) rfl) <|
  mc_1 (mk_p (ms_aload_n (k := 0) (by decide +kernel) rfl) rfl) <|
  mc_1 (mk_p (ms_iload_n (k := 3) (by decide +kernel) rfl) rfl) <|
  mc_1 (mk_p (ms_iconst (n := 2) (by decide +kernel) (by decide +kernel)) rfl) <|
  mc_1 (mk_p (ms_iadd (by decide +kernel)) rfl) <|
  mc_1 (mk_p (ms_ald (Or.inl ⟨rfl, by decide +kernel⟩)) rfl) <| mc_0
theorem mw_L_77 : ∀ e ∈ mt_L_77, mx_Ok mx_MT mq_L e.1 e.2 := 
  mc_1 (mk_p (ms_aload_n (k := 0) (by decide +kernel) rfl) rfl) <|
  mc_1 (mk_p (ms_iload_n (k := 3) (by decide +kernel) rfl) rfl) <|
  mc_1 (mk_p (ms_iconst (n := 3) (by decide +kernel) (by decide +kernel)) rfl) <|
  mc_1 (mk_p (ms_iadd (by decide +kernel)) rfl) <|
  mc_1 (mk_p (ms_ald (Or.inl ⟨rfl, by decide +kernel⟩)) rfl) <|
  mc_1 (mk_c (k := mq_150) rfl ⟨mo_150, 146, 1183, none, ml_m_LeagueOfficeLaw_146, Or.inr (Or.inr (Or.inl ⟨11, TX11, 10, by decide, rfl, rfl, (by decide +kernel), ⟨3, rfl, mx_npd (by decide +kernel)⟩, ml_in_1184, ml_se_1185⟩))⟩) <|
  mc_1 (mk_p (ms_pop2 (by decide +kernel)) rfl) <|
  mc_1 (mk_p (ms_aload_n (k := 2) (by decide +kernel) rfl) rfl) <|
  mc_1 (mk_p (ms_aload_n (k := 0) (by decide +kernel) rfl) rfl) <|
  mc_1 (mk_p (ms_iload_n (k := 3) (by decide +kernel) rfl) rfl) <|
  mc_1 (mk_p (ms_iconst (n := 1) (by decide +kernel) (by decide +kernel)) rfl) <|
  mc_1 (mk_p (ms_iadd (by decide +kernel)) rfl) <|
  mc_1 (mk_p (ms_ald (Or.inl ⟨rfl, by decide +kernel⟩)) rfl) <|
  mc_1 (mk_p (ms_aload_n (k := 0) (by decide +kernel) rfl) rfl) <| mc_0
theorem mw_L_78 : ∀ e ∈ mt_L_78, mx_Ok mx_MT mq_L e.1 e.2 := 
  mc_1 (mk_p (ms_iload_n (k := 3) (by decide +kernel) rfl) rfl) <|
  mc_1 (mk_p (ms_iconst (n := 2) (by decide +kernel) (by decide +kernel)) rfl) <|
  mc_1 (mk_p (ms_iadd (by decide +kernel)) rfl) <|
  mc_1 (mk_p (ms_ald (Or.inl ⟨rfl, by decide +kernel⟩)) rfl) <|
  mc_1 (mk_p (ms_aload_n (k := 0) (by decide +kernel) rfl) rfl) <|
  mc_1 (mk_p (ms_iload_n (k := 3) (by decide +kernel) rfl) rfl) <|
  mc_1 (mk_p (ms_iconst (n := 3) (by decide +kernel) (by decide +kernel)) rfl) <|
  mc_1 (mk_p (ms_iadd (by decide +kernel)) rfl) <|
  mc_1 (mk_p (ms_ald (Or.inl ⟨rfl, by decide +kernel⟩)) rfl) <|
  mc_1 (mk_c (k := mq_253) rfl ⟨mo_253, 150, 1901, none, ml_m_LeagueOfficeLaw_150, Or.inr (Or.inr (Or.inl ⟨12, TX12, 78, by decide, rfl, rfl, (by decide +kernel), ⟨3, rfl, mx_npd (by decide +kernel)⟩, ml_in_1902, ml_se_1903⟩))⟩) <|
  mc_1 (mk_p (ms_pop2 (by decide +kernel)) rfl) <|
  mc_1 (mk_p (ms_goto (off := (317)) (by decide +kernel) (by decide)) rfl) <| mc_0
theorem mw_L_79 : ∀ e ∈ mt_L_79, mx_Ok mx_MT mq_L e.1 e.2 := 
  mc_1 (mk_p (ms_aload_n (k := 1) (by decide +kernel) rfl) rfl) <|
  mc_1 (mk_p (ms_aload_n (k := 0) (by decide +kernel) rfl) rfl) <|
  mc_1 (mk_p (ms_iload_n (k := 3) (by decide +kernel) rfl) rfl) <|
  mc_1 (mk_p (ms_iconst (n := 1) (by decide +kernel) (by decide +kernel)) rfl) <|
  mc_1 (mk_p (ms_iadd (by decide +kernel)) rfl) <|
  mc_1 (mk_p (ms_ald (Or.inl ⟨rfl, by decide +kernel⟩)) rfl) <|
  mc_1 (mk_c (k := mq_151) rfl ⟨mo_151, 151, 1212, none, ml_m_LeagueOfficeLaw_151, Or.inr (Or.inr (Or.inl ⟨11, TX11, 10, by decide, rfl, rfl, (by decide +kernel), ⟨1, rfl, mx_npd (by decide +kernel)⟩, ml_in_1213, ml_se_1214⟩))⟩) <|
  mc_1 (mk_p (ms_pop (by decide +kernel)) rfl) <|
  mc_1 (mk_p (ms_aload_n (k := 2) (by decide +kernel) rfl) rfl) <|
  mc_1 (mk_p (ms_aload_n (k := 0) (by decide +kernel) rfl) rfl) <|
  mc_1 (mk_p (ms_iload_n (k := 3) (by decide +kernel) rfl) rfl) <|
  mc_1 (mk_p (ms_iconst (n := 1) (by decide +kernel) (by decide +kernel)) rfl) <|
  mc_1 (mk_p (ms_iadd (by decide +kernel)) rfl) <|
  mc_1 (mk_p (ms_ald (Or.inl ⟨rfl, by decide +kernel⟩)) rfl) <| mc_0
theorem mw_L_80 : ∀ e ∈ mt_L_80, mx_Ok mx_MT mq_L e.1 e.2 := 
  mc_1 (mk_c (k := mq_255) rfl ⟨mo_255, 154, 1911, none, ml_m_LeagueOfficeLaw_154, Or.inr (Or.inr (Or.inl ⟨12, TX12, 78, by decide, rfl, rfl, (by decide +kernel), ⟨1, rfl, mx_npd (by decide +kernel)⟩, ml_in_1912, ml_se_1913⟩))⟩) <|
  mc_1 (mk_p (ms_pop (by decide +kernel)) rfl) <|
  mc_1 (mk_p (ms_goto (off := (294)) (by decide +kernel) (by decide)) rfl) <|
  mc_1 (mk_p (ms_aload_n (k := 1) (by decide +kernel) rfl) rfl) <|
  mc_1 (mk_p (ms_aload_n (k := 0) (by decide +kernel) rfl) rfl) <|
  mc_1 (mk_p (ms_iload_n (k := 3) (by decide +kernel) rfl) rfl) <|
  mc_1 (mk_p (ms_iconst (n := 1) (by decide +kernel) (by decide +kernel)) rfl) <|
  mc_1 (mk_p (ms_iadd (by decide +kernel)) rfl) <|
  mc_1 (mk_p (ms_ald (Or.inl ⟨rfl, by decide +kernel⟩)) rfl) <|
  mc_1 (mk_p (ms_aload_n (k := 0) (by decide +kernel) rfl) rfl) <|
  mc_1 (mk_p (ms_iload_n (k := 3) (by decide +kernel) rfl) rfl) <|
  mc_1 (mk_p (ms_iconst (n := 2) (by decide +kernel) (by decide +kernel)) rfl) <| mc_0
theorem mw_L_81 : ∀ e ∈ mt_L_81, mx_Ok mx_MT mq_L e.1 e.2 := 
  mc_1 (mk_p (ms_iadd (by decide +kernel)) rfl) <|
  mc_1 (mk_p (ms_ald (Or.inl ⟨rfl, by decide +kernel⟩)) rfl) <|
  mc_1 (mk_c (k := mq_152) rfl ⟨mo_152, 155, 1232, none, ml_m_LeagueOfficeLaw_155, Or.inr (Or.inr (Or.inl ⟨11, TX11, 10, by decide, rfl, rfl, (by decide +kernel), ⟨2, rfl, mx_npd (by decide +kernel)⟩, ml_in_1233, ml_se_1234⟩))⟩) <|
  mc_1 (mk_p (ms_pop (by decide +kernel)) rfl) <|
  mc_1 (mk_p (ms_aload_n (k := 2) (by decide +kernel) rfl) rfl) <|
  mc_1 (mk_p (ms_aload_n (k := 0) (by decide +kernel) rfl) rfl) <|
  mc_1 (mk_p (ms_iload_n (k := 3) (by decide +kernel) rfl) rfl) <|
  mc_1 (mk_p (ms_iconst (n := 1) (by decide +kernel) (by decide +kernel)) rfl) <|
  mc_1 (mk_p (ms_iadd (by decide +kernel)) rfl) <|
  mc_1 (mk_p (ms_ald (Or.inl ⟨rfl, by decide +kernel⟩)) rfl) <|
  mc_1 (mk_p (ms_aload_n (k := 0) (by decide +kernel) rfl) rfl) <|
  mc_1 (mk_p (ms_iload_n (k := 3) (by decide +kernel) rfl) rfl) <|
  mc_1 (mk_p (ms_iconst (n := 2) (by decide +kernel) (by decide +kernel)) rfl) <|
  mc_1 (mk_p (ms_iadd (by decide +kernel)) rfl) <| mc_0
theorem mw_L_82 : ∀ e ∈ mt_L_82, mx_Ok mx_MT mq_L e.1 e.2 := 
  mc_1 (mk_p (ms_ald (Or.inl ⟨rfl, by decide +kernel⟩)) rfl) <|
  mc_1 (mk_c (k := mq_258) rfl ⟨mo_258, 158, 1919, none, ml_m_LeagueOfficeLaw_158, Or.inr (Or.inr (Or.inl ⟨12, TX12, 78, by decide, rfl, rfl, (by decide +kernel), ⟨2, rfl, mx_npd (by decide +kernel)⟩, ml_in_1920, ml_se_1921⟩))⟩) <|
  mc_1 (mk_p (ms_pop (by decide +kernel)) rfl) <|
  mc_1 (mk_p (ms_goto (off := (261)) (by decide +kernel) (by decide)) rfl) <|
  mc_1 (mk_p (ms_aload_n (k := 1) (by decide +kernel) rfl) rfl) <|
  mc_1 (mk_p (ms_aload_n (k := 0) (by decide +kernel) rfl) rfl) <|
  mc_1 (mk_p (ms_iload_n (k := 3) (by decide +kernel) rfl) rfl) <|
  mc_1 (mk_p (ms_iconst (n := 1) (by decide +kernel) (by decide +kernel)) rfl) <|
  mc_1 (mk_p (ms_iadd (by decide +kernel)) rfl) <|
  mc_1 (mk_p (ms_ald (Or.inl ⟨rfl, by decide +kernel⟩)) rfl) <|
  mc_1 (mk_c (k := mq_153) rfl ⟨mo_153, 159, 1250, none, ml_m_LeagueOfficeLaw_159, Or.inr (Or.inr (Or.inl ⟨11, TX11, 10, by decide, rfl, rfl, (by decide +kernel), ⟨1, rfl, mx_npd (by decide +kernel)⟩, ml_in_1251, ml_se_1252⟩))⟩) <| mc_0
theorem mw_L_83 : ∀ e ∈ mt_L_83, mx_Ok mx_MT mq_L e.1 e.2 := 
  mc_1 (mk_p (ms_pop (by decide +kernel)) rfl) <|
  mc_1 (mk_p (ms_aload_n (k := 2) (by decide +kernel) rfl) rfl) <|
  mc_1 (mk_p (ms_aload_n (k := 0) (by decide +kernel) rfl) rfl) <|
  mc_1 (mk_p (ms_iload_n (k := 3) (by decide +kernel) rfl) rfl) <|
  mc_1 (mk_p (ms_iconst (n := 1) (by decide +kernel) (by decide +kernel)) rfl) <|
  mc_1 (mk_p (ms_iadd (by decide +kernel)) rfl) <|
  mc_1 (mk_p (ms_ald (Or.inl ⟨rfl, by decide +kernel⟩)) rfl) <|
  mc_1 (mk_c (k := mq_259) rfl ⟨mo_259, 162, 1931, none, ml_m_LeagueOfficeLaw_162, Or.inr (Or.inr (Or.inl ⟨12, TX12, 78, by decide, rfl, rfl, (by decide +kernel), ⟨1, rfl, mx_npd (by decide +kernel)⟩, ml_in_1932, ml_se_1933⟩))⟩) <|
  mc_1 (mk_p (ms_pop (by decide +kernel)) rfl) <|
  mc_1 (mk_p (ms_goto (off := (238)) (by decide +kernel) (by decide)) rfl) <|
  mc_1 (mk_p (ms_aload_n (k := 1) (by decide +kernel) rfl) rfl) <| mc_0
theorem mw_L_84 : ∀ e ∈ mt_L_84, mx_Ok mx_MT mq_L e.1 e.2 := 
  mc_1 (mk_p (ms_aload_n (k := 0) (by decide +kernel) rfl) rfl) <|
  mc_1 (mk_p (ms_iload_n (k := 3) (by decide +kernel) rfl) rfl) <|
  mc_1 (mk_p (ms_iconst (n := 1) (by decide +kernel) (by decide +kernel)) rfl) <|
  mc_1 (mk_p (ms_iadd (by decide +kernel)) rfl) <|
  mc_1 (mk_p (ms_ald (Or.inl ⟨rfl, by decide +kernel⟩)) rfl) <|
  mc_1 (mk_p (ms_aload_n (k := 0) (by decide +kernel) rfl) rfl) <|
  mc_1 (mk_p (ms_iload_n (k := 3) (by decide +kernel) rfl) rfl) <|
  mc_1 (mk_p (ms_iconst (n := 2) (by decide +kernel) (by decide +kernel)) rfl) <|
  mc_1 (mk_p (ms_iadd (by decide +kernel)) rfl) <|
  mc_1 (mk_p (ms_ald (Or.inl ⟨rfl, by decide +kernel⟩)) rfl) <|
  mc_1 (mk_p (ms_aload_n (k := 0) (by decide +kernel) rfl) rfl) <|
  mc_1 (mk_p (ms_iload_n (k := 3) (by decide +kernel) rfl) rfl) <|
  mc_1 (mk_p (ms_iconst (n := 3) (by decide +kernel) (by decide +kernel)) rfl) <|
  mc_1 (mk_p (ms_iadd (by decide +kernel)) rfl) <|
  mc_1 (mk_p (ms_ald (Or.inl ⟨rfl, by decide +kernel⟩)) rfl) <|
  mc_1 (mk_c (k := mq_154) rfl ⟨mo_154, 163, 1254, none, ml_m_LeagueOfficeLaw_163, Or.inr (Or.inr (Or.inl ⟨11, TX11, 10, by decide, rfl, rfl, (by decide +kernel), ⟨3, rfl, mx_npd (by decide +kernel)⟩, ml_in_1255, ml_se_1256⟩))⟩) <| mc_0
theorem mw_L_85 : ∀ e ∈ mt_L_85, mx_Ok mx_MT mq_L e.1 e.2 := 
  mc_1 (mk_p (ms_pop (by decide +kernel)) rfl) <|
  mc_1 (mk_p (ms_aload_n (k := 2) (by decide +kernel) rfl) rfl) <|
  mc_1 (mk_p (ms_aload_n (k := 0) (by decide +kernel) rfl) rfl) <|
  mc_1 (mk_p (ms_iload_n (k := 3) (by decide +kernel) rfl) rfl) <|
  mc_1 (mk_p (ms_iconst (n := 1) (by decide +kernel) (by decide +kernel)) rfl) <|
  mc_1 (mk_p (ms_iadd (by decide +kernel)) rfl) <|
  mc_1 (mk_p (ms_ald (Or.inl ⟨rfl, by decide +kernel⟩)) rfl) <|
  mc_1 (mk_p (ms_aload_n (k := 0) (by decide +kernel) rfl) rfl) <|
  mc_1 (mk_p (ms_iload_n (k := 3) (by decide +kernel) rfl) rfl) <|
  mc_1 (mk_p (ms_iconst (n := 2) (by decide +kernel) (by decide +kernel)) rfl) <|
  mc_1 (mk_p (ms_iadd (by decide +kernel)) rfl) <|
  mc_1 (mk_p (ms_ald (Or.inl ⟨rfl, by decide +kernel⟩)) rfl) <|
  mc_1 (mk_p (ms_aload_n (k := 0) (by decide +kernel) rfl) rfl) <|
  mc_1 (mk_p (ms_iload_n (k := 3) (by decide +kernel) rfl) rfl) <| mc_0
theorem mw_L_86 : ∀ e ∈ mt_L_86, mx_Ok mx_MT mq_L e.1 e.2 := 
  mc_1 (mk_p (ms_iconst (n := 3) (by decide +kernel) (by decide +kernel)) rfl) <|
  mc_1 (mk_p (ms_iadd (by decide +kernel)) rfl) <|
  mc_1 (mk_p (ms_ald (Or.inl ⟨rfl, by decide +kernel⟩)) rfl) <|
  mc_1 (mk_c (k := mq_261) rfl ⟨mo_261, 166, 1935, none, ml_m_LeagueOfficeLaw_166, Or.inr (Or.inr (Or.inl ⟨12, TX12, 78, by decide, rfl, rfl, (by decide +kernel), ⟨3, rfl, mx_npd (by decide +kernel)⟩, ml_in_1936, ml_se_1937⟩))⟩) <|
  mc_1 (mk_p (ms_pop (by decide +kernel)) rfl) <|
  mc_1 (mk_p (ms_goto (off := (195)) (by decide +kernel) (by decide)) rfl) <|
  mc_1 (mk_p (ms_aload_n (k := 1) (by decide +kernel) rfl) rfl) <|
  mc_1 (mk_p (ms_aload_n (k := 0) (by decide +kernel) rfl) rfl) <|
  mc_1 (mk_p (ms_iload_n (k := 3) (by decide +kernel) rfl) rfl) <|
  mc_1 (mk_p (ms_iconst (n := 1) (by decide +kernel) (by decide +kernel)) rfl) <|
  mc_1 (mk_p (ms_iadd (by decide +kernel)) rfl) <|
  mc_1 (mk_p (ms_ald (Or.inl ⟨rfl, by decide +kernel⟩)) rfl) <| mc_0
theorem mw_L_87 : ∀ e ∈ mt_L_87, mx_Ok mx_MT mq_L e.1 e.2 := 
  mc_1 (mk_p (ms_aload_n (k := 0) (by decide +kernel) rfl) rfl) <|
  mc_1 (mk_p (ms_iload_n (k := 3) (by decide +kernel) rfl) rfl) <|
  mc_1 (mk_p (ms_iconst (n := 2) (by decide +kernel) (by decide +kernel)) rfl) <|
  mc_1 (mk_p (ms_iadd (by decide +kernel)) rfl) <|
  mc_1 (mk_p (ms_ald (Or.inl ⟨rfl, by decide +kernel⟩)) rfl) <|
  mc_1 (mk_p (ms_aload_n (k := 0) (by decide +kernel) rfl) rfl) <|
  mc_1 (mk_p (ms_iload_n (k := 3) (by decide +kernel) rfl) rfl) <|
  mc_1 (mk_p (ms_iconst (n := 3) (by decide +kernel) (by decide +kernel)) rfl) <|
  mc_1 (mk_p (ms_iadd (by decide +kernel)) rfl) <|
  mc_1 (mk_p (ms_ald (Or.inl ⟨rfl, by decide +kernel⟩)) rfl) <|
  mc_1 (mk_c (k := mq_155) rfl ⟨mo_155, 167, 1267, none, ml_m_LeagueOfficeLaw_167, Or.inr (Or.inr (Or.inl ⟨11, TX11, 10, by decide, rfl, rfl, (by decide +kernel), ⟨3, rfl, mx_npd (by decide +kernel)⟩, ml_in_1268, ml_se_1269⟩))⟩) <|
  mc_1 (mk_p (ms_pop (by decide +kernel)) rfl) <|
  mc_1 (mk_p (ms_aload_n (k := 2) (by decide +kernel) rfl) rfl) <|
  mc_1 (mk_p (ms_aload_n (k := 0) (by decide +kernel) rfl) rfl) <| mc_0
theorem mw_L_88 : ∀ e ∈ mt_L_88, mx_Ok mx_MT mq_L e.1 e.2 := 
  mc_1 (mk_p (ms_iload_n (k := 3) (by decide +kernel) rfl) rfl) <|
  mc_1 (mk_p (ms_iconst (n := 1) (by decide +kernel) (by decide +kernel)) rfl) <|
  mc_1 (mk_p (ms_iadd (by decide +kernel)) rfl) <|
  mc_1 (mk_p (ms_ald (Or.inl ⟨rfl, by decide +kernel⟩)) rfl) <|
  mc_1 (mk_p (ms_aload_n (k := 0) (by decide +kernel) rfl) rfl) <|
  mc_1 (mk_p (ms_iload_n (k := 3) (by decide +kernel) rfl) rfl) <|
  mc_1 (mk_p (ms_iconst (n := 2) (by decide +kernel) (by decide +kernel)) rfl) <|
  mc_1 (mk_p (ms_iadd (by decide +kernel)) rfl) <|
  mc_1 (mk_p (ms_ald (Or.inl ⟨rfl, by decide +kernel⟩)) rfl) <|
  mc_1 (mk_p (ms_aload_n (k := 0) (by decide +kernel) rfl) rfl) <|
  mc_1 (mk_p (ms_iload_n (k := 3) (by decide +kernel) rfl) rfl) <|
  mc_1 (mk_p (ms_iconst (n := 3) (by decide +kernel) (by decide +kernel)) rfl) <|
  mc_1 (mk_p (ms_iadd (by decide +kernel)) rfl) <|
  mc_1 (mk_p (ms_ald (Or.inl ⟨rfl, by decide +kernel⟩)) rfl) <|
  mc_1 (mk_c (k := mq_262) rfl ⟨mo_262, 170, 1942, none, ml_m_LeagueOfficeLaw_170, Or.inr (Or.inr (Or.inl ⟨12, TX12, 78, by decide, rfl, rfl, (by decide +kernel), ⟨3, rfl, mx_npd (by decide +kernel)⟩, ml_in_1943, ml_se_1944⟩))⟩) <| mc_0
theorem mw_L_89 : ∀ e ∈ mt_L_89, mx_Ok mx_MT mq_L e.1 e.2 := 
  mc_1 (mk_p (ms_pop (by decide +kernel)) rfl) <|
  mc_1 (mk_p (ms_goto (off := (152)) (by decide +kernel) (by decide)) rfl) <|
  mc_1 (mk_p (ms_aload_n (k := 1) (by decide +kernel) rfl) rfl) <|
  mc_1 (mk_p (ms_aload_n (k := 0) (by decide +kernel) rfl) rfl) <|
  mc_1 (mk_p (ms_iload_n (k := 3) (by decide +kernel) rfl) rfl) <|
  mc_1 (mk_p (ms_iconst (n := 1) (by decide +kernel) (by decide +kernel)) rfl) <|
  mc_1 (mk_p (ms_iadd (by decide +kernel)) rfl) <|
  mc_1 (mk_p (ms_ald (Or.inl ⟨rfl, by decide +kernel⟩)) rfl) <|
  mc_1 (mk_p (ms_aload_n (k := 0) (by decide +kernel) rfl) rfl) <|
  mc_1 (mk_p (ms_iload_n (k := 3) (by decide +kernel) rfl) rfl) <|
  mc_1 (mk_p (ms_iconst (n := 2) (by decide +kernel) (by decide +kernel)) rfl) <|
  mc_1 (mk_p (ms_iadd (by decide +kernel)) rfl) <|
  mc_1 (mk_p (ms_ald (Or.inl ⟨rfl, by decide +kernel⟩)) rfl) <| mc_0
theorem mw_L_90 : ∀ e ∈ mt_L_90, mx_Ok mx_MT mq_L e.1 e.2 := 
  mc_1 (mk_p (ms_aload_n (k := 0) (by decide +kernel) rfl) rfl) <|
  mc_1 (mk_p (ms_iload_n (k := 3) (by decide +kernel) rfl) rfl) <|
  mc_1 (mk_p (ms_iconst (n := 3) (by decide +kernel) (by decide +kernel)) rfl) <|
  mc_1 (mk_p (ms_iadd (by decide +kernel)) rfl) <|
  mc_1 (mk_p (ms_ald (Or.inl ⟨rfl, by decide +kernel⟩)) rfl) <|
  mc_1 (mk_p (ms_aload_n (k := 0) (by decide +kernel) rfl) rfl) <|
  mc_1 (mk_p (ms_iload_n (k := 3) (by decide +kernel) rfl) rfl) <|
  mc_1 (mk_p (ms_iconst (n := 4) (by decide +kernel) (by decide +kernel)) rfl) <|
  mc_1 (mk_p (ms_iadd (by decide +kernel)) rfl) <|
  mc_1 (mk_p (ms_ald (Or.inl ⟨rfl, by decide +kernel⟩)) rfl) <|
  mc_1 (mk_p (ms_aload_n (k := 0) (by decide +kernel) rfl) rfl) <|
  mc_1 (mk_p (ms_iload_n (k := 3) (by decide +kernel) rfl) rfl) <|
  mc_1 (mk_p (ms_iconst (n := 5) (by decide +kernel) (by decide +kernel)) rfl) <|
  mc_1 (mk_p (ms_iadd (by decide +kernel)) rfl) <|
  mc_1 (mk_p (ms_ald (Or.inl ⟨rfl, by decide +kernel⟩)) rfl) <|
  mc_1 (mk_c (k := mq_156) rfl ⟨mo_156, 171, 1288, none, ml_m_LeagueOfficeLaw_171, Or.inr (Or.inr (Or.inl ⟨11, TX11, 10, by decide, rfl, rfl, (by decide +kernel), ⟨5, rfl, mx_npd (by decide +kernel)⟩, ml_in_1289, ml_se_1290⟩))⟩) <| mc_0
theorem mw_L_91 : ∀ e ∈ mt_L_91, mx_Ok mx_MT mq_L e.1 e.2 := 
  mc_1 (mk_p (ms_pop (by decide +kernel)) rfl) <|
  mc_1 (mk_p (ms_aload_n (k := 2) (by decide +kernel) rfl) rfl) <|
  mc_1 (mk_p (ms_aload_n (k := 0) (by decide +kernel) rfl) rfl) <|
  mc_1 (mk_p (ms_iload_n (k := 3) (by decide +kernel) rfl) rfl) <|
  mc_1 (mk_p (ms_iconst (n := 1) (by decide +kernel) (by decide +kernel)) rfl) <|
  mc_1 (mk_p (ms_iadd (by decide +kernel)) rfl) <|
  mc_1 (mk_p (ms_ald (Or.inl ⟨rfl, by decide +kernel⟩)) rfl) <|
  mc_1 (mk_p (ms_aload_n (k := 0) (by decide +kernel) rfl) rfl) <|
  mc_1 (mk_p (ms_iload_n (k := 3) (by decide +kernel) rfl) rfl) <|
  mc_1 (mk_p (ms_iconst (n := 2) (by decide +kernel) (by decide +kernel)) rfl) <|
  mc_1 (mk_p (ms_iadd (by decide +kernel)) rfl) <|
  mc_1 (mk_p (ms_ald (Or.inl ⟨rfl, by decide +kernel⟩)) rfl) <|
  mc_1 (mk_p (ms_aload_n (k := 0) (by decide +kernel) rfl) rfl) <|
  mc_1 (mk_p (ms_iload_n (k := 3) (by decide +kernel) rfl) rfl) <| mc_0
theorem mw_L_92 : ∀ e ∈ mt_L_92, mx_Ok mx_MT mq_L e.1 e.2 := 
  mc_1 (mk_p (ms_iconst (n := 3) (by decide +kernel) (by decide +kernel)) rfl) <|
  mc_1 (mk_p (ms_iadd (by decide +kernel)) rfl) <|
  mc_1 (mk_p (ms_ald (Or.inl ⟨rfl, by decide +kernel⟩)) rfl) <|
  mc_1 (mk_p (ms_aload_n (k := 0) (by decide +kernel) rfl) rfl) <|
  mc_1 (mk_p (ms_iload_n (k := 3) (by decide +kernel) rfl) rfl) <|
  mc_1 (mk_p (ms_iconst (n := 4) (by decide +kernel) (by decide +kernel)) rfl) <|
  mc_1 (mk_p (ms_iadd (by decide +kernel)) rfl) <|
  mc_1 (mk_p (ms_ald (Or.inl ⟨rfl, by decide +kernel⟩)) rfl) <|
  mc_1 (mk_p (ms_aload_n (k := 0) (by decide +kernel) rfl) rfl) <|
  mc_1 (mk_p (ms_iload_n (k := 3) (by decide +kernel) rfl) rfl) <|
  mc_1 (mk_p (ms_iconst (n := 5) (by decide +kernel) (by decide +kernel)) rfl) <|
  mc_1 (mk_p (ms_iadd (by decide +kernel)) rfl) <|
  mc_1 (mk_p (ms_ald (Or.inl ⟨rfl, by decide +kernel⟩)) rfl) <|
  mc_1 (mk_c (k := mq_263) rfl ⟨mo_263, 175, 1946, none, ml_m_LeagueOfficeLaw_175, Or.inr (Or.inr (Or.inl ⟨12, TX12, 78, by decide, rfl, rfl, (by decide +kernel), ⟨5, rfl, mx_npd (by decide +kernel)⟩, ml_in_1947, ml_se_1948⟩))⟩) <| mc_0
theorem mw_L_93 : ∀ e ∈ mt_L_93, mx_Ok mx_MT mq_L e.1 e.2 := 
  mc_1 (mk_p (ms_pop (by decide +kernel)) rfl) <|
  mc_1 (mk_p (ms_goto (off := (89)) (by decide +kernel) (by decide)) rfl) <|
  mc_1 (mk_p (ms_aload_n (k := 1) (by decide +kernel) rfl) rfl) <|
  mc_1 (mk_p (ms_aload_n (k := 0) (by decide +kernel) rfl) rfl) <|
  mc_1 (mk_p (ms_iload_n (k := 3) (by decide +kernel) rfl) rfl) <|
  mc_1 (mk_p (ms_iconst (n := 1) (by decide +kernel) (by decide +kernel)) rfl) <|
  mc_1 (mk_p (ms_iadd (by decide +kernel)) rfl) <|
  mc_1 (mk_p (ms_ald (Or.inl ⟨rfl, by decide +kernel⟩)) rfl) <|
  mc_1 (mk_p (ms_aload_n (k := 0) (by decide +kernel) rfl) rfl) <|
  mc_1 (mk_p (ms_iload_n (k := 3) (by decide +kernel) rfl) rfl) <|
  mc_1 (mk_p (ms_iconst (n := 2) (by decide +kernel) (by decide +kernel)) rfl) <|
  mc_1 (mk_p (ms_iadd (by decide +kernel)) rfl) <|
  mc_1 (mk_p (ms_ald (Or.inl ⟨rfl, by decide +kernel⟩)) rfl) <|
  mc_1 (mk_p (ms_aload_n (k := 0) (by decide +kernel) rfl) rfl) <| mc_0
theorem mw_L_94 : ∀ e ∈ mt_L_94, mx_Ok mx_MT mq_L e.1 e.2 := 
  mc_1 (mk_p (ms_iload_n (k := 3) (by decide +kernel) rfl) rfl) <|
  mc_1 (mk_p (ms_iconst (n := 3) (by decide +kernel) (by decide +kernel)) rfl) <|
  mc_1 (mk_p (ms_iadd (by decide +kernel)) rfl) <|
  mc_1 (mk_p (ms_ald (Or.inl ⟨rfl, by decide +kernel⟩)) rfl) <|
  mc_1 (mk_p (ms_aload_n (k := 0) (by decide +kernel) rfl) rfl) <|
  mc_1 (mk_p (ms_iload_n (k := 3) (by decide +kernel) rfl) rfl) <|
  mc_1 (mk_p (ms_iconst (n := 4) (by decide +kernel) (by decide +kernel)) rfl) <|
  mc_1 (mk_p (ms_iadd (by decide +kernel)) rfl) <|
  mc_1 (mk_p (ms_ald (Or.inl ⟨rfl, by decide +kernel⟩)) rfl) <|
  mc_1 (mk_c (k := mq_157) rfl ⟨mo_157, 176, 1301, none, ml_m_LeagueOfficeLaw_176, Or.inr (Or.inr (Or.inl ⟨11, TX11, 10, by decide, rfl, rfl, (by decide +kernel), ⟨4, rfl, mx_npd (by decide +kernel)⟩, ml_in_1302, ml_se_1303⟩))⟩) <|
  mc_1 (mk_p (ms_aload_n (k := 2) (by decide +kernel) rfl) rfl) <|
  mc_1 (mk_p (ms_aload_n (k := 0) (by decide +kernel) rfl) rfl) <|
  mc_1 (mk_p (ms_iload_n (k := 3) (by decide +kernel) rfl) rfl) <|
  mc_1 (mk_p (ms_iconst (n := 1) (by decide +kernel) (by decide +kernel)) rfl) <| mc_0
theorem mw_L_95 : ∀ e ∈ mt_L_95, mx_Ok mx_MT mq_L e.1 e.2 := 
  mc_1 (mk_p (ms_iadd (by decide +kernel)) rfl) <|
  mc_1 (mk_p (ms_ald (Or.inl ⟨rfl, by decide +kernel⟩)) rfl) <|
  mc_1 (mk_p (ms_aload_n (k := 0) (by decide +kernel) rfl) rfl) <|
  mc_1 (mk_p (ms_iload_n (k := 3) (by decide +kernel) rfl) rfl) <|
  mc_1 (mk_p (ms_iconst (n := 2) (by decide +kernel) (by decide +kernel)) rfl) <|
  mc_1 (mk_p (ms_iadd (by decide +kernel)) rfl) <|
  mc_1 (mk_p (ms_ald (Or.inl ⟨rfl, by decide +kernel⟩)) rfl) <|
  mc_1 (mk_p (ms_aload_n (k := 0) (by decide +kernel) rfl) rfl) <|
  mc_1 (mk_p (ms_iload_n (k := 3) (by decide +kernel) rfl) rfl) <|
  mc_1 (mk_p (ms_iconst (n := 3) (by decide +kernel) (by decide +kernel)) rfl) <|
  mc_1 (mk_p (ms_iadd (by decide +kernel)) rfl) <|
  mc_1 (mk_p (ms_ald (Or.inl ⟨rfl, by decide +kernel⟩)) rfl) <|
  mc_1 (mk_p (ms_aload_n (k := 0) (by decide +kernel) rfl) rfl) <|
  mc_1 (mk_p (ms_iload_n (k := 3) (by decide +kernel) rfl) rfl) <|
  mc_1 (mk_p (ms_iconst (n := 4) (by decide +kernel) (by decide +kernel)) rfl) <|
  mc_1 (mk_p (ms_iadd (by decide +kernel)) rfl) <| mc_0
theorem mw_L_96 : ∀ e ∈ mt_L_96, mx_Ok mx_MT mq_L e.1 e.2 := 
  mc_1 (mk_p (ms_ald (Or.inl ⟨rfl, by decide +kernel⟩)) rfl) <|
  mc_1 (mk_c (k := mq_264) rfl ⟨mo_264, 179, 1950, none, ml_m_LeagueOfficeLaw_179, Or.inr (Or.inr (Or.inl ⟨12, TX12, 78, by decide, rfl, rfl, (by decide +kernel), ⟨4, rfl, mx_npd (by decide +kernel)⟩, ml_in_1951, ml_se_1952⟩))⟩) <|
  mc_1 (mk_p (ms_icmp_eq (off := (38)) (by decide +kernel) (by decide)) rfl) <|
  mc_1 (mk_p (ms_iconst (n := 0) (by decide +kernel) (by decide +kernel)) rfl) <|
  mc_1 (mk_r (Or.inl ⟨rfl, by decide +kernel, _, rfl, mf_2⟩) rfl) <|
  mc_1 (mk_p (ms_aload_n (k := 1) (by decide +kernel) rfl) rfl) <|
  mc_1 (mk_p (ms_aload_n (k := 0) (by decide +kernel) rfl) rfl) <|
  mc_1 (mk_p (ms_iload_n (k := 3) (by decide +kernel) rfl) rfl) <|
  mc_1 (mk_p (ms_iconst (n := 1) (by decide +kernel) (by decide +kernel)) rfl) <|
  mc_1 (mk_p (ms_iadd (by decide +kernel)) rfl) <|
  mc_1 (mk_p (ms_ald (Or.inl ⟨rfl, by decide +kernel⟩)) rfl) <|
  mc_1 (mk_p (ms_aload_n (k := 0) (by decide +kernel) rfl) rfl) <| mc_0
theorem mw_L_97 : ∀ e ∈ mt_L_97, mx_Ok mx_MT mq_L e.1 e.2 := 
  mc_1 (mk_p (ms_iload_n (k := 3) (by decide +kernel) rfl) rfl) <|
  mc_1 (mk_p (ms_iconst (n := 2) (by decide +kernel) (by decide +kernel)) rfl) <|
  mc_1 (mk_p (ms_iadd (by decide +kernel)) rfl) <|
  mc_1 (mk_p (ms_ald (Or.inl ⟨rfl, by decide +kernel⟩)) rfl) <|
  mc_1 (mk_c (k := mq_158) rfl ⟨mo_158, 180, 1309, none, ml_m_LeagueOfficeLaw_180, Or.inr (Or.inr (Or.inl ⟨11, TX11, 10, by decide, rfl, rfl, (by decide +kernel), ⟨2, rfl, mx_npd (by decide +kernel)⟩, ml_in_1310, ml_se_1311⟩))⟩) <|
  mc_1 (mk_p (ms_pop (by decide +kernel)) rfl) <|
  mc_1 (mk_p (ms_aload_n (k := 2) (by decide +kernel) rfl) rfl) <|
  mc_1 (mk_p (ms_aload_n (k := 0) (by decide +kernel) rfl) rfl) <|
  mc_1 (mk_p (ms_iload_n (k := 3) (by decide +kernel) rfl) rfl) <|
  mc_1 (mk_p (ms_iconst (n := 1) (by decide +kernel) (by decide +kernel)) rfl) <|
  mc_1 (mk_p (ms_iadd (by decide +kernel)) rfl) <|
  mc_1 (mk_p (ms_ald (Or.inl ⟨rfl, by decide +kernel⟩)) rfl) <|
  mc_1 (mk_p (ms_aload_n (k := 0) (by decide +kernel) rfl) rfl) <|
  mc_1 (mk_p (ms_iload_n (k := 3) (by decide +kernel) rfl) rfl) <| mc_0
theorem mw_L_98 : ∀ e ∈ mt_L_98, mx_Ok mx_MT mq_L e.1 e.2 := 
  mc_1 (mk_p (ms_iconst (n := 2) (by decide +kernel) (by decide +kernel)) rfl) <|
  mc_1 (mk_p (ms_iadd (by decide +kernel)) rfl) <|
  mc_1 (mk_p (ms_ald (Or.inl ⟨rfl, by decide +kernel⟩)) rfl) <|
  mc_1 (mk_c (k := mq_265) rfl ⟨mo_265, 183, 1955, none, ml_m_LeagueOfficeLaw_183, Or.inr (Or.inr (Or.inl ⟨12, TX12, 78, by decide, rfl, rfl, (by decide +kernel), ⟨2, rfl, mx_npd (by decide +kernel)⟩, ml_in_1956, ml_se_1957⟩))⟩) <|
  mc_1 (mk_p (ms_pop (by decide +kernel)) rfl) <|
  mc_1 (mk_p (ms_goto (off := (3)) (by decide +kernel) (by decide)) rfl) <|
  mc_1 (mk_p (ms_iinc (n := (6)) (by decide +kernel) (by decide +kernel) (by decide)) rfl) <|
  mc_1 (mk_p (ms_goto (off := (-1563)) (by decide +kernel) (by decide)) rfl) <| mc_0
theorem mw_L_99 : ∀ e ∈ mt_L_99, mx_Ok mx_MT mq_L e.1 e.2 := 
  mc_1 (mk_p (ms_iconst (n := 1) (by decide +kernel) (by decide +kernel)) rfl) <|
  mc_1 (mk_r (Or.inl ⟨rfl, by decide +kernel, _, rfl, mf_2⟩) rfl) <| mc_0
theorem mw_L : ∀ ch ∈ mt_L, ∀ e ∈ ch, mx_Ok mx_MT mq_L e.1 e.2 := mc_2 mw_L_0 <| mc_2 mw_L_1 <| mc_2 mw_L_2 <| mc_2 mw_L_3 <| mc_2 mw_L_4 <| mc_2 mw_L_5 <| mc_2 mw_L_6 <| mc_2 mw_L_7 <| mc_2 mw_L_8 <| mc_2 mw_L_9 <| mc_2 mw_L_10 <| mc_2 mw_L_11 <| mc_2 mw_L_12 <| mc_2 mw_L_13 <| mc_2 mw_L_14 <| mc_2 mw_L_15 <| mc_2 mw_L_16 <| mc_2 mw_L_17 <| mc_2 mw_L_18 <| mc_2 mw_L_19 <| mc_2 mw_L_20 <| mc_2 mw_L_21 <| mc_2 mw_L_22 <| mc_2 mw_L_23 <| mc_2 mw_L_24 <| mc_2 mw_L_25 <| mc_2 mw_L_26 <| mc_2 mw_L_27 <| mc_2 mw_L_28 <| mc_2 mw_L_29 <| mc_2 mw_L_30 <| mc_2 mw_L_31 <| mc_2 mw_L_32 <| mc_2 mw_L_33 <| mc_2 mw_L_34 <| mc_2 mw_L_35 <| mc_2 mw_L_36 <| mc_2 mw_L_37 <| mc_2 mw_L_38 <| mc_2 mw_L_39 <| mc_2 mw_L_40 <| mc_2 mw_L_41 <| mc_2 mw_L_42 <| mc_2 mw_L_43 <| mc_2 mw_L_44 <| mc_2 mw_L_45 <| mc_2 mw_L_46 <| mc_2 mw_L_47 <| mc_2 mw_L_48 <| mc_2 mw_L_49 <| mc_2 mw_L_50 <| mc_2 mw_L_51 <| mc_2 mw_L_52 <| mc_2 mw_L_53 <| mc_2 mw_L_54 <| mc_2 mw_L_55 <| mc_2 mw_L_56 <| mc_2 mw_L_57 <| mc_2 mw_L_58 <| mc_2 mw_L_59 <| mc_2 mw_L_60 <| mc_2 mw_L_61 <| mc_2 mw_L_62 <| mc_2 mw_L_63 <| mc_2 mw_L_64 <| mc_2 mw_L_65 <| mc_2 mw_L_66 <| mc_2 mw_L_67 <| mc_2 mw_L_68 <| mc_2 mw_L_69 <| mc_2 mw_L_70 <| mc_2 mw_L_71 <| mc_2 mw_L_72 <| mc_2 mw_L_73 <| mc_2 mw_L_74 <| mc_2 mw_L_75 <| mc_2 mw_L_76 <| mc_2 mw_L_77 <| mc_2 mw_L_78 <| mc_2 mw_L_79 <| mc_2 mw_L_80 <| mc_2 mw_L_81 <| mc_2 mw_L_82 <| mc_2 mw_L_83 <| mc_2 mw_L_84 <| mc_2 mw_L_85 <| mc_2 mw_L_86 <| mc_2 mw_L_87 <| mc_2 mw_L_88 <| mc_2 mw_L_89 <| mc_2 mw_L_90 <| mc_2 mw_L_91 <| mc_2 mw_L_92 <| mc_2 mw_L_93 <| mc_2 mw_L_94 <| mc_2 mw_L_95 <| mc_2 mw_L_96 <| mc_2 mw_L_97 <| mc_2 mw_L_98 <| mc_2 mw_L_99 <| mc_3
