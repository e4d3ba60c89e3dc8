/- 256 LeagueOfficeModel.was(II)I -/
theorem mw_256_0 : ∀ e ∈ mt_256_0, mx_Ok mx_MT mq_256 e.1 e.2 := 
  mc_1 (mk_p (ms_iconst (n := (-1)) (by decide +kernel) (by decide +kernel)) rfl) <|
  mc_1 (mk_p (ms_istore_n (k := 3) (by decide +kernel) rfl (by decide)) rfl) <|
  mc_1 (mk_p (ms_iconst (n := 0) (by decide +kernel) (by decide +kernel)) rfl) <|
  mc_1 (mk_p (ms_istore (by decide +kernel) (by decide)) rfl) <|
  mc_1 (mk_p (ms_iload (by decide +kernel)) rfl) <|
  mc_1 (mk_p (ms_aload_n (k := 0) (by decide +kernel) rfl) rfl) <|
  mc_1 (mk_p (ms_get (idx := 31) (w := 1457) (host := none) mx_c12 (by decide) ml_f_LeagueOfficeModel_31 (by decide +kernel)) rfl) <|
  mc_1 (mk_p (ms_icmp_ge (off := (47)) (by decide +kernel) (by decide)) rfl) <|
  mc_1 (mk_p (ms_aload_n (k := 0) (by decide +kernel) rfl) rfl) <|
  mc_1 (mk_p (ms_iload_n (k := 1) (by decide +kernel) rfl) rfl) <| mc_0
theorem mw_256_1 : ∀ e ∈ mt_256_1, mx_Ok mx_MT mq_256 e.1 e.2 := 
  mc_1 (mk_p (ms_iload (by decide +kernel)) rfl) <|
  mc_1 (mk_c (k := mq_208) rfl ⟨mo_208, 353, 1720, none, ml_m_LeagueOfficeModel_353, Or.inr (Or.inr (Or.inl ⟨12, TX12, 78, by decide, rfl, rfl, (by decide +kernel), ⟨2, rfl, mx_npd (by decide +kernel)⟩, ml_in_1722, ml_se_48⟩))⟩) <|
  mc_1 (mk_p (ms_if_eq (off := (31)) (by decide +kernel) (by decide)) rfl) <|
  mc_1 (mk_p (ms_aload_n (k := 0) (by decide +kernel) rfl) rfl) <|
  mc_1 (mk_p (ms_get (idx := 46) (w := 1461) (host := none) mx_c12 (by decide) ml_f_LeagueOfficeModel_46 (by decide +kernel)) rfl) <|
  mc_1 (mk_p (ms_iload (by decide +kernel)) rfl) <|
  mc_1 (mk_p (ms_ald (Or.inl ⟨rfl, by decide +kernel⟩)) rfl) <|
  mc_1 (mk_p (ms_iload_n (k := 2) (by decide +kernel) rfl) rfl) <| mc_0
theorem mw_256_2 : ∀ e ∈ mt_256_2, mx_Ok mx_MT mq_256 e.1 e.2 := 
  mc_1 (mk_p (ms_icmp_ge (off := (20)) (by decide +kernel) (by decide)) rfl) <|
  mc_1 (mk_p (ms_iload_n (k := 3) (by decide +kernel) rfl) rfl) <|
  mc_1 (mk_p (ms_if_lt (off := (13)) (by decide +kernel) (by decide)) rfl) <|
  mc_1 (mk_p (ms_aload_n (k := 0) (by decide +kernel) rfl) rfl) <|
  mc_1 (mk_p (ms_iload (by decide +kernel)) rfl) <|
  mc_1 (mk_p (ms_iload_n (k := 3) (by decide +kernel) rfl) rfl) <|
  mc_1 (mk_c (k := mq_230) rfl ⟨mo_230, 406, 1823, none, ml_m_LeagueOfficeModel_406, Or.inr (Or.inr (Or.inl ⟨12, TX12, 78, by decide, rfl, rfl, (by decide +kernel), ⟨2, rfl, mx_npd (by decide +kernel)⟩, ml_in_1825, ml_se_63⟩))⟩) <|
  mc_1 (mk_p (ms_if_eq (off := (6)) (by decide +kernel) (by decide)) rfl) <| mc_0
theorem mw_256_3 : ∀ e ∈ mt_256_3, mx_Ok mx_MT mq_256 e.1 e.2 := 
  mc_1 (mk_p (ms_iload (by decide +kernel)) rfl) <|
  mc_1 (mk_p (ms_istore_n (k := 3) (by decide +kernel) rfl (by decide)) rfl) <|
  mc_1 (mk_p (ms_iinc (n := (1)) (by decide +kernel) (by decide +kernel) (by decide)) rfl) <|
  mc_1 (mk_p (ms_goto (off := (-50)) (by decide +kernel) (by decide)) rfl) <|
  mc_1 (mk_p (ms_iload_n (k := 3) (by decide +kernel) rfl) rfl) <|
  mc_1 (mk_p (ms_if_ge (off := (7)) (by decide +kernel) (by decide)) rfl) <|
  mc_1 (mk_p (ms_iconst (n := (-1)) (by decide +kernel) (by decide +kernel)) rfl) <|
  mc_1 (mk_p (ms_goto (off := (18)) (by decide +kernel) (by decide)) rfl) <| mc_0
theorem mw_256_4 : ∀ e ∈ mt_256_4, mx_Ok mx_MT mq_256 e.1 e.2 := 
  mc_1 (mk_p (ms_aload_n (k := 0) (by decide +kernel) rfl) rfl) <|
  mc_1 (mk_p (ms_get (idx := 40) (w := 1459) (host := none) mx_c12 (by decide) ml_f_LeagueOfficeModel_40 (by decide +kernel)) rfl) <|
  mc_1 (mk_p (ms_iload_n (k := 3) (by decide +kernel) rfl) rfl) <|
  mc_1 (mk_p (ms_ald (Or.inl ⟨rfl, by decide +kernel⟩)) rfl) <|
  mc_1 (mk_p (ms_iload_n (k := 1) (by decide +kernel) rfl) rfl) <|
  mc_1 (mk_p (ms_icmp_ne (off := (7)) (by decide +kernel) (by decide)) rfl) <|
  mc_1 (mk_p (ms_iconst (n := 1) (by decide +kernel) (by decide +kernel)) rfl) <|
  mc_1 (mk_p (ms_goto (off := (4)) (by decide +kernel) (by decide)) rfl) <| mc_0
theorem mw_256_5 : ∀ e ∈ mt_256_5, mx_Ok mx_MT mq_256 e.1 e.2 := 
  mc_1 (mk_p (ms_iconst (n := 0) (by decide +kernel) (by decide +kernel)) rfl) <|
  mc_1 (mk_r (Or.inl ⟨rfl, by decide +kernel, _, rfl, mf_0⟩) rfl) <| mc_0
theorem mw_256 : ∀ ch ∈ mt_256, ∀ e ∈ ch, mx_Ok mx_MT mq_256 e.1 e.2 := mc_2 mw_256_0 <| mc_2 mw_256_1 <| mc_2 mw_256_2 <| mc_2 mw_256_3 <| mc_2 mw_256_4 <| mc_2 mw_256_5 <| mc_3
/- 257 LeagueOfficeModel.breaksBy(II)I -/
theorem mw_257_0 : ∀ e ∈ mt_257_0, mx_Ok mx_MT mq_257 e.1 e.2 := 
  mc_1 (mk_p (ms_iconst (n := 0) (by decide +kernel) (by decide +kernel)) rfl) <|
  mc_1 (mk_p (ms_istore_n (k := 3) (by decide +kernel) rfl (by decide)) rfl) <|
  mc_1 (mk_p (ms_iconst (n := 0) (by decide +kernel) (by decide +kernel)) rfl) <|
  mc_1 (mk_p (ms_istore (by decide +kernel) (by decide)) rfl) <|
  mc_1 (mk_p (ms_iconst (n := 0) (by decide +kernel) (by decide +kernel)) rfl) <|
  mc_1 (mk_p (ms_istore (by decide +kernel) (by decide)) rfl) <|
  mc_1 (mk_p (ms_iload (by decide +kernel)) rfl) <|
  mc_1 (mk_p (ms_aload_n (k := 0) (by decide +kernel) rfl) rfl) <|
  mc_1 (mk_p (ms_get (idx := 456) (w := 1523) (host := none) mx_c12 (by decide) ml_f_LeagueOfficeModel_456 (by decide +kernel)) rfl) <|
  mc_1 (mk_p (ms_icmp_ge (off := (137)) (by decide +kernel) (by decide)) rfl) <| mc_0
theorem mw_257_1 : ∀ e ∈ mt_257_1, mx_Ok mx_MT mq_257 e.1 e.2 := 
  mc_1 (mk_p (ms_iload_n (k := 1) (by decide +kernel) rfl) rfl) <|
  mc_1 (mk_p (ms_iload (by decide +kernel)) rfl) <|
  mc_1 (mk_p (ms_ishr (by decide +kernel)) rfl) <|
  mc_1 (mk_p (ms_iconst (n := 1) (by decide +kernel) (by decide +kernel)) rfl) <|
  mc_1 (mk_p (ms_iand (by decide +kernel)) rfl) <|
  mc_1 (mk_p (ms_iconst (n := 1) (by decide +kernel) (by decide +kernel)) rfl) <|
  mc_1 (mk_p (ms_icmp_ne (off := (13)) (by decide +kernel) (by decide)) rfl) <|
  mc_1 (mk_p (ms_aload_n (k := 0) (by decide +kernel) rfl) rfl) <|
  mc_1 (mk_p (ms_get (idx := 216) (w := 1525) (host := none) mx_c12 (by decide) ml_f_LeagueOfficeModel_216 (by decide +kernel)) rfl) <|
  mc_1 (mk_p (ms_iload (by decide +kernel)) rfl) <| mc_0
theorem mw_257_2 : ∀ e ∈ mt_257_2, mx_Ok mx_MT mq_257 e.1 e.2 := 
  mc_1 (mk_p (ms_ald (Or.inl ⟨rfl, by decide +kernel⟩)) rfl) <|
  mc_1 (mk_p (ms_goto (off := (10)) (by decide +kernel) (by decide)) rfl) <|
  mc_1 (mk_p (ms_aload_n (k := 0) (by decide +kernel) rfl) rfl) <|
  mc_1 (mk_p (ms_get (idx := 213) (w := 1524) (host := none) mx_c12 (by decide) ml_f_LeagueOfficeModel_213 (by decide +kernel)) rfl) <|
  mc_1 (mk_p (ms_iload (by decide +kernel)) rfl) <|
  mc_1 (mk_p (ms_ald (Or.inl ⟨rfl, by decide +kernel⟩)) rfl) <|
  mc_1 (mk_p (ms_istore (by decide +kernel) (by decide)) rfl) <|
  mc_1 (mk_p (ms_iload_n (k := 1) (by decide +kernel) rfl) rfl) <|
  mc_1 (mk_p (ms_iload (by decide +kernel)) rfl) <| mc_0
theorem mw_257_3 : ∀ e ∈ mt_257_3, mx_Ok mx_MT mq_257 e.1 e.2 := 
  mc_1 (mk_p (ms_ishr (by decide +kernel)) rfl) <|
  mc_1 (mk_p (ms_iconst (n := 1) (by decide +kernel) (by decide +kernel)) rfl) <|
  mc_1 (mk_p (ms_iand (by decide +kernel)) rfl) <|
  mc_1 (mk_p (ms_iconst (n := 1) (by decide +kernel) (by decide +kernel)) rfl) <|
  mc_1 (mk_p (ms_icmp_ne (off := (13)) (by decide +kernel) (by decide)) rfl) <|
  mc_1 (mk_p (ms_aload_n (k := 0) (by decide +kernel) rfl) rfl) <|
  mc_1 (mk_p (ms_get (idx := 213) (w := 1524) (host := none) mx_c12 (by decide) ml_f_LeagueOfficeModel_213 (by decide +kernel)) rfl) <|
  mc_1 (mk_p (ms_iload (by decide +kernel)) rfl) <|
  mc_1 (mk_p (ms_ald (Or.inl ⟨rfl, by decide +kernel⟩)) rfl) <|
  mc_1 (mk_p (ms_goto (off := (10)) (by decide +kernel) (by decide)) rfl) <| mc_0
theorem mw_257_4 : ∀ e ∈ mt_257_4, mx_Ok mx_MT mq_257 e.1 e.2 := 
  mc_1 (mk_p (ms_aload_n (k := 0) (by decide +kernel) rfl) rfl) <|
  mc_1 (mk_p (ms_get (idx := 216) (w := 1525) (host := none) mx_c12 (by decide) ml_f_LeagueOfficeModel_216 (by decide +kernel)) rfl) <|
  mc_1 (mk_p (ms_iload (by decide +kernel)) rfl) <|
  mc_1 (mk_p (ms_ald (Or.inl ⟨rfl, by decide +kernel⟩)) rfl) <|
  mc_1 (mk_p (ms_istore (by decide +kernel) (by decide)) rfl) <|
  mc_1 (mk_p (ms_iload_n (k := 3) (by decide +kernel) rfl) rfl) <|
  mc_1 (mk_p (ms_aload_n (k := 0) (by decide +kernel) rfl) rfl) <|
  mc_1 (mk_p (ms_get (idx := 25) (w := 1456) (host := none) mx_c12 (by decide) ml_f_LeagueOfficeModel_25 (by decide +kernel)) rfl) <| mc_0
theorem mw_257_5 : ∀ e ∈ mt_257_5, mx_Ok mx_MT mq_257 e.1 e.2 := 
  mc_1 (mk_p (ms_iload (by decide +kernel)) rfl) <|
  mc_1 (mk_p (ms_ald (Or.inl ⟨rfl, by decide +kernel⟩)) rfl) <|
  mc_1 (mk_p (ms_ishr (by decide +kernel)) rfl) <|
  mc_1 (mk_p (ms_iconst (n := 1) (by decide +kernel) (by decide +kernel)) rfl) <|
  mc_1 (mk_p (ms_iand (by decide +kernel)) rfl) <|
  mc_1 (mk_p (ms_iconst (n := 1) (by decide +kernel) (by decide +kernel)) rfl) <|
  mc_1 (mk_p (ms_icmp_ne (off := (5)) (by decide +kernel) (by decide)) rfl) <|
  mc_1 (mk_p (ms_iconst (n := (-1)) (by decide +kernel) (by decide +kernel)) rfl) <|
  mc_1 (mk_r (Or.inl ⟨rfl, by decide +kernel, _, rfl, mf_0⟩) rfl) <|
  mc_1 (mk_p (ms_iload_n (k := 3) (by decide +kernel) rfl) rfl) <|
  mc_1 (mk_p (ms_iconst (n := 1) (by decide +kernel) (by decide +kernel)) rfl) <|
  mc_1 (mk_p (ms_aload_n (k := 0) (by decide +kernel) rfl) rfl) <|
  mc_1 (mk_p (ms_get (idx := 25) (w := 1456) (host := none) mx_c12 (by decide) ml_f_LeagueOfficeModel_25 (by decide +kernel)) rfl) <| mc_0
theorem mw_257_6 : ∀ e ∈ mt_257_6, mx_Ok mx_MT mq_257 e.1 e.2 := 
  mc_1 (mk_p (ms_iload (by decide +kernel)) rfl) <|
  mc_1 (mk_p (ms_ald (Or.inl ⟨rfl, by decide +kernel⟩)) rfl) <|
  mc_1 (mk_p (ms_ishl (by decide +kernel)) rfl) <|
  mc_1 (mk_p (ms_ior (by decide +kernel)) rfl) <|
  mc_1 (mk_p (ms_istore_n (k := 3) (by decide +kernel) rfl (by decide)) rfl) <|
  mc_1 (mk_p (ms_iload (by decide +kernel)) rfl) <|
  mc_1 (mk_p (ms_aload_n (k := 0) (by decide +kernel) rfl) rfl) <|
  mc_1 (mk_p (ms_iload (by decide +kernel)) rfl) <|
  mc_1 (mk_p (ms_iload_n (k := 2) (by decide +kernel) rfl) rfl) <|
  mc_1 (mk_c (k := mq_256) rfl ⟨mo_256, 462, 1927, none, ml_m_LeagueOfficeModel_462, Or.inr (Or.inr (Or.inl ⟨12, TX12, 78, by decide, rfl, rfl, (by decide +kernel), ⟨2, rfl, mx_npd (by decide +kernel)⟩, ml_in_1929, ml_se_75⟩))⟩) <| mc_0
theorem mw_257_7 : ∀ e ∈ mt_257_7, mx_Ok mx_MT mq_257 e.1 e.2 := 
  mc_1 (mk_p (ms_iconst (n := 1) (by decide +kernel) (by decide +kernel)) rfl) <|
  mc_1 (mk_p (ms_icmp_ne (off := (7)) (by decide +kernel) (by decide)) rfl) <|
  mc_1 (mk_p (ms_iconst (n := 1) (by decide +kernel) (by decide +kernel)) rfl) <|
  mc_1 (mk_p (ms_goto (off := (4)) (by decide +kernel) (by decide)) rfl) <|
  mc_1 (mk_p (ms_iconst (n := 0) (by decide +kernel) (by decide +kernel)) rfl) <|
  mc_1 (mk_p (ms_iadd (by decide +kernel)) rfl) <|
  mc_1 (mk_p (ms_istore (by decide +kernel) (by decide)) rfl) <|
  mc_1 (mk_p (ms_iload (by decide +kernel)) rfl) <|
  mc_1 (mk_p (ms_aload_n (k := 0) (by decide +kernel) rfl) rfl) <| mc_0
theorem mw_257_8 : ∀ e ∈ mt_257_8, mx_Ok mx_MT mq_257 e.1 e.2 := 
  mc_1 (mk_p (ms_iload (by decide +kernel)) rfl) <|
  mc_1 (mk_p (ms_iload_n (k := 2) (by decide +kernel) rfl) rfl) <|
  mc_1 (mk_c (k := mq_256) rfl ⟨mo_256, 462, 1927, none, ml_m_LeagueOfficeModel_462, Or.inr (Or.inr (Or.inl ⟨12, TX12, 78, by decide, rfl, rfl, (by decide +kernel), ⟨2, rfl, mx_npd (by decide +kernel)⟩, ml_in_1929, ml_se_75⟩))⟩) <|
  mc_1 (mk_p (ms_if_ne (off := (7)) (by decide +kernel) (by decide)) rfl) <|
  mc_1 (mk_p (ms_iconst (n := 1) (by decide +kernel) (by decide +kernel)) rfl) <|
  mc_1 (mk_p (ms_goto (off := (4)) (by decide +kernel) (by decide)) rfl) <|
  mc_1 (mk_p (ms_iconst (n := 0) (by decide +kernel) (by decide +kernel)) rfl) <|
  mc_1 (mk_p (ms_iadd (by decide +kernel)) rfl) <|
  mc_1 (mk_p (ms_istore (by decide +kernel) (by decide)) rfl) <| mc_0
theorem mw_257_9 : ∀ e ∈ mt_257_9, mx_Ok mx_MT mq_257 e.1 e.2 := 
  mc_1 (mk_p (ms_iinc (n := (1)) (by decide +kernel) (by decide +kernel) (by decide)) rfl) <|
  mc_1 (mk_p (ms_goto (off := (-140)) (by decide +kernel) (by decide)) rfl) <|
  mc_1 (mk_p (ms_iload (by decide +kernel)) rfl) <|
  mc_1 (mk_r (Or.inl ⟨rfl, by decide +kernel, _, rfl, mf_0⟩) rfl) <| mc_0
theorem mw_257 : ∀ ch ∈ mt_257, ∀ e ∈ ch, mx_Ok mx_MT mq_257 e.1 e.2 := mc_2 mw_257_0 <| mc_2 mw_257_1 <| mc_2 mw_257_2 <| mc_2 mw_257_3 <| mc_2 mw_257_4 <| mc_2 mw_257_5 <| mc_2 mw_257_6 <| mc_2 mw_257_7 <| mc_2 mw_257_8 <| mc_2 mw_257_9 <| mc_3
/- 258 LeagueOfficeModel.laid(II)I -/
theorem mw_258_0 : ∀ e ∈ mt_258_0, mx_Ok mx_MT mq_258 e.1 e.2 := 
  mc_1 (mk_p (ms_iload_n (k := 1) (by decide +kernel) rfl) rfl) <|
  mc_1 (mk_c (k := mq_164) rfl ⟨mo_164, 34, 1341, none, ml_m_LeagueOfficeModel_34, Or.inl ⟨rfl, (by decide +kernel), mx_npd (by decide +kernel), ml_st_1342⟩⟩) <|
  mc_1 (mk_p (ms_if_eq (off := (12)) (by decide +kernel) (by decide)) rfl) <|
  mc_1 (mk_p (ms_iload_n (k := 2) (by decide +kernel) rfl) rfl) <|
  mc_1 (mk_p (ms_iconst (n := 0) (by decide +kernel) (by decide +kernel)) rfl) <|
  mc_1 (mk_p (ms_iconst (n := 1) (by decide +kernel) (by decide +kernel)) rfl) <|
  mc_1 (mk_c (k := mq_163) rfl ⟨mo_163, 7, 1318, none, ml_m_LeagueOfficeModel_7, Or.inl ⟨rfl, (by decide +kernel), mx_npd (by decide +kernel), ml_st_1319⟩⟩) <|
  mc_1 (mk_p (ms_if_ne (off := (6)) (by decide +kernel) (by decide)) rfl) <| mc_0
theorem mw_258_1 : ∀ e ∈ mt_258_1, mx_Ok mx_MT mq_258 e.1 e.2 := 
  mc_1 (mk_p (ms_bipush (n := (-2)) (by decide +kernel) (by decide +kernel)) rfl) <|
  mc_1 (mk_r (Or.inl ⟨rfl, by decide +kernel, _, rfl, mf_0⟩) rfl) <|
  mc_1 (mk_p (ms_iconst (n := (-1)) (by decide +kernel) (by decide +kernel)) rfl) <|
  mc_1 (mk_p (ms_istore_n (k := 3) (by decide +kernel) rfl (by decide)) rfl) <|
  mc_1 (mk_p (ms_iconst (n := (-1)) (by decide +kernel) (by decide +kernel)) rfl) <|
  mc_1 (mk_p (ms_istore (by decide +kernel) (by decide)) rfl) <|
  mc_1 (mk_p (ms_iconst (n := 0) (by decide +kernel) (by decide +kernel)) rfl) <|
  mc_1 (mk_p (ms_istore (by decide +kernel) (by decide)) rfl) <|
  mc_1 (mk_p (ms_iload (by decide +kernel)) rfl) <|
  mc_1 (mk_p (ms_iconst (n := 1) (by decide +kernel) (by decide +kernel)) rfl) <|
  mc_1 (mk_p (ms_aload_n (k := 0) (by decide +kernel) rfl) rfl) <|
  mc_1 (mk_p (ms_get (idx := 456) (w := 1523) (host := none) mx_c12 (by decide) ml_f_LeagueOfficeModel_456 (by decide +kernel)) rfl) <| mc_0
theorem mw_258_2 : ∀ e ∈ mt_258_2, mx_Ok mx_MT mq_258 e.1 e.2 := 
  mc_1 (mk_p (ms_ishl (by decide +kernel)) rfl) <|
  mc_1 (mk_p (ms_icmp_ge (off := (44)) (by decide +kernel) (by decide)) rfl) <|
  mc_1 (mk_p (ms_aload_n (k := 0) (by decide +kernel) rfl) rfl) <|
  mc_1 (mk_p (ms_iload (by decide +kernel)) rfl) <|
  mc_1 (mk_p (ms_iload_n (k := 1) (by decide +kernel) rfl) rfl) <|
  mc_1 (mk_c (k := mq_257) rfl ⟨mo_257, 465, 1923, none, ml_m_LeagueOfficeModel_465, Or.inr (Or.inr (Or.inl ⟨12, TX12, 78, by decide, rfl, rfl, (by decide +kernel), ⟨2, rfl, mx_npd (by decide +kernel)⟩, ml_in_1925, ml_se_74⟩))⟩) <|
  mc_1 (mk_p (ms_istore (by decide +kernel) (by decide)) rfl) <|
  mc_1 (mk_p (ms_iload (by decide +kernel)) rfl) <| mc_0
theorem mw_258_3 : ∀ e ∈ mt_258_3, mx_Ok mx_MT mq_258 e.1 e.2 := 
  mc_1 (mk_p (ms_if_lt (off := (24)) (by decide +kernel) (by decide)) rfl) <|
  mc_1 (mk_p (ms_iload_n (k := 3) (by decide +kernel) rfl) rfl) <|
  mc_1 (mk_p (ms_if_lt (off := (13)) (by decide +kernel) (by decide)) rfl) <|
  mc_1 (mk_p (ms_iload (by decide +kernel)) rfl) <|
  mc_1 (mk_p (ms_iload (by decide +kernel)) rfl) <|
  mc_1 (mk_p (ms_icmp_lt (off := (6)) (by decide +kernel) (by decide)) rfl) <|
  mc_1 (mk_p (ms_goto (off := (10)) (by decide +kernel) (by decide)) rfl) <| mc_0
theorem mw_258_4 : ∀ e ∈ mt_258_4, mx_Ok mx_MT mq_258 e.1 e.2 := 
  mc_1 (mk_p (ms_iload (by decide +kernel)) rfl) <|
  mc_1 (mk_p (ms_istore_n (k := 3) (by decide +kernel) rfl (by decide)) rfl) <|
  mc_1 (mk_p (ms_iload (by decide +kernel)) rfl) <|
  mc_1 (mk_p (ms_istore (by decide +kernel) (by decide)) rfl) <|
  mc_1 (mk_p (ms_iinc (n := (1)) (by decide +kernel) (by decide +kernel) (by decide)) rfl) <|
  mc_1 (mk_p (ms_goto (off := (-49)) (by decide +kernel) (by decide)) rfl) <|
  mc_1 (mk_p (ms_iload_n (k := 2) (by decide +kernel) rfl) rfl) <| mc_0
theorem mw_258_5 : ∀ e ∈ mt_258_5, mx_Ok mx_MT mq_258 e.1 e.2 := 
  mc_1 (mk_p (ms_if_ne (off := (7)) (by decide +kernel) (by decide)) rfl) <|
  mc_1 (mk_p (ms_iload_n (k := 3) (by decide +kernel) rfl) rfl) <|
  mc_1 (mk_p (ms_goto (off := (5)) (by decide +kernel) (by decide)) rfl) <|
  mc_1 (mk_p (ms_iload (by decide +kernel)) rfl) <|
  mc_1 (mk_r (Or.inl ⟨rfl, by decide +kernel, _, rfl, mf_0⟩) rfl) <| mc_0
theorem mw_258 : ∀ ch ∈ mt_258, ∀ e ∈ ch, mx_Ok mx_MT mq_258 e.1 e.2 := mc_2 mw_258_0 <| mc_2 mw_258_1 <| mc_2 mw_258_2 <| mc_2 mw_258_3 <| mc_2 mw_258_4 <| mc_2 mw_258_5 <| mc_3
/- 259 LeagueOfficeModel.count(I)I -/
theorem mw_259_0 : ∀ e ∈ mt_259_0, mx_Ok mx_MT mq_259 e.1 e.2 := 
  mc_1 (mk_p (ms_iload_n (k := 1) (by decide +kernel) rfl) rfl) <|
  mc_1 (mk_p (ms_tsw (dflt := (132)) (lo := (0)) (hi := (12)) (offs := #[67, 72, 77, 82, 87, 92, 97, 102, 107, 112, 117, 122, 127]) (len := 67) (by decide +kernel) (by decide +kernel) (by decide +kernel) (by decide +kernel) (by decide +kernel)) rfl) <| mc_0
theorem mw_259_1 : ∀ e ∈ mt_259_1, mx_Ok mx_MT mq_259 e.1 e.2 := mc_0
theorem mw_259_2 : ∀ e ∈ mt_259_2, mx_Ok mx_MT mq_259 e.1 e.2 := mc_0
theorem mw_259_3 : ∀ e ∈ mt_259_3, mx_Ok mx_MT mq_259 e.1 e.2 := mc_0
theorem mw_259_4 : ∀ e ∈ mt_259_4, mx_Ok mx_MT mq_259 e.1 e.2 := 
  mc_1 (mk_p (ms_aload_n (k := 0) (by decide +kernel) rfl) rfl) <|
  mc_1 (mk_p (ms_get (idx := 11) (w := 1453) (host := none) mx_c12 (by decide) ml_f_LeagueOfficeModel_11 (by decide +kernel)) rfl) <|
  mc_1 (mk_r (Or.inl ⟨rfl, by decide +kernel, _, rfl, mf_0⟩) rfl) <|
  mc_1 (mk_p (ms_aload_n (k := 0) (by decide +kernel) rfl) rfl) <|
  mc_1 (mk_p (ms_get (idx := 14) (w := 1454) (host := none) mx_c12 (by decide) ml_f_LeagueOfficeModel_14 (by decide +kernel)) rfl) <|
  mc_1 (mk_r (Or.inl ⟨rfl, by decide +kernel, _, rfl, mf_0⟩) rfl) <|
  mc_1 (mk_p (ms_aload_n (k := 0) (by decide +kernel) rfl) rfl) <|
  mc_1 (mk_p (ms_get (idx := 31) (w := 1457) (host := none) mx_c12 (by decide) ml_f_LeagueOfficeModel_31 (by decide +kernel)) rfl) <| mc_0
theorem mw_259_5 : ∀ e ∈ mt_259_5, mx_Ok mx_MT mq_259 e.1 e.2 := 
  mc_1 (mk_r (Or.inl ⟨rfl, by decide +kernel, _, rfl, mf_0⟩) rfl) <|
  mc_1 (mk_p (ms_aload_n (k := 0) (by decide +kernel) rfl) rfl) <|
  mc_1 (mk_p (ms_get (idx := 68) (w := 1462) (host := none) mx_c12 (by decide) ml_f_LeagueOfficeModel_68 (by decide +kernel)) rfl) <|
  mc_1 (mk_r (Or.inl ⟨rfl, by decide +kernel, _, rfl, mf_0⟩) rfl) <|
  mc_1 (mk_p (ms_aload_n (k := 0) (by decide +kernel) rfl) rfl) <|
  mc_1 (mk_p (ms_get (idx := 269) (w := 1468) (host := none) mx_c12 (by decide) ml_f_LeagueOfficeModel_269 (by decide +kernel)) rfl) <|
  mc_1 (mk_r (Or.inl ⟨rfl, by decide +kernel, _, rfl, mf_0⟩) rfl) <|
  mc_1 (mk_p (ms_aload_n (k := 0) (by decide +kernel) rfl) rfl) <|
  mc_1 (mk_p (ms_get (idx := 234) (w := 1467) (host := none) mx_c12 (by decide) ml_f_LeagueOfficeModel_234 (by decide +kernel)) rfl) <| mc_0
theorem mw_259_6 : ∀ e ∈ mt_259_6, mx_Ok mx_MT mq_259 e.1 e.2 := 
  mc_1 (mk_r (Or.inl ⟨rfl, by decide +kernel, _, rfl, mf_0⟩) rfl) <|
  mc_1 (mk_p (ms_aload_n (k := 0) (by decide +kernel) rfl) rfl) <|
  mc_1 (mk_p (ms_get (idx := 329) (w := 1479) (host := none) mx_c12 (by decide) ml_f_LeagueOfficeModel_329 (by decide +kernel)) rfl) <|
  mc_1 (mk_r (Or.inl ⟨rfl, by decide +kernel, _, rfl, mf_0⟩) rfl) <|
  mc_1 (mk_p (ms_aload_n (k := 0) (by decide +kernel) rfl) rfl) <|
  mc_1 (mk_p (ms_get (idx := 339) (w := 1484) (host := none) mx_c12 (by decide) ml_f_LeagueOfficeModel_339 (by decide +kernel)) rfl) <|
  mc_1 (mk_r (Or.inl ⟨rfl, by decide +kernel, _, rfl, mf_0⟩) rfl) <|
  mc_1 (mk_p (ms_aload_n (k := 0) (by decide +kernel) rfl) rfl) <|
  mc_1 (mk_p (ms_get (idx := 388) (w := 1493) (host := none) mx_c12 (by decide) ml_f_LeagueOfficeModel_388 (by decide +kernel)) rfl) <| mc_0
theorem mw_259_7 : ∀ e ∈ mt_259_7, mx_Ok mx_MT mq_259 e.1 e.2 := 
  mc_1 (mk_r (Or.inl ⟨rfl, by decide +kernel, _, rfl, mf_0⟩) rfl) <|
  mc_1 (mk_p (ms_aload_n (k := 0) (by decide +kernel) rfl) rfl) <|
  mc_1 (mk_p (ms_get (idx := 394) (w := 1494) (host := none) mx_c12 (by decide) ml_f_LeagueOfficeModel_394 (by decide +kernel)) rfl) <|
  mc_1 (mk_r (Or.inl ⟨rfl, by decide +kernel, _, rfl, mf_0⟩) rfl) <|
  mc_1 (mk_p (ms_aload_n (k := 0) (by decide +kernel) rfl) rfl) <|
  mc_1 (mk_p (ms_get (idx := 400) (w := 1498) (host := none) mx_c12 (by decide) ml_f_LeagueOfficeModel_400 (by decide +kernel)) rfl) <|
  mc_1 (mk_r (Or.inl ⟨rfl, by decide +kernel, _, rfl, mf_0⟩) rfl) <|
  mc_1 (mk_p (ms_aload_n (k := 0) (by decide +kernel) rfl) rfl) <|
  mc_1 (mk_p (ms_get (idx := 416) (w := 1502) (host := none) mx_c12 (by decide) ml_f_LeagueOfficeModel_416 (by decide +kernel)) rfl) <|
  mc_1 (mk_r (Or.inl ⟨rfl, by decide +kernel, _, rfl, mf_0⟩) rfl) <| mc_0
theorem mw_259_8 : ∀ e ∈ mt_259_8, mx_Ok mx_MT mq_259 e.1 e.2 := 
  mc_1 (mk_p (ms_aload_n (k := 0) (by decide +kernel) rfl) rfl) <|
  mc_1 (mk_p (ms_get (idx := 456) (w := 1523) (host := none) mx_c12 (by decide) ml_f_LeagueOfficeModel_456 (by decide +kernel)) rfl) <|
  mc_1 (mk_r (Or.inl ⟨rfl, by decide +kernel, _, rfl, mf_0⟩) rfl) <|
  mc_1 (mk_p (ms_bipush (n := (-2)) (by decide +kernel) (by decide +kernel)) rfl) <|
  mc_1 (mk_r (Or.inl ⟨rfl, by decide +kernel, _, rfl, mf_0⟩) rfl) <| mc_0
theorem mw_259 : ∀ ch ∈ mt_259, ∀ e ∈ ch, mx_Ok mx_MT mq_259 e.1 e.2 := mc_2 mw_259_0 <| mc_2 mw_259_1 <| mc_2 mw_259_2 <| mc_2 mw_259_3 <| mc_2 mw_259_4 <| mc_2 mw_259_5 <| mc_2 mw_259_6 <| mc_2 mw_259_7 <| mc_2 mw_259_8 <| mc_3
/- 260 LeagueOfficeModel.isSheet(I)Z -/
theorem mw_260_0 : ∀ e ∈ mt_260_0, mx_Ok mx_MT mq_260 e.1 e.2 := 
  mc_1 (mk_p (ms_iload_n (k := 0) (by decide +kernel) rfl) rfl) <|
  mc_1 (mk_p (ms_iconst (n := 0) (by decide +kernel) (by decide +kernel)) rfl) <|
  mc_1 (mk_p (ms_iconst (n := 3) (by decide +kernel) (by decide +kernel)) rfl) <|
  mc_1 (mk_c (k := mq_163) rfl ⟨mo_163, 7, 1318, none, ml_m_LeagueOfficeModel_7, Or.inl ⟨rfl, (by decide +kernel), mx_npd (by decide +kernel), ml_st_1319⟩⟩) <|
  mc_1 (mk_r (Or.inl ⟨rfl, by decide +kernel, _, rfl, mf_2⟩) rfl) <| mc_0
theorem mw_260 : ∀ ch ∈ mt_260, ∀ e ∈ ch, mx_Ok mx_MT mq_260 e.1 e.2 := mc_2 mw_260_0 <| mc_3
/- 261 LeagueOfficeModel.sheet(III)I -/
theorem mw_261_0 : ∀ e ∈ mt_261_0, mx_Ok mx_MT mq_261 e.1 e.2 := 
  mc_1 (mk_p (ms_iload_n (k := 1) (by decide +kernel) rfl) rfl) <|
  mc_1 (mk_c (k := mq_260) rfl ⟨mo_260, 468, 1939, none, ml_m_LeagueOfficeModel_468, Or.inl ⟨rfl, (by decide +kernel), mx_npd (by decide +kernel), ml_st_1940⟩⟩) <|
  mc_1 (mk_p (ms_if_eq (off := (22)) (by decide +kernel) (by decide)) rfl) <|
  mc_1 (mk_p (ms_iload_n (k := 2) (by decide +kernel) rfl) rfl) <|
  mc_1 (mk_p (ms_iconst (n := (-1)) (by decide +kernel) (by decide +kernel)) rfl) <|
  mc_1 (mk_p (ms_iconst (n := 2) (by decide +kernel) (by decide +kernel)) rfl) <|
  mc_1 (mk_c (k := mq_163) rfl ⟨mo_163, 7, 1318, none, ml_m_LeagueOfficeModel_7, Or.inl ⟨rfl, (by decide +kernel), mx_npd (by decide +kernel), ml_st_1319⟩⟩) <|
  mc_1 (mk_p (ms_if_eq (off := (13)) (by decide +kernel) (by decide)) rfl) <| mc_0
theorem mw_261_1 : ∀ e ∈ mt_261_1, mx_Ok mx_MT mq_261 e.1 e.2 := 
  mc_1 (mk_p (ms_iload_n (k := 2) (by decide +kernel) rfl) rfl) <|
  mc_1 (mk_p (ms_if_lt (off := (12)) (by decide +kernel) (by decide)) rfl) <|
  mc_1 (mk_p (ms_iload_n (k := 3) (by decide +kernel) rfl) rfl) <|
  mc_1 (mk_p (ms_bipush (n := 40) (by decide +kernel) (by decide +kernel)) rfl) <|
  mc_1 (mk_p (ms_icmp_le (off := (6)) (by decide +kernel) (by decide)) rfl) <|
  mc_1 (mk_p (ms_bipush (n := (-2)) (by decide +kernel) (by decide +kernel)) rfl) <|
  mc_1 (mk_r (Or.inl ⟨rfl, by decide +kernel, _, rfl, mf_0⟩) rfl) <|
  mc_1 (mk_p (ms_iload_n (k := 2) (by decide +kernel) rfl) rfl) <|
  mc_1 (mk_p (ms_if_lt (off := (10)) (by decide +kernel) (by decide)) rfl) <| mc_0
theorem mw_261_2 : ∀ e ∈ mt_261_2, mx_Ok mx_MT mq_261 e.1 e.2 := 
  mc_1 (mk_p (ms_iload_n (k := 3) (by decide +kernel) rfl) rfl) <|
  mc_1 (mk_p (ms_if_ge (off := (6)) (by decide +kernel) (by decide)) rfl) <|
  mc_1 (mk_p (ms_bipush (n := (-14)) (by decide +kernel) (by decide +kernel)) rfl) <|
  mc_1 (mk_r (Or.inl ⟨rfl, by decide +kernel, _, rfl, mf_0⟩) rfl) <|
  mc_1 (mk_p (ms_aload_n (k := 0) (by decide +kernel) rfl) rfl) <|
  mc_1 (mk_p (ms_get (idx := 219) (w := 1526) (host := none) mx_c12 (by decide) ml_f_LeagueOfficeModel_219 (by decide +kernel)) rfl) <|
  mc_1 (mk_p (ms_iload_n (k := 1) (by decide +kernel) rfl) rfl) <|
  mc_1 (mk_p (ms_iload_n (k := 2) (by decide +kernel) rfl) rfl) <|
  mc_1 (mk_p (ms_ast (Or.inl ⟨rfl, by decide +kernel⟩)) rfl) <|
  mc_1 (mk_p (ms_aload_n (k := 0) (by decide +kernel) rfl) rfl) <| mc_0
theorem mw_261_3 : ∀ e ∈ mt_261_3, mx_Ok mx_MT mq_261 e.1 e.2 := 
  mc_1 (mk_p (ms_get (idx := 222) (w := 1527) (host := none) mx_c12 (by decide) ml_f_LeagueOfficeModel_222 (by decide +kernel)) rfl) <|
  mc_1 (mk_p (ms_iload_n (k := 1) (by decide +kernel) rfl) rfl) <|
  mc_1 (mk_p (ms_iload_n (k := 2) (by decide +kernel) rfl) rfl) <|
  mc_1 (mk_p (ms_if_ge (off := (7)) (by decide +kernel) (by decide)) rfl) <|
  mc_1 (mk_p (ms_iconst (n := 0) (by decide +kernel) (by decide +kernel)) rfl) <|
  mc_1 (mk_p (ms_goto (off := (4)) (by decide +kernel) (by decide)) rfl) <|
  mc_1 (mk_p (ms_iload_n (k := 3) (by decide +kernel) rfl) rfl) <|
  mc_1 (mk_p (ms_ast (Or.inl ⟨rfl, by decide +kernel⟩)) rfl) <|
  mc_1 (mk_p (ms_bipush (n := 40) (by decide +kernel) (by decide +kernel)) rfl) <| mc_0
theorem mw_261_4 : ∀ e ∈ mt_261_4, mx_Ok mx_MT mq_261 e.1 e.2 := 
  mc_1 (mk_p (ms_iload_n (k := 1) (by decide +kernel) rfl) rfl) <|
  mc_1 (mk_p (ms_imul (by decide +kernel)) rfl) <|
  mc_1 (mk_p (ms_istore (by decide +kernel) (by decide)) rfl) <|
  mc_1 (mk_p (ms_iload (by decide +kernel)) rfl) <|
  mc_1 (mk_p (ms_bipush (n := 40) (by decide +kernel) (by decide +kernel)) rfl) <|
  mc_1 (mk_p (ms_iload_n (k := 1) (by decide +kernel) rfl) rfl) <|
  mc_1 (mk_p (ms_imul (by decide +kernel)) rfl) <|
  mc_1 (mk_p (ms_bipush (n := 40) (by decide +kernel) (by decide +kernel)) rfl) <|
  mc_1 (mk_p (ms_iadd (by decide +kernel)) rfl) <|
  mc_1 (mk_p (ms_icmp_ge (off := (17)) (by decide +kernel) (by decide)) rfl) <| mc_0
theorem mw_261_5 : ∀ e ∈ mt_261_5, mx_Ok mx_MT mq_261 e.1 e.2 := 
  mc_1 (mk_p (ms_aload_n (k := 0) (by decide +kernel) rfl) rfl) <|
  mc_1 (mk_p (ms_get (idx := 225) (w := 1528) (host := none) mx_c12 (by decide) ml_f_LeagueOfficeModel_225 (by decide +kernel)) rfl) <|
  mc_1 (mk_p (ms_iload (by decide +kernel)) rfl) <|
  mc_1 (mk_p (ms_iconst (n := 0) (by decide +kernel) (by decide +kernel)) rfl) <|
  mc_1 (mk_p (ms_ast (Or.inl ⟨rfl, by decide +kernel⟩)) rfl) <|
  mc_1 (mk_p (ms_iinc (n := (1)) (by decide +kernel) (by decide +kernel) (by decide)) rfl) <|
  mc_1 (mk_p (ms_goto (off := (-23)) (by decide +kernel) (by decide)) rfl) <|
  mc_1 (mk_p (ms_iconst (n := 1) (by decide +kernel) (by decide +kernel)) rfl) <|
  mc_1 (mk_r (Or.inl ⟨rfl, by decide +kernel, _, rfl, mf_0⟩) rfl) <| mc_0
theorem mw_261 : ∀ ch ∈ mt_261, ∀ e ∈ ch, mx_Ok mx_MT mq_261 e.1 e.2 := mc_2 mw_261_0 <| mc_2 mw_261_1 <| mc_2 mw_261_2 <| mc_2 mw_261_3 <| mc_2 mw_261_4 <| mc_2 mw_261_5 <| mc_3
/- 262 LeagueOfficeModel.cell(III)I -/
theorem mw_262_0 : ∀ e ∈ mt_262_0, mx_Ok mx_MT mq_262 e.1 e.2 := 
  mc_1 (mk_p (ms_iload_n (k := 1) (by decide +kernel) rfl) rfl) <|
  mc_1 (mk_c (k := mq_260) rfl ⟨mo_260, 468, 1939, none, ml_m_LeagueOfficeModel_468, Or.inl ⟨rfl, (by decide +kernel), mx_npd (by decide +kernel), ml_st_1940⟩⟩) <|
  mc_1 (mk_p (ms_if_ne (off := (6)) (by decide +kernel) (by decide)) rfl) <|
  mc_1 (mk_p (ms_bipush (n := (-2)) (by decide +kernel) (by decide +kernel)) rfl) <|
  mc_1 (mk_r (Or.inl ⟨rfl, by decide +kernel, _, rfl, mf_0⟩) rfl) <|
  mc_1 (mk_p (ms_aload_n (k := 0) (by decide +kernel) rfl) rfl) <|
  mc_1 (mk_p (ms_get (idx := 219) (w := 1526) (host := none) mx_c12 (by decide) ml_f_LeagueOfficeModel_219 (by decide +kernel)) rfl) <|
  mc_1 (mk_p (ms_iload_n (k := 1) (by decide +kernel) rfl) rfl) <|
  mc_1 (mk_p (ms_ald (Or.inl ⟨rfl, by decide +kernel⟩)) rfl) <| mc_0
theorem mw_262_1 : ∀ e ∈ mt_262_1, mx_Ok mx_MT mq_262 e.1 e.2 := 
  mc_1 (mk_p (ms_if_ge (off := (6)) (by decide +kernel) (by decide)) rfl) <|
  mc_1 (mk_p (ms_bipush (n := (-11)) (by decide +kernel) (by decide +kernel)) rfl) <|
  mc_1 (mk_r (Or.inl ⟨rfl, by decide +kernel, _, rfl, mf_0⟩) rfl) <|
  mc_1 (mk_p (ms_iload_n (k := 2) (by decide +kernel) rfl) rfl) <|
  mc_1 (mk_p (ms_iconst (n := 0) (by decide +kernel) (by decide +kernel)) rfl) <|
  mc_1 (mk_p (ms_aload_n (k := 0) (by decide +kernel) rfl) rfl) <|
  mc_1 (mk_p (ms_get (idx := 222) (w := 1527) (host := none) mx_c12 (by decide) ml_f_LeagueOfficeModel_222 (by decide +kernel)) rfl) <|
  mc_1 (mk_p (ms_iload_n (k := 1) (by decide +kernel) rfl) rfl) <|
  mc_1 (mk_p (ms_ald (Or.inl ⟨rfl, by decide +kernel⟩)) rfl) <|
  mc_1 (mk_p (ms_iconst (n := 1) (by decide +kernel) (by decide +kernel)) rfl) <|
  mc_1 (mk_p (ms_isub (by decide +kernel)) rfl) <| mc_0
theorem mw_262_2 : ∀ e ∈ mt_262_2, mx_Ok mx_MT mq_262 e.1 e.2 := 
  mc_1 (mk_c (k := mq_163) rfl ⟨mo_163, 7, 1318, none, ml_m_LeagueOfficeModel_7, Or.inl ⟨rfl, (by decide +kernel), mx_npd (by decide +kernel), ml_st_1319⟩⟩) <|
  mc_1 (mk_p (ms_if_ne (off := (6)) (by decide +kernel) (by decide)) rfl) <|
  mc_1 (mk_p (ms_bipush (n := (-12)) (by decide +kernel) (by decide +kernel)) rfl) <|
  mc_1 (mk_r (Or.inl ⟨rfl, by decide +kernel, _, rfl, mf_0⟩) rfl) <|
  mc_1 (mk_p (ms_aload_n (k := 0) (by decide +kernel) rfl) rfl) <|
  mc_1 (mk_p (ms_get (idx := 225) (w := 1528) (host := none) mx_c12 (by decide) ml_f_LeagueOfficeModel_225 (by decide +kernel)) rfl) <|
  mc_1 (mk_p (ms_bipush (n := 40) (by decide +kernel) (by decide +kernel)) rfl) <|
  mc_1 (mk_p (ms_iload_n (k := 1) (by decide +kernel) rfl) rfl) <| mc_0
theorem mw_262_3 : ∀ e ∈ mt_262_3, mx_Ok mx_MT mq_262 e.1 e.2 := 
  mc_1 (mk_p (ms_imul (by decide +kernel)) rfl) <|
  mc_1 (mk_p (ms_iload_n (k := 2) (by decide +kernel) rfl) rfl) <|
  mc_1 (mk_p (ms_iadd (by decide +kernel)) rfl) <|
  mc_1 (mk_p (ms_aload_n (k := 0) (by decide +kernel) rfl) rfl) <|
  mc_1 (mk_p (ms_get (idx := 219) (w := 1526) (host := none) mx_c12 (by decide) ml_f_LeagueOfficeModel_219 (by decide +kernel)) rfl) <|
  mc_1 (mk_p (ms_iload_n (k := 1) (by decide +kernel) rfl) rfl) <|
  mc_1 (mk_p (ms_ald (Or.inl ⟨rfl, by decide +kernel⟩)) rfl) <|
  mc_1 (mk_p (ms_if_ne (off := (8)) (by decide +kernel) (by decide)) rfl) <|
  mc_1 (mk_p (ms_iload_n (k := 3) (by decide +kernel) rfl) rfl) <|
  mc_1 (mk_p (ms_i2b (by decide +kernel)) rfl) <|
  mc_1 (mk_p (ms_goto (off := (19)) (by decide +kernel) (by decide)) rfl) <| mc_0
theorem mw_262_4 : ∀ e ∈ mt_262_4, mx_Ok mx_MT mq_262 e.1 e.2 := 
  mc_1 (mk_p (ms_aload_n (k := 0) (by decide +kernel) rfl) rfl) <|
  mc_1 (mk_p (ms_get (idx := 219) (w := 1526) (host := none) mx_c12 (by decide) ml_f_LeagueOfficeModel_219 (by decide +kernel)) rfl) <|
  mc_1 (mk_p (ms_iload_n (k := 1) (by decide +kernel) rfl) rfl) <|
  mc_1 (mk_p (ms_ald (Or.inl ⟨rfl, by decide +kernel⟩)) rfl) <|
  mc_1 (mk_p (ms_iconst (n := 1) (by decide +kernel) (by decide +kernel)) rfl) <|
  mc_1 (mk_p (ms_icmp_ne (off := (8)) (by decide +kernel) (by decide)) rfl) <|
  mc_1 (mk_p (ms_iload_n (k := 3) (by decide +kernel) rfl) rfl) <|
  mc_1 (mk_p (ms_i2s (by decide +kernel)) rfl) <|
  mc_1 (mk_p (ms_goto (off := (4)) (by decide +kernel) (by decide)) rfl) <| mc_0
theorem mw_262_5 : ∀ e ∈ mt_262_5, mx_Ok mx_MT mq_262 e.1 e.2 := 
  mc_1 (mk_p (ms_iload_n (k := 3) (by decide +kernel) rfl) rfl) <|
  mc_1 (mk_p (ms_ast (Or.inl ⟨rfl, by decide +kernel⟩)) rfl) <|
  mc_1 (mk_p (ms_iconst (n := 1) (by decide +kernel) (by decide +kernel)) rfl) <|
  mc_1 (mk_r (Or.inl ⟨rfl, by decide +kernel, _, rfl, mf_0⟩) rfl) <| mc_0
theorem mw_262 : ∀ ch ∈ mt_262, ∀ e ∈ ch, mx_Ok mx_MT mq_262 e.1 e.2 := mc_2 mw_262_0 <| mc_2 mw_262_1 <| mc_2 mw_262_2 <| mc_2 mw_262_3 <| mc_2 mw_262_4 <| mc_2 mw_262_5 <| mc_3
/- 263 LeagueOfficeModel.copy(IIIII)I -/
theorem mw_263_0 : ∀ e ∈ mt_263_0, mx_Ok mx_MT mq_263 e.1 e.2 := 
  mc_1 (mk_p (ms_iload_n (k := 1) (by decide +kernel) rfl) rfl) <|
  mc_1 (mk_c (k := mq_260) rfl ⟨mo_260, 468, 1939, none, ml_m_LeagueOfficeModel_468, Or.inl ⟨rfl, (by decide +kernel), mx_npd (by decide +kernel), ml_st_1940⟩⟩) <|
  mc_1 (mk_p (ms_if_eq (off := (10)) (by decide +kernel) (by decide)) rfl) <|
  mc_1 (mk_p (ms_iload_n (k := 3) (by decide +kernel) rfl) rfl) <|
  mc_1 (mk_c (k := mq_260) rfl ⟨mo_260, 468, 1939, none, ml_m_LeagueOfficeModel_468, Or.inl ⟨rfl, (by decide +kernel), mx_npd (by decide +kernel), ml_st_1940⟩⟩) <|
  mc_1 (mk_p (ms_if_ne (off := (6)) (by decide +kernel) (by decide)) rfl) <|
  mc_1 (mk_p (ms_bipush (n := (-2)) (by decide +kernel) (by decide +kernel)) rfl) <| mc_0
theorem mw_263_1 : ∀ e ∈ mt_263_1, mx_Ok mx_MT mq_263 e.1 e.2 := 
  mc_1 (mk_r (Or.inl ⟨rfl, by decide +kernel, _, rfl, mf_0⟩) rfl) <|
  mc_1 (mk_p (ms_aload_n (k := 0) (by decide +kernel) rfl) rfl) <|
  mc_1 (mk_p (ms_get (idx := 219) (w := 1526) (host := none) mx_c12 (by decide) ml_f_LeagueOfficeModel_219 (by decide +kernel)) rfl) <|
  mc_1 (mk_p (ms_iload_n (k := 1) (by decide +kernel) rfl) rfl) <|
  mc_1 (mk_p (ms_ald (Or.inl ⟨rfl, by decide +kernel⟩)) rfl) <|
  mc_1 (mk_p (ms_if_lt (off := (12)) (by decide +kernel) (by decide)) rfl) <|
  mc_1 (mk_p (ms_aload_n (k := 0) (by decide +kernel) rfl) rfl) <|
  mc_1 (mk_p (ms_get (idx := 219) (w := 1526) (host := none) mx_c12 (by decide) ml_f_LeagueOfficeModel_219 (by decide +kernel)) rfl) <|
  mc_1 (mk_p (ms_iload_n (k := 3) (by decide +kernel) rfl) rfl) <|
  mc_1 (mk_p (ms_ald (Or.inl ⟨rfl, by decide +kernel⟩)) rfl) <| mc_0
theorem mw_263_2 : ∀ e ∈ mt_263_2, mx_Ok mx_MT mq_263 e.1 e.2 := 
  mc_1 (mk_p (ms_if_ge (off := (6)) (by decide +kernel) (by decide)) rfl) <|
  mc_1 (mk_p (ms_bipush (n := (-11)) (by decide +kernel) (by decide +kernel)) rfl) <|
  mc_1 (mk_r (Or.inl ⟨rfl, by decide +kernel, _, rfl, mf_0⟩) rfl) <|
  mc_1 (mk_p (ms_aload_n (k := 0) (by decide +kernel) rfl) rfl) <|
  mc_1 (mk_p (ms_get (idx := 219) (w := 1526) (host := none) mx_c12 (by decide) ml_f_LeagueOfficeModel_219 (by decide +kernel)) rfl) <|
  mc_1 (mk_p (ms_iload_n (k := 1) (by decide +kernel) rfl) rfl) <|
  mc_1 (mk_p (ms_ald (Or.inl ⟨rfl, by decide +kernel⟩)) rfl) <|
  mc_1 (mk_p (ms_aload_n (k := 0) (by decide +kernel) rfl) rfl) <|
  mc_1 (mk_p (ms_get (idx := 219) (w := 1526) (host := none) mx_c12 (by decide) ml_f_LeagueOfficeModel_219 (by decide +kernel)) rfl) <| mc_0
theorem mw_263_3 : ∀ e ∈ mt_263_3, mx_Ok mx_MT mq_263 e.1 e.2 := 
  mc_1 (mk_p (ms_iload_n (k := 3) (by decide +kernel) rfl) rfl) <|
  mc_1 (mk_p (ms_ald (Or.inl ⟨rfl, by decide +kernel⟩)) rfl) <|
  mc_1 (mk_p (ms_icmp_eq (off := (6)) (by decide +kernel) (by decide)) rfl) <|
  mc_1 (mk_p (ms_bipush (n := (-13)) (by decide +kernel) (by decide +kernel)) rfl) <|
  mc_1 (mk_r (Or.inl ⟨rfl, by decide +kernel, _, rfl, mf_0⟩) rfl) <|
  mc_1 (mk_p (ms_iload (by decide +kernel)) rfl) <|
  mc_1 (mk_p (ms_if_lt (off := (39)) (by decide +kernel) (by decide)) rfl) <|
  mc_1 (mk_p (ms_iload_n (k := 2) (by decide +kernel) rfl) rfl) <|
  mc_1 (mk_p (ms_if_lt (off := (35)) (by decide +kernel) (by decide)) rfl) <| mc_0
theorem mw_263_4 : ∀ e ∈ mt_263_4, mx_Ok mx_MT mq_263 e.1 e.2 := 
  mc_1 (mk_p (ms_iload (by decide +kernel)) rfl) <|
  mc_1 (mk_p (ms_if_lt (off := (30)) (by decide +kernel) (by decide)) rfl) <|
  mc_1 (mk_p (ms_iload_n (k := 2) (by decide +kernel) rfl) rfl) <|
  mc_1 (mk_p (ms_aload_n (k := 0) (by decide +kernel) rfl) rfl) <|
  mc_1 (mk_p (ms_get (idx := 222) (w := 1527) (host := none) mx_c12 (by decide) ml_f_LeagueOfficeModel_222 (by decide +kernel)) rfl) <|
  mc_1 (mk_p (ms_iload_n (k := 1) (by decide +kernel) rfl) rfl) <|
  mc_1 (mk_p (ms_ald (Or.inl ⟨rfl, by decide +kernel⟩)) rfl) <|
  mc_1 (mk_p (ms_iload (by decide +kernel)) rfl) <|
  mc_1 (mk_p (ms_isub (by decide +kernel)) rfl) <| mc_0
theorem mw_263_5 : ∀ e ∈ mt_263_5, mx_Ok mx_MT mq_263 e.1 e.2 := 
  mc_1 (mk_p (ms_icmp_gt (off := (17)) (by decide +kernel) (by decide)) rfl) <|
  mc_1 (mk_p (ms_iload (by decide +kernel)) rfl) <|
  mc_1 (mk_p (ms_aload_n (k := 0) (by decide +kernel) rfl) rfl) <|
  mc_1 (mk_p (ms_get (idx := 222) (w := 1527) (host := none) mx_c12 (by decide) ml_f_LeagueOfficeModel_222 (by decide +kernel)) rfl) <|
  mc_1 (mk_p (ms_iload_n (k := 3) (by decide +kernel) rfl) rfl) <|
  mc_1 (mk_p (ms_ald (Or.inl ⟨rfl, by decide +kernel⟩)) rfl) <|
  mc_1 (mk_p (ms_iload (by decide +kernel)) rfl) <|
  mc_1 (mk_p (ms_isub (by decide +kernel)) rfl) <|
  mc_1 (mk_p (ms_icmp_le (off := (6)) (by decide +kernel) (by decide)) rfl) <| mc_0
theorem mw_263_6 : ∀ e ∈ mt_263_6, mx_Ok mx_MT mq_263 e.1 e.2 := 
  mc_1 (mk_p (ms_bipush (n := (-12)) (by decide +kernel) (by decide +kernel)) rfl) <|
  mc_1 (mk_r (Or.inl ⟨rfl, by decide +kernel, _, rfl, mf_0⟩) rfl) <|
  mc_1 (mk_p (ms_iconst (n := 0) (by decide +kernel) (by decide +kernel)) rfl) <|
  mc_1 (mk_p (ms_istore (by decide +kernel) (by decide)) rfl) <|
  mc_1 (mk_p (ms_iload (by decide +kernel)) rfl) <|
  mc_1 (mk_p (ms_iload (by decide +kernel)) rfl) <|
  mc_1 (mk_p (ms_icmp_ge (off := (30)) (by decide +kernel) (by decide)) rfl) <|
  mc_1 (mk_p (ms_aload_n (k := 0) (by decide +kernel) rfl) rfl) <|
  mc_1 (mk_p (ms_get (idx := 228) (w := 1529) (host := none) mx_c12 (by decide) ml_f_LeagueOfficeModel_228 (by decide +kernel)) rfl) <| mc_0
theorem mw_263_7 : ∀ e ∈ mt_263_7, mx_Ok mx_MT mq_263 e.1 e.2 := 
  mc_1 (mk_p (ms_iload (by decide +kernel)) rfl) <|
  mc_1 (mk_p (ms_aload_n (k := 0) (by decide +kernel) rfl) rfl) <|
  mc_1 (mk_p (ms_get (idx := 225) (w := 1528) (host := none) mx_c12 (by decide) ml_f_LeagueOfficeModel_225 (by decide +kernel)) rfl) <|
  mc_1 (mk_p (ms_bipush (n := 40) (by decide +kernel) (by decide +kernel)) rfl) <|
  mc_1 (mk_p (ms_iload_n (k := 1) (by decide +kernel) rfl) rfl) <|
  mc_1 (mk_p (ms_imul (by decide +kernel)) rfl) <|
  mc_1 (mk_p (ms_iload_n (k := 2) (by decide +kernel) rfl) rfl) <|
  mc_1 (mk_p (ms_iadd (by decide +kernel)) rfl) <|
  mc_1 (mk_p (ms_iload (by decide +kernel)) rfl) <| mc_0
theorem mw_263_8 : ∀ e ∈ mt_263_8, mx_Ok mx_MT mq_263 e.1 e.2 := 
  mc_1 (mk_p (ms_iadd (by decide +kernel)) rfl) <|
  mc_1 (mk_p (ms_ald (Or.inl ⟨rfl, by decide +kernel⟩)) rfl) <|
  mc_1 (mk_p (ms_ast (Or.inl ⟨rfl, by decide +kernel⟩)) rfl) <|
  mc_1 (mk_p (ms_iinc (n := (1)) (by decide +kernel) (by decide +kernel) (by decide)) rfl) <|
  mc_1 (mk_p (ms_goto (off := (-31)) (by decide +kernel) (by decide)) rfl) <|
  mc_1 (mk_p (ms_iconst (n := 0) (by decide +kernel) (by decide +kernel)) rfl) <|
  mc_1 (mk_p (ms_istore (by decide +kernel) (by decide)) rfl) <|
  mc_1 (mk_p (ms_iload (by decide +kernel)) rfl) <|
  mc_1 (mk_p (ms_iload (by decide +kernel)) rfl) <| mc_0
theorem mw_263_9 : ∀ e ∈ mt_263_9, mx_Ok mx_MT mq_263 e.1 e.2 := 
  mc_1 (mk_p (ms_icmp_ge (off := (31)) (by decide +kernel) (by decide)) rfl) <|
  mc_1 (mk_p (ms_aload_n (k := 0) (by decide +kernel) rfl) rfl) <|
  mc_1 (mk_p (ms_get (idx := 225) (w := 1528) (host := none) mx_c12 (by decide) ml_f_LeagueOfficeModel_225 (by decide +kernel)) rfl) <|
  mc_1 (mk_p (ms_bipush (n := 40) (by decide +kernel) (by decide +kernel)) rfl) <|
  mc_1 (mk_p (ms_iload_n (k := 3) (by decide +kernel) rfl) rfl) <|
  mc_1 (mk_p (ms_imul (by decide +kernel)) rfl) <|
  mc_1 (mk_p (ms_iload (by decide +kernel)) rfl) <|
  mc_1 (mk_p (ms_iadd (by decide +kernel)) rfl) <|
  mc_1 (mk_p (ms_iload (by decide +kernel)) rfl) <| mc_0
theorem mw_263_10 : ∀ e ∈ mt_263_10, mx_Ok mx_MT mq_263 e.1 e.2 := 
  mc_1 (mk_p (ms_iadd (by decide +kernel)) rfl) <|
  mc_1 (mk_p (ms_aload_n (k := 0) (by decide +kernel) rfl) rfl) <|
  mc_1 (mk_p (ms_get (idx := 228) (w := 1529) (host := none) mx_c12 (by decide) ml_f_LeagueOfficeModel_228 (by decide +kernel)) rfl) <|
  mc_1 (mk_p (ms_iload (by decide +kernel)) rfl) <|
  mc_1 (mk_p (ms_ald (Or.inl ⟨rfl, by decide +kernel⟩)) rfl) <|
  mc_1 (mk_p (ms_ast (Or.inl ⟨rfl, by decide +kernel⟩)) rfl) <|
  mc_1 (mk_p (ms_iinc (n := (1)) (by decide +kernel) (by decide +kernel) (by decide)) rfl) <|
  mc_1 (mk_p (ms_goto (off := (-32)) (by decide +kernel) (by decide)) rfl) <|
  mc_1 (mk_p (ms_iload (by decide +kernel)) rfl) <| mc_0
theorem mw_263_11 : ∀ e ∈ mt_263_11, mx_Ok mx_MT mq_263 e.1 e.2 := 
  mc_1 (mk_r (Or.inl ⟨rfl, by decide +kernel, _, rfl, mf_0⟩) rfl) <| mc_0
theorem mw_263 : ∀ ch ∈ mt_263, ∀ e ∈ ch, mx_Ok mx_MT mq_263 e.1 e.2 := mc_2 mw_263_0 <| mc_2 mw_263_1 <| mc_2 mw_263_2 <| mc_2 mw_263_3 <| mc_2 mw_263_4 <| mc_2 mw_263_5 <| mc_2 mw_263_6 <| mc_2 mw_263_7 <| mc_2 mw_263_8 <| mc_2 mw_263_9 <| mc_2 mw_263_10 <| mc_2 mw_263_11 <| mc_3
/- 264 LeagueOfficeModel.results(IIII)I -/
theorem mw_264_0 : ∀ e ∈ mt_264_0, mx_Ok mx_MT mq_264 e.1 e.2 := 
  mc_1 (mk_p (ms_iload_n (k := 1) (by decide +kernel) rfl) rfl) <|
  mc_1 (mk_c (k := mq_260) rfl ⟨mo_260, 468, 1939, none, ml_m_LeagueOfficeModel_468, Or.inl ⟨rfl, (by decide +kernel), mx_npd (by decide +kernel), ml_st_1940⟩⟩) <|
  mc_1 (mk_p (ms_if_eq (off := (23)) (by decide +kernel) (by decide)) rfl) <|
  mc_1 (mk_p (ms_iload_n (k := 2) (by decide +kernel) rfl) rfl) <|
  mc_1 (mk_p (ms_iconst (n := 0) (by decide +kernel) (by decide +kernel)) rfl) <|
  mc_1 (mk_p (ms_iconst (n := 2) (by decide +kernel) (by decide +kernel)) rfl) <|
  mc_1 (mk_c (k := mq_163) rfl ⟨mo_163, 7, 1318, none, ml_m_LeagueOfficeModel_7, Or.inl ⟨rfl, (by decide +kernel), mx_npd (by decide +kernel), ml_st_1319⟩⟩) <|
  mc_1 (mk_p (ms_if_eq (off := (14)) (by decide +kernel) (by decide)) rfl) <| mc_0
theorem mw_264_1 : ∀ e ∈ mt_264_1, mx_Ok mx_MT mq_264 e.1 e.2 := 
  mc_1 (mk_p (ms_iload (by decide +kernel)) rfl) <|
  mc_1 (mk_p (ms_iconst (n := 0) (by decide +kernel) (by decide +kernel)) rfl) <|
  mc_1 (mk_p (ms_bipush (n := 13) (by decide +kernel) (by decide +kernel)) rfl) <|
  mc_1 (mk_c (k := mq_163) rfl ⟨mo_163, 7, 1318, none, ml_m_LeagueOfficeModel_7, Or.inl ⟨rfl, (by decide +kernel), mx_npd (by decide +kernel), ml_st_1319⟩⟩) <|
  mc_1 (mk_p (ms_if_ne (off := (6)) (by decide +kernel) (by decide)) rfl) <|
  mc_1 (mk_p (ms_bipush (n := (-2)) (by decide +kernel) (by decide +kernel)) rfl) <|
  mc_1 (mk_r (Or.inl ⟨rfl, by decide +kernel, _, rfl, mf_0⟩) rfl) <|
  mc_1 (mk_p (ms_aload_n (k := 0) (by decide +kernel) rfl) rfl) <|
  mc_1 (mk_p (ms_get (idx := 219) (w := 1526) (host := none) mx_c12 (by decide) ml_f_LeagueOfficeModel_219 (by decide +kernel)) rfl) <| mc_0
theorem mw_264_2 : ∀ e ∈ mt_264_2, mx_Ok mx_MT mq_264 e.1 e.2 := 
  mc_1 (mk_p (ms_iload_n (k := 1) (by decide +kernel) rfl) rfl) <|
  mc_1 (mk_p (ms_ald (Or.inl ⟨rfl, by decide +kernel⟩)) rfl) <|
  mc_1 (mk_p (ms_if_ge (off := (6)) (by decide +kernel) (by decide)) rfl) <|
  mc_1 (mk_p (ms_bipush (n := (-11)) (by decide +kernel) (by decide +kernel)) rfl) <|
  mc_1 (mk_r (Or.inl ⟨rfl, by decide +kernel, _, rfl, mf_0⟩) rfl) <|
  mc_1 (mk_p (ms_aload_n (k := 0) (by decide +kernel) rfl) rfl) <|
  mc_1 (mk_p (ms_get (idx := 219) (w := 1526) (host := none) mx_c12 (by decide) ml_f_LeagueOfficeModel_219 (by decide +kernel)) rfl) <|
  mc_1 (mk_p (ms_iload_n (k := 1) (by decide +kernel) rfl) rfl) <|
  mc_1 (mk_p (ms_ald (Or.inl ⟨rfl, by decide +kernel⟩)) rfl) <| mc_0
theorem mw_264_3 : ∀ e ∈ mt_264_3, mx_Ok mx_MT mq_264 e.1 e.2 := 
  mc_1 (mk_p (ms_iload_n (k := 2) (by decide +kernel) rfl) rfl) <|
  mc_1 (mk_p (ms_icmp_eq (off := (6)) (by decide +kernel) (by decide)) rfl) <|
  mc_1 (mk_p (ms_bipush (n := (-13)) (by decide +kernel) (by decide +kernel)) rfl) <|
  mc_1 (mk_r (Or.inl ⟨rfl, by decide +kernel, _, rfl, mf_0⟩) rfl) <|
  mc_1 (mk_p (ms_iconst (n := 0) (by decide +kernel) (by decide +kernel)) rfl) <|
  mc_1 (mk_p (ms_istore (by decide +kernel) (by decide)) rfl) <|
  mc_1 (mk_p (ms_iconst (n := 0) (by decide +kernel) (by decide +kernel)) rfl) <|
  mc_1 (mk_p (ms_istore (by decide +kernel) (by decide)) rfl) <|
  mc_1 (mk_p (ms_iload (by decide +kernel)) rfl) <|
  mc_1 (mk_p (ms_iload (by decide +kernel)) rfl) <| mc_0
theorem mw_264_4 : ∀ e ∈ mt_264_4, mx_Ok mx_MT mq_264 e.1 e.2 := 
  mc_1 (mk_p (ms_icmp_ge (off := (91)) (by decide +kernel) (by decide)) rfl) <|
  mc_1 (mk_p (ms_iload_n (k := 3) (by decide +kernel) rfl) rfl) <|
  mc_1 (mk_p (ms_i2l (by decide +kernel)) rfl) <|
  mc_1 (mk_p (ms_iconst (n := 3) (by decide +kernel) (by decide +kernel)) rfl) <|
  mc_1 (mk_p (ms_iload (by decide +kernel)) rfl) <|
  mc_1 (mk_p (ms_imul (by decide +kernel)) rfl) <|
  mc_1 (mk_p (ms_i2l (by decide +kernel)) rfl) <|
  mc_1 (mk_p (ms_ladd (by decide +kernel)) rfl) <|
  mc_1 (mk_p (ms_lstore (by decide +kernel) (by decide)) rfl) <|
  mc_1 (mk_p (ms_lload (by decide +kernel)) rfl) <| mc_0
theorem mw_264_5 : ∀ e ∈ mt_264_5, mx_Ok mx_MT mq_264 e.1 e.2 := 
  mc_1 (mk_p (ms_lconst (n := 0) (by decide +kernel) rfl) rfl) <|
  mc_1 (mk_p (ms_lcmp (by decide +kernel)) rfl) <|
  mc_1 (mk_p (ms_if_lt (off := (20)) (by decide +kernel) (by decide)) rfl) <|
  mc_1 (mk_p (ms_lload (by decide +kernel)) rfl) <|
  mc_1 (mk_p (ms_ldc2 (idx := 454) 1910 (by decide +kernel) (by decide +kernel)) rfl) <|
  mc_1 (mk_p (ms_ladd (by decide +kernel)) rfl) <|
  mc_1 (mk_p (ms_aload_n (k := 0) (by decide +kernel) rfl) rfl) <|
  mc_1 (mk_p (ms_get (idx := 222) (w := 1527) (host := none) mx_c12 (by decide) ml_f_LeagueOfficeModel_222 (by decide +kernel)) rfl) <|
  mc_1 (mk_p (ms_iload_n (k := 1) (by decide +kernel) rfl) rfl) <| mc_0
theorem mw_264_6 : ∀ e ∈ mt_264_6, mx_Ok mx_MT mq_264 e.1 e.2 := 
  mc_1 (mk_p (ms_ald (Or.inl ⟨rfl, by decide +kernel⟩)) rfl) <|
  mc_1 (mk_p (ms_i2l (by decide +kernel)) rfl) <|
  mc_1 (mk_p (ms_lcmp (by decide +kernel)) rfl) <|
  mc_1 (mk_p (ms_if_lt (off := (6)) (by decide +kernel) (by decide)) rfl) <|
  mc_1 (mk_p (ms_bipush (n := (-12)) (by decide +kernel) (by decide +kernel)) rfl) <|
  mc_1 (mk_r (Or.inl ⟨rfl, by decide +kernel, _, rfl, mf_0⟩) rfl) <|
  mc_1 (mk_p (ms_bipush (n := 40) (by decide +kernel) (by decide +kernel)) rfl) <|
  mc_1 (mk_p (ms_iload_n (k := 1) (by decide +kernel) rfl) rfl) <|
  mc_1 (mk_p (ms_imul (by decide +kernel)) rfl) <|
  mc_1 (mk_p (ms_lload (by decide +kernel)) rfl) <|
  mc_1 (mk_p (ms_l2i (by decide +kernel)) rfl) <| mc_0
theorem mw_264_7 : ∀ e ∈ mt_264_7, mx_Ok mx_MT mq_264 e.1 e.2 := 
  mc_1 (mk_p (ms_iadd (by decide +kernel)) rfl) <|
  mc_1 (mk_p (ms_istore (by decide +kernel) (by decide)) rfl) <|
  mc_1 (mk_p (ms_aload_n (k := 0) (by decide +kernel) rfl) rfl) <|
  mc_1 (mk_p (ms_aload_n (k := 0) (by decide +kernel) rfl) rfl) <|
  mc_1 (mk_p (ms_get (idx := 225) (w := 1528) (host := none) mx_c12 (by decide) ml_f_LeagueOfficeModel_225 (by decide +kernel)) rfl) <|
  mc_1 (mk_p (ms_iload (by decide +kernel)) rfl) <|
  mc_1 (mk_p (ms_ald (Or.inl ⟨rfl, by decide +kernel⟩)) rfl) <|
  mc_1 (mk_p (ms_aload_n (k := 0) (by decide +kernel) rfl) rfl) <|
  mc_1 (mk_p (ms_get (idx := 225) (w := 1528) (host := none) mx_c12 (by decide) ml_f_LeagueOfficeModel_225 (by decide +kernel)) rfl) <|
  mc_1 (mk_p (ms_iload (by decide +kernel)) rfl) <| mc_0
theorem mw_264_8 : ∀ e ∈ mt_264_8, mx_Ok mx_MT mq_264 e.1 e.2 := 
  mc_1 (mk_p (ms_iconst (n := 1) (by decide +kernel) (by decide +kernel)) rfl) <|
  mc_1 (mk_p (ms_iadd (by decide +kernel)) rfl) <|
  mc_1 (mk_p (ms_ald (Or.inl ⟨rfl, by decide +kernel⟩)) rfl) <|
  mc_1 (mk_p (ms_aload_n (k := 0) (by decide +kernel) rfl) rfl) <|
  mc_1 (mk_p (ms_get (idx := 225) (w := 1528) (host := none) mx_c12 (by decide) ml_f_LeagueOfficeModel_225 (by decide +kernel)) rfl) <|
  mc_1 (mk_p (ms_iload (by decide +kernel)) rfl) <|
  mc_1 (mk_p (ms_iconst (n := 2) (by decide +kernel) (by decide +kernel)) rfl) <|
  mc_1 (mk_p (ms_iadd (by decide +kernel)) rfl) <|
  mc_1 (mk_p (ms_ald (Or.inl ⟨rfl, by decide +kernel⟩)) rfl) <|
  mc_1 (mk_c (k := mq_178) rfl ⟨mo_178, 471, 1954, none, ml_m_LeagueOfficeModel_471, Or.inr (Or.inr (Or.inl ⟨12, TX12, 78, by decide, rfl, rfl, (by decide +kernel), ⟨3, rfl, mx_npd (by decide +kernel)⟩, ml_in_1365, ml_se_1366⟩))⟩) <| mc_0
theorem mw_264_9 : ∀ e ∈ mt_264_9, mx_Ok mx_MT mq_264 e.1 e.2 := 
  mc_1 (mk_p (ms_if_le (off := (6)) (by decide +kernel) (by decide)) rfl) <|
  mc_1 (mk_p (ms_iinc (n := (1)) (by decide +kernel) (by decide +kernel) (by decide)) rfl) <|
  mc_1 (mk_p (ms_iinc (n := (1)) (by decide +kernel) (by decide +kernel) (by decide)) rfl) <|
  mc_1 (mk_p (ms_goto (off := (-92)) (by decide +kernel) (by decide)) rfl) <|
  mc_1 (mk_p (ms_iload (by decide +kernel)) rfl) <|
  mc_1 (mk_r (Or.inl ⟨rfl, by decide +kernel, _, rfl, mf_0⟩) rfl) <| mc_0
theorem mw_264 : ∀ ch ∈ mt_264, ∀ e ∈ ch, mx_Ok mx_MT mq_264 e.1 e.2 := mc_2 mw_264_0 <| mc_2 mw_264_1 <| mc_2 mw_264_2 <| mc_2 mw_264_3 <| mc_2 mw_264_4 <| mc_2 mw_264_5 <| mc_2 mw_264_6 <| mc_2 mw_264_7 <| mc_2 mw_264_8 <| mc_2 mw_264_9 <| mc_3
/- 265 LeagueOfficeModel.taken(II)I -/
theorem mw_265_0 : ∀ e ∈ mt_265_0, mx_Ok mx_MT mq_265 e.1 e.2 := 
  mc_1 (mk_p (ms_iload_n (k := 2) (by decide +kernel) rfl) rfl) <|
  mc_1 (mk_p (ms_iconst (n := 0) (by decide +kernel) (by decide +kernel)) rfl) <|
  mc_1 (mk_p (ms_iconst (n := 5) (by decide +kernel) (by decide +kernel)) rfl) <|
  mc_1 (mk_c (k := mq_163) rfl ⟨mo_163, 7, 1318, none, ml_m_LeagueOfficeModel_7, Or.inl ⟨rfl, (by decide +kernel), mx_npd (by decide +kernel), ml_st_1319⟩⟩) <|
  mc_1 (mk_p (ms_if_ne (off := (6)) (by decide +kernel) (by decide)) rfl) <|
  mc_1 (mk_p (ms_bipush (n := (-2)) (by decide +kernel) (by decide +kernel)) rfl) <|
  mc_1 (mk_r (Or.inl ⟨rfl, by decide +kernel, _, rfl, mf_0⟩) rfl) <|
  mc_1 (mk_p (ms_aload_n (k := 0) (by decide +kernel) rfl) rfl) <|
  mc_1 (mk_p (ms_iload_n (k := 1) (by decide +kernel) rfl) rfl) <|
  mc_1 (mk_c (k := mq_170) rfl ⟨mo_170, 52, 1348, none, ml_m_LeagueOfficeModel_52, Or.inr (Or.inr (Or.inl ⟨12, TX12, 78, by decide, rfl, rfl, (by decide +kernel), ⟨1, rfl, mx_npd (by decide +kernel)⟩, ml_in_1350, ml_se_31⟩))⟩) <| mc_0
theorem mw_265_1 : ∀ e ∈ mt_265_1, mx_Ok mx_MT mq_265 e.1 e.2 := 
  mc_1 (mk_p (ms_if_ne (off := (6)) (by decide +kernel) (by decide)) rfl) <|
  mc_1 (mk_p (ms_bipush (n := (-11)) (by decide +kernel) (by decide +kernel)) rfl) <|
  mc_1 (mk_r (Or.inl ⟨rfl, by decide +kernel, _, rfl, mf_0⟩) rfl) <|
  mc_1 (mk_p (ms_aload_n (k := 0) (by decide +kernel) rfl) rfl) <|
  mc_1 (mk_p (ms_get (idx := 37) (w := 1458) (host := none) mx_c12 (by decide) ml_f_LeagueOfficeModel_37 (by decide +kernel)) rfl) <|
  mc_1 (mk_p (ms_iload_n (k := 1) (by decide +kernel) rfl) rfl) <|
  mc_1 (mk_p (ms_ald (Or.inl ⟨rfl, by decide +kernel⟩)) rfl) <|
  mc_1 (mk_p (ms_iload_n (k := 2) (by decide +kernel) rfl) rfl) <|
  mc_1 (mk_c (k := mq_171) rfl ⟨mo_171, 474, 1959, none, ml_m_LeagueOfficeModel_474, Or.inl ⟨rfl, (by decide +kernel), mx_npd (by decide +kernel), ml_st_1960⟩⟩) <| mc_0
theorem mw_265_2 : ∀ e ∈ mt_265_2, mx_Ok mx_MT mq_265 e.1 e.2 := 
  mc_1 (mk_p (ms_if_eq (off := (12)) (by decide +kernel) (by decide)) rfl) <|
  mc_1 (mk_p (ms_aload_n (k := 0) (by decide +kernel) rfl) rfl) <|
  mc_1 (mk_p (ms_get (idx := 46) (w := 1461) (host := none) mx_c12 (by decide) ml_f_LeagueOfficeModel_46 (by decide +kernel)) rfl) <|
  mc_1 (mk_p (ms_iload_n (k := 1) (by decide +kernel) rfl) rfl) <|
  mc_1 (mk_p (ms_ald (Or.inl ⟨rfl, by decide +kernel⟩)) rfl) <|
  mc_1 (mk_p (ms_goto (off := (5)) (by decide +kernel) (by decide)) rfl) <|
  mc_1 (mk_p (ms_bipush (n := (-13)) (by decide +kernel) (by decide +kernel)) rfl) <|
  mc_1 (mk_r (Or.inl ⟨rfl, by decide +kernel, _, rfl, mf_0⟩) rfl) <| mc_0
theorem mw_265 : ∀ ch ∈ mt_265, ∀ e ∈ ch, mx_Ok mx_MT mq_265 e.1 e.2 := mc_2 mw_265_0 <| mc_2 mw_265_1 <| mc_2 mw_265_2 <| mc_3
/- 266 java/lang/String.length()I -/
theorem mw_266_0 : ∀ e ∈ mt_266_0, mx_Ok mx_MT mq_266 e.1 e.2 := 
  mc_1 (mk_p (ms_aload_n (k := 0) (by decide +kernel) rfl) rfl) <|
  mc_1 (mk_p (ms_gstr (idx := 9) (w := 1963) (Or.inl ⟨rfl, by decide +kernel⟩) (by decide +kernel)) rfl) <|
  mc_1 (mk_p (ms_alen (by decide +kernel)) rfl) <|
  mc_1 (mk_p (ms_aload_n (k := 0) (by decide +kernel) rfl) rfl) <|
  mc_1 (mk_c (k := mq_268) rfl ⟨mo_268, 335, 522, none, ml_m_java_lang_String_335, Or.inr (Or.inr (Or.inr ⟨rfl, rfl, rfl, (by decide +kernel), ⟨0, rfl, mx_npd (by decide +kernel)⟩, ml_in_523, ml_se_524⟩))⟩) <|
  mc_1 (mk_p (ms_ishr (by decide +kernel)) rfl) <|
  mc_1 (mk_r (Or.inl ⟨rfl, by decide +kernel, _, rfl, mf_0⟩) rfl) <| mc_0
theorem mw_266 : ∀ ch ∈ mt_266, ∀ e ∈ ch, mx_Ok mx_MT mq_266 e.1 e.2 := mc_2 mw_266_0 <| mc_3
/- 267 java/lang/String.charAt(I)C -/
theorem mw_267_0 : ∀ e ∈ mt_267_0, mx_Ok mx_MT mq_267 e.1 e.2 := 
  mc_1 (mk_p (ms_aload_n (k := 0) (by decide +kernel) rfl) rfl) <|
  mc_1 (mk_c (k := mq_269) rfl ⟨mo_269, 492, 532, none, ml_m_java_lang_String_492, Or.inr (Or.inr (Or.inr ⟨rfl, rfl, rfl, (by decide +kernel), ⟨0, rfl, mx_npd (by decide +kernel)⟩, ml_in_533, ml_se_534⟩))⟩) <|
  mc_1 (mk_p (ms_if_eq (off := (12)) (by decide +kernel) (by decide)) rfl) <|
  mc_1 (mk_p (ms_aload_n (k := 0) (by decide +kernel) rfl) rfl) <|
  mc_1 (mk_p (ms_gstr (idx := 9) (w := 1963) (Or.inl ⟨rfl, by decide +kernel⟩) (by decide +kernel)) rfl) <|
  mc_1 (mk_p (ms_iload_n (k := 1) (by decide +kernel) rfl) rfl) <|
  mc_1 (mk_c (k := mq_271) rfl ⟨mo_271, 495, 536, none, ml_m_java_lang_String_495, Or.inl ⟨rfl, (by decide +kernel), mx_npd (by decide +kernel), ml_st_537⟩⟩) <|
  mc_1 (mk_r (Or.inl ⟨rfl, by decide +kernel, _, rfl, mf_3⟩) rfl) <| mc_0
theorem mw_267_1 : ∀ e ∈ mt_267_1, mx_Ok mx_MT mq_267 e.1 e.2 := 
  mc_1 (mk_p (ms_aload_n (k := 0) (by decide +kernel) rfl) rfl) <|
  mc_1 (mk_p (ms_gstr (idx := 9) (w := 1963) (Or.inl ⟨rfl, by decide +kernel⟩) (by decide +kernel)) rfl) <|
  mc_1 (mk_p (ms_iload_n (k := 1) (by decide +kernel) rfl) rfl) <|
  mc_1 (mk_r (Or.inl ⟨rfl, by decide +kernel, _, rfl, mf_3⟩) rfl) <| mc_0
theorem mw_267 : ∀ ch ∈ mt_267, ∀ e ∈ ch, mx_Ok mx_MT mq_267 e.1 e.2 := mc_2 mw_267_0 <| mc_2 mw_267_1 <| mc_3
/- 268 java/lang/String.coder()B -/
theorem mw_268_0 : ∀ e ∈ mt_268_0, mx_Ok mx_MT mq_268 e.1 e.2 := 
  mc_1 (mk_p (ms_gets (q := ("java/lang/String", "COMPACT_STRINGS", "Z", .int 1)) (idx := 38) (w := 526) (host := none) rfl ml_f_java_lang_String_38 (by decide +kernel)) rfl) <|
  mc_1 (mk_p (ms_if_eq (off := (10)) (by decide +kernel) (by decide)) rfl) <|
  mc_1 (mk_p (ms_aload_n (k := 0) (by decide +kernel) rfl) rfl) <|
  mc_1 (mk_p (ms_gstr (idx := 15) (w := 1964) (Or.inr ⟨rfl, by decide +kernel⟩) (by decide +kernel)) rfl) <|
  mc_1 (mk_p (ms_goto (off := (4)) (by decide +kernel) (by decide)) rfl) <|
  mc_1 (mk_p (ms_iconst (n := 1) (by decide +kernel) (by decide +kernel)) rfl) <|
  mc_1 (mk_r (Or.inl ⟨rfl, by decide +kernel, _, rfl, mf_1⟩) rfl) <| mc_0
theorem mw_268 : ∀ ch ∈ mt_268, ∀ e ∈ ch, mx_Ok mx_MT mq_268 e.1 e.2 := mc_2 mw_268_0 <| mc_3
/- 269 java/lang/String.isLatin1()Z -/
theorem mw_269_0 : ∀ e ∈ mt_269_0, mx_Ok mx_MT mq_269 e.1 e.2 := 
  mc_1 (mk_p (ms_gets (q := ("java/lang/String", "COMPACT_STRINGS", "Z", .int 1)) (idx := 38) (w := 526) (host := none) rfl ml_f_java_lang_String_38 (by decide +kernel)) rfl) <|
  mc_1 (mk_p (ms_if_eq (off := (14)) (by decide +kernel) (by decide)) rfl) <|
  mc_1 (mk_p (ms_aload_n (k := 0) (by decide +kernel) rfl) rfl) <|
  mc_1 (mk_p (ms_gstr (idx := 15) (w := 1964) (Or.inr ⟨rfl, by decide +kernel⟩) (by decide +kernel)) rfl) <|
  mc_1 (mk_p (ms_if_ne (off := (7)) (by decide +kernel) (by decide)) rfl) <|
  mc_1 (mk_p (ms_iconst (n := 1) (by decide +kernel) (by decide +kernel)) rfl) <|
  mc_1 (mk_p (ms_goto (off := (4)) (by decide +kernel) (by decide)) rfl) <| mc_0
theorem mw_269_1 : ∀ e ∈ mt_269_1, mx_Ok mx_MT mq_269 e.1 e.2 := 
  mc_1 (mk_p (ms_iconst (n := 0) (by decide +kernel) (by decide +kernel)) rfl) <|
  mc_1 (mk_r (Or.inl ⟨rfl, by decide +kernel, _, rfl, mf_2⟩) rfl) <| mc_0
theorem mw_269 : ∀ ch ∈ mt_269, ∀ e ∈ ch, mx_Ok mx_MT mq_269 e.1 e.2 := mc_2 mw_269_0 <| mc_2 mw_269_1 <| mc_3
/- 270 java/lang/String.checkIndex(II)V -/
theorem mw_270_0 : ∀ e ∈ mt_270_0, mx_Ok mx_MT mq_270 e.1 e.2 := 
  mc_1 (mk_p (ms_iload_n (k := 0) (by decide +kernel) rfl) rfl) <|
  mc_1 (mk_p (ms_iload_n (k := 1) (by decide +kernel) rfl) rfl) <|
  mc_1 (mk_p (ms_gets (q := ("jdk/internal/util/Preconditions", "SIOOBE_FORMATTER", "Ljava/util/function/BiFunction;", .retAddr 0)) (idx := 1053) (w := 542) (host := none) rfl ml_f_java_lang_String_1053 (by decide +kernel)) rfl) <|
  mc_1 (mk_c (k := mq_274) rfl ⟨mo_274, 1059, 544, none, ml_m_java_lang_String_1059, Or.inl ⟨rfl, (by decide +kernel), mx_npd (by decide +kernel), ml_st_545⟩⟩) <|
  mc_1 (mk_p (ms_pop (by decide +kernel)) rfl) <|
  mc_1 (mk_r (Or.inr (Or.inr (Or.inr ⟨rfl, by decide +kernel, rfl⟩))) rfl) <| mc_0
theorem mw_270 : ∀ ch ∈ mt_270, ∀ e ∈ ch, mx_Ok mx_MT mq_270 e.1 e.2 := mc_2 mw_270_0 <| mc_3
/- 271 java/lang/StringLatin1.charAt([BI)C -/
theorem mw_271_0 : ∀ e ∈ mt_271_0, mx_Ok mx_MT mq_271 e.1 e.2 := 
  mc_1 (mk_p (ms_iload_n (k := 1) (by decide +kernel) rfl) rfl) <|
  mc_1 (mk_p (ms_aload_n (k := 0) (by decide +kernel) rfl) rfl) <|
  mc_1 (mk_p (ms_alen (by decide +kernel)) rfl) <|
  mc_1 (mk_c (k := mq_270) rfl ⟨mo_270, 9, 539, none, ml_m_java_lang_StringLatin1_9, Or.inl ⟨rfl, (by decide +kernel), mx_npd (by decide +kernel), ml_st_540⟩⟩) <|
  mc_1 (mk_p (ms_aload_n (k := 0) (by decide +kernel) rfl) rfl) <|
  mc_1 (mk_p (ms_iload_n (k := 1) (by decide +kernel) rfl) rfl) <|
  mc_1 (mk_p (ms_ald (Or.inr (Or.inl ⟨rfl, by decide +kernel⟩))) rfl) <|
  mc_1 (mk_p (ms_sipush (n := 255) (by decide +kernel) (by decide +kernel)) rfl) <|
  mc_1 (mk_p (ms_iand (by decide +kernel)) rfl) <|
  mc_1 (mk_p (ms_i2c (by decide +kernel)) rfl) <|
  mc_1 (mk_r (Or.inl ⟨rfl, by decide +kernel, _, rfl, mf_3⟩) rfl) <| mc_0
theorem mw_271 : ∀ ch ∈ mt_271, ∀ e ∈ ch, mx_Ok mx_MT mq_271 e.1 e.2 := mc_2 mw_271_0 <| mc_3
/- 272 java/util/Arrays.fill([JJ)V -/
theorem mw_272_0 : ∀ e ∈ mt_272_0, mx_Ok mx_MT mq_272 e.1 e.2 := 
  mc_1 (mk_p (ms_iconst (n := 0) (by decide +kernel) (by decide +kernel)) rfl) <|
  mc_1 (mk_p (ms_istore_n (k := 3) (by decide +kernel) rfl (by decide)) rfl) <|
  mc_1 (mk_p (ms_aload_n (k := 0) (by decide +kernel) rfl) rfl) <|
  mc_1 (mk_p (ms_alen (by decide +kernel)) rfl) <|
  mc_1 (mk_p (ms_istore (by decide +kernel) (by decide)) rfl) <|
  mc_1 (mk_p (ms_iload_n (k := 3) (by decide +kernel) rfl) rfl) <|
  mc_1 (mk_p (ms_iload (by decide +kernel)) rfl) <|
  mc_1 (mk_p (ms_icmp_ge (off := (13)) (by decide +kernel) (by decide)) rfl) <|
  mc_1 (mk_p (ms_aload_n (k := 0) (by decide +kernel) rfl) rfl) <|
  mc_1 (mk_p (ms_iload_n (k := 3) (by decide +kernel) rfl) rfl) <|
  mc_1 (mk_p (ms_lload_n (k := 1) (by decide +kernel) rfl) rfl) <|
  mc_1 (mk_p (ms_last (by decide +kernel)) rfl) <| mc_0
theorem mw_272_1 : ∀ e ∈ mt_272_1, mx_Ok mx_MT mq_272 e.1 e.2 := 
  mc_1 (mk_p (ms_iinc (n := (1)) (by decide +kernel) (by decide +kernel) (by decide)) rfl) <|
  mc_1 (mk_p (ms_goto (off := (-13)) (by decide +kernel) (by decide)) rfl) <|
  mc_1 (mk_r (Or.inr (Or.inr (Or.inr ⟨rfl, by decide +kernel, rfl⟩))) rfl) <| mc_0
theorem mw_272 : ∀ ch ∈ mt_272, ∀ e ∈ ch, mx_Ok mx_MT mq_272 e.1 e.2 := mc_2 mw_272_0 <| mc_2 mw_272_1 <| mc_3
/- 273 java/util/Arrays.fill([II)V -/
theorem mw_273_0 : ∀ e ∈ mt_273_0, mx_Ok mx_MT mq_273 e.1 e.2 := 
  mc_1 (mk_p (ms_iconst (n := 0) (by decide +kernel) (by decide +kernel)) rfl) <|
  mc_1 (mk_p (ms_istore_n (k := 2) (by decide +kernel) rfl (by decide)) rfl) <|
  mc_1 (mk_p (ms_aload_n (k := 0) (by decide +kernel) rfl) rfl) <|
  mc_1 (mk_p (ms_alen (by decide +kernel)) rfl) <|
  mc_1 (mk_p (ms_istore_n (k := 3) (by decide +kernel) rfl (by decide)) rfl) <|
  mc_1 (mk_p (ms_iload_n (k := 2) (by decide +kernel) rfl) rfl) <|
  mc_1 (mk_p (ms_iload_n (k := 3) (by decide +kernel) rfl) rfl) <|
  mc_1 (mk_p (ms_icmp_ge (off := (13)) (by decide +kernel) (by decide)) rfl) <|
  mc_1 (mk_p (ms_aload_n (k := 0) (by decide +kernel) rfl) rfl) <|
  mc_1 (mk_p (ms_iload_n (k := 2) (by decide +kernel) rfl) rfl) <|
  mc_1 (mk_p (ms_iload_n (k := 1) (by decide +kernel) rfl) rfl) <|
  mc_1 (mk_p (ms_ast (Or.inl ⟨rfl, by decide +kernel⟩)) rfl) <|
  mc_1 (mk_p (ms_iinc (n := (1)) (by decide +kernel) (by decide +kernel) (by decide)) rfl) <| mc_0
theorem mw_273_1 : ∀ e ∈ mt_273_1, mx_Ok mx_MT mq_273 e.1 e.2 := 
  mc_1 (mk_p (ms_goto (off := (-12)) (by decide +kernel) (by decide)) rfl) <|
  mc_1 (mk_r (Or.inr (Or.inr (Or.inr ⟨rfl, by decide +kernel, rfl⟩))) rfl) <| mc_0
theorem mw_273 : ∀ ch ∈ mt_273, ∀ e ∈ ch, mx_Ok mx_MT mq_273 e.1 e.2 := mc_2 mw_273_0 <| mc_2 mw_273_1 <| mc_3
/- 274 jdk/internal/util/Preconditions.checkIndex(IILjava/util/function/BiFunction;)I -/
theorem mw_274_0 : ∀ e ∈ mt_274_0, mx_Ok mx_MT mq_274 e.1 e.2 := 
  mc_1 (mk_p (ms_iload_n (k := 0) (by decide +kernel) rfl) rfl) <|
  mc_1 (mk_p (ms_if_lt (off := (8)) (by decide +kernel) (by decide)) rfl) <|
  mc_1 (mk_p (ms_iload_n (k := 0) (by decide +kernel) rfl) rfl) <|
  mc_1 (mk_p (ms_iload_n (k := 1) (by decide +kernel) rfl) rfl) <|
  mc_1 (mk_p (ms_icmp_lt (off := (10)) (by decide +kernel) (by decide)) rfl) <|
  mc_1 (mk_p (ms_aload_n (k := 2) (by decide +kernel) rfl) rfl) <|
  mc_1 (mk_p (ms_iload_n (k := 0) (by decide +kernel) rfl) rfl) <|
  mc_1 (mk_p (ms_iload_n (k := 1) (by decide +kernel) rfl) rfl) <| mc_0
theorem mw_274_1 : ∀ e ∈ mt_274_1, mx_Ok mx_MT mq_274 e.1 e.2 := 
  mc_1 (mk_p (ms_iload_n (k := 0) (by decide +kernel) rfl) rfl) <|
  mc_1 (mk_r (Or.inl ⟨rfl, by decide +kernel, _, rfl, mf_0⟩) rfl) <| mc_0
theorem mw_274 : ∀ ch ∈ mt_274, ∀ e ∈ ch, mx_Ok mx_MT mq_274 e.1 e.2 := mc_2 mw_274_0 <| mc_2 mw_274_1 <| mc_3
