/- 84 LeagueOffice$Sheets.write(III)I -/
theorem mw_84_0 : ∀ e ∈ mt_84_0, mx_Ok mx_MT mq_84 e.1 e.2 := 
  mc_1 (mk_p (ms_aload_n (k := 0) (by decide +kernel) rfl) rfl) <|
  mc_1 (mk_p (ms_iload_n (k := 1) (by decide +kernel) rfl) rfl) <|
  mc_1 (mk_c (k := mq_81) rfl ⟨mo_81, 34, 1284, none, ml_m_LeagueOffice_Sheets_34, Or.inr (Or.inr (Or.inl ⟨7, TX7, 3, by decide, rfl, rfl, (by decide +kernel), ⟨1, rfl, mx_npd (by decide +kernel)⟩, ml_in_1285, ml_se_1286⟩))⟩) <|
  mc_1 (mk_p (ms_istore (by decide +kernel) (by decide)) rfl) <|
  mc_1 (mk_p (ms_aload_n (k := 0) (by decide +kernel) rfl) rfl) <|
  mc_1 (mk_p (ms_get (idx := 23) (w := 509) (host := none) mx_c7 (by decide) ml_f_LeagueOffice_Sheets_23 (by decide +kernel)) rfl) <|
  mc_1 (mk_p (ms_iload_n (k := 1) (by decide +kernel) rfl) rfl) <|
  mc_1 (mk_p (ms_bipush (n := 40) (by decide +kernel) (by decide +kernel)) rfl) <|
  mc_1 (mk_p (ms_imul (by decide +kernel)) rfl) <|
  mc_1 (mk_p (ms_iload_n (k := 2) (by decide +kernel) rfl) rfl) <| mc_0
theorem mw_84_1 : ∀ e ∈ mt_84_1, mx_Ok mx_MT mq_84 e.1 e.2 := 
  mc_1 (mk_p (ms_iadd (by decide +kernel)) rfl) <|
  mc_1 (mk_p (ms_iload (by decide +kernel)) rfl) <|
  mc_1 (mk_p (ms_if_ne (off := (8)) (by decide +kernel) (by decide)) rfl) <|
  mc_1 (mk_p (ms_iload_n (k := 3) (by decide +kernel) rfl) rfl) <|
  mc_1 (mk_p (ms_i2b (by decide +kernel)) rfl) <|
  mc_1 (mk_p (ms_goto (off := (15)) (by decide +kernel) (by decide)) rfl) <|
  mc_1 (mk_p (ms_iload (by decide +kernel)) rfl) <|
  mc_1 (mk_p (ms_iconst (n := 1) (by decide +kernel) (by decide +kernel)) rfl) <|
  mc_1 (mk_p (ms_icmp_ne (off := (8)) (by decide +kernel) (by decide)) rfl) <| mc_0
theorem mw_84_2 : ∀ e ∈ mt_84_2, mx_Ok mx_MT mq_84 e.1 e.2 := 
  mc_1 (mk_p (ms_iload_n (k := 3) (by decide +kernel) rfl) rfl) <|
  mc_1 (mk_p (ms_i2s (by decide +kernel)) rfl) <|
  mc_1 (mk_p (ms_goto (off := (4)) (by decide +kernel) (by decide)) rfl) <|
  mc_1 (mk_p (ms_iload_n (k := 3) (by decide +kernel) rfl) rfl) <|
  mc_1 (mk_c (k := mq_69) rfl ⟨mo_69, 26, 1262, none, ml_m_LeagueOffice_Sheets_26, Or.inr (Or.inr (Or.inl ⟨6, TX6, 2, by decide, rfl, rfl, (by decide +kernel), ⟨2, rfl, mx_npd (by decide +kernel)⟩, ml_in_665, ml_se_666⟩))⟩) <|
  mc_1 (mk_p (ms_iconst (n := 1) (by decide +kernel) (by decide +kernel)) rfl) <|
  mc_1 (mk_r (Or.inl ⟨rfl, by decide +kernel, _, rfl, mf_0⟩) rfl) <| mc_0
theorem mw_84 : ∀ ch ∈ mt_84, ∀ e ∈ ch, mx_Ok mx_MT mq_84 e.1 e.2 := mc_2 mw_84_0 <| mc_2 mw_84_1 <| mc_2 mw_84_2 <| mc_3
/- 85 LeagueOffice$Sheets.move(IIIII)I -/
theorem mw_85_0 : ∀ e ∈ mt_85_0, mx_Ok mx_MT mq_85 e.1 e.2 := 
  mc_1 (mk_p (ms_aload_n (k := 0) (by decide +kernel) rfl) rfl) <|
  mc_1 (mk_p (ms_get (idx := 23) (w := 509) (host := none) mx_c7 (by decide) ml_f_LeagueOffice_Sheets_23 (by decide +kernel)) rfl) <|
  mc_1 (mk_p (ms_iload_n (k := 1) (by decide +kernel) rfl) rfl) <|
  mc_1 (mk_p (ms_bipush (n := 40) (by decide +kernel) (by decide +kernel)) rfl) <|
  mc_1 (mk_p (ms_imul (by decide +kernel)) rfl) <|
  mc_1 (mk_p (ms_iload_n (k := 2) (by decide +kernel) rfl) rfl) <|
  mc_1 (mk_p (ms_iadd (by decide +kernel)) rfl) <|
  mc_1 (mk_p (ms_iload_n (k := 3) (by decide +kernel) rfl) rfl) <|
  mc_1 (mk_p (ms_bipush (n := 40) (by decide +kernel) (by decide +kernel)) rfl) <|
  mc_1 (mk_p (ms_imul (by decide +kernel)) rfl) <|
  mc_1 (mk_p (ms_iload (by decide +kernel)) rfl) <| mc_0
theorem mw_85_1 : ∀ e ∈ mt_85_1, mx_Ok mx_MT mq_85 e.1 e.2 := 
  mc_1 (mk_p (ms_iadd (by decide +kernel)) rfl) <|
  mc_1 (mk_p (ms_iload (by decide +kernel)) rfl) <|
  mc_1 (mk_c (k := mq_74) rfl ⟨mo_74, 37, 1297, none, ml_m_LeagueOffice_Sheets_37, Or.inr (Or.inr (Or.inl ⟨6, TX6, 2, by decide, rfl, rfl, (by decide +kernel), ⟨3, rfl, mx_npd (by decide +kernel)⟩, ml_in_1298, ml_se_1299⟩))⟩) <|
  mc_1 (mk_p (ms_iload (by decide +kernel)) rfl) <|
  mc_1 (mk_r (Or.inl ⟨rfl, by decide +kernel, _, rfl, mf_0⟩) rfl) <| mc_0
theorem mw_85 : ∀ ch ∈ mt_85, ∀ e ∈ ch, mx_Ok mx_MT mq_85 e.1 e.2 := mc_2 mw_85_0 <| mc_2 mw_85_1 <| mc_3
/- 86 LeagueOffice$Squad.<init>(LLeagueOffice$Book;LLeagueOffice$Texts;)V -/
theorem mw_86_0 : ∀ e ∈ mt_86_0, mx_Ok mx_MT mq_86 e.1 e.2 := 
  mc_1 (mk_p (ms_aload_n (k := 0) (by decide +kernel) rfl) rfl) <|
  mc_1 (mk_p (ms_obj (idx := 3) 326 103 104 (by decide +kernel) (by decide +kernel) (by decide +kernel) (by decide +kernel)) rfl) <|
  mc_1 (mk_p (ms_aload_n (k := 0) (by decide +kernel) rfl) rfl) <|
  mc_1 (mk_p (mn_6 (idx := 9) 327 (by decide +kernel) (by decide +kernel)) rfl) <|
  mc_1 (mk_p (ms_dup (by decide +kernel)) rfl) <|
  mc_1 (mk_p (ms_bipush (n := 40) (by decide +kernel) (by decide +kernel)) rfl) <|
  mc_1 (mk_c (k := mq_64) rfl ⟨mo_64, 11, 328, none, ml_m_LeagueOffice_Squad_11, Or.inr (Or.inl ⟨rfl, (by decide +kernel), ⟨1, rfl, mx_npd (by decide +kernel)⟩, ml_in_114, rfl, rfl⟩)⟩) <|
  mc_1 (mk_p (ms_putF (idx := 14) (w := 333) mx_c8 (by decide) ml_f_LeagueOffice_Squad_14 rfl rfl rfl rfl (by decide +kernel)) rfl) <| mc_0
theorem mw_86_1 : ∀ e ∈ mt_86_1, mx_Ok mx_MT mq_86 e.1 e.2 := 
  mc_1 (mk_p (ms_aload_n (k := 0) (by decide +kernel) rfl) rfl) <|
  mc_1 (mk_p (mn_6 (idx := 9) 327 (by decide +kernel) (by decide +kernel)) rfl) <|
  mc_1 (mk_p (ms_dup (by decide +kernel)) rfl) <|
  mc_1 (mk_p (ms_bipush (n := 40) (by decide +kernel) (by decide +kernel)) rfl) <|
  mc_1 (mk_c (k := mq_64) rfl ⟨mo_64, 11, 328, none, ml_m_LeagueOffice_Squad_11, Or.inr (Or.inl ⟨rfl, (by decide +kernel), ⟨1, rfl, mx_npd (by decide +kernel)⟩, ml_in_114, rfl, rfl⟩)⟩) <|
  mc_1 (mk_p (ms_putF (idx := 20) (w := 335) mx_c8 (by decide) ml_f_LeagueOffice_Squad_20 rfl rfl rfl rfl (by decide +kernel)) rfl) <|
  mc_1 (mk_p (ms_aload_n (k := 0) (by decide +kernel) rfl) rfl) <|
  mc_1 (mk_p (mn_6 (idx := 9) 327 (by decide +kernel) (by decide +kernel)) rfl) <| mc_0
theorem mw_86_2 : ∀ e ∈ mt_86_2, mx_Ok mx_MT mq_86 e.1 e.2 := 
  mc_1 (mk_p (ms_dup (by decide +kernel)) rfl) <|
  mc_1 (mk_p (ms_bipush (n := 40) (by decide +kernel) (by decide +kernel)) rfl) <|
  mc_1 (mk_c (k := mq_64) rfl ⟨mo_64, 11, 328, none, ml_m_LeagueOffice_Squad_11, Or.inr (Or.inl ⟨rfl, (by decide +kernel), ⟨1, rfl, mx_npd (by decide +kernel)⟩, ml_in_114, rfl, rfl⟩)⟩) <|
  mc_1 (mk_p (ms_putF (idx := 23) (w := 337) mx_c8 (by decide) ml_f_LeagueOffice_Squad_23 rfl rfl rfl rfl (by decide +kernel)) rfl) <|
  mc_1 (mk_p (ms_aload_n (k := 0) (by decide +kernel) rfl) rfl) <|
  mc_1 (mk_p (mn_6 (idx := 9) 327 (by decide +kernel) (by decide +kernel)) rfl) <|
  mc_1 (mk_p (ms_dup (by decide +kernel)) rfl) <| mc_0
theorem mw_86_3 : ∀ e ∈ mt_86_3, mx_Ok mx_MT mq_86 e.1 e.2 := 
  mc_1 (mk_p (ms_bipush (n := 40) (by decide +kernel) (by decide +kernel)) rfl) <|
  mc_1 (mk_c (k := mq_64) rfl ⟨mo_64, 11, 328, none, ml_m_LeagueOffice_Squad_11, Or.inr (Or.inl ⟨rfl, (by decide +kernel), ⟨1, rfl, mx_npd (by decide +kernel)⟩, ml_in_114, rfl, rfl⟩)⟩) <|
  mc_1 (mk_p (ms_putF (idx := 26) (w := 339) mx_c8 (by decide) ml_f_LeagueOffice_Squad_26 rfl rfl rfl rfl (by decide +kernel)) rfl) <|
  mc_1 (mk_p (ms_aload_n (k := 0) (by decide +kernel) rfl) rfl) <|
  mc_1 (mk_p (mn_6 (idx := 9) 327 (by decide +kernel) (by decide +kernel)) rfl) <|
  mc_1 (mk_p (ms_dup (by decide +kernel)) rfl) <|
  mc_1 (mk_p (ms_bipush (n := 40) (by decide +kernel) (by decide +kernel)) rfl) <|
  mc_1 (mk_c (k := mq_64) rfl ⟨mo_64, 11, 328, none, ml_m_LeagueOffice_Squad_11, Or.inr (Or.inl ⟨rfl, (by decide +kernel), ⟨1, rfl, mx_npd (by decide +kernel)⟩, ml_in_114, rfl, rfl⟩)⟩) <| mc_0
theorem mw_86_4 : ∀ e ∈ mt_86_4, mx_Ok mx_MT mq_86 e.1 e.2 := 
  mc_1 (mk_p (ms_putF (idx := 29) (w := 341) mx_c8 (by decide) ml_f_LeagueOffice_Squad_29 rfl rfl rfl rfl (by decide +kernel)) rfl) <|
  mc_1 (mk_p (ms_aload_n (k := 0) (by decide +kernel) rfl) rfl) <|
  mc_1 (mk_p (mn_6 (idx := 9) 327 (by decide +kernel) (by decide +kernel)) rfl) <|
  mc_1 (mk_p (ms_dup (by decide +kernel)) rfl) <|
  mc_1 (mk_p (ms_bipush (n := 40) (by decide +kernel) (by decide +kernel)) rfl) <|
  mc_1 (mk_c (k := mq_64) rfl ⟨mo_64, 11, 328, none, ml_m_LeagueOffice_Squad_11, Or.inr (Or.inl ⟨rfl, (by decide +kernel), ⟨1, rfl, mx_npd (by decide +kernel)⟩, ml_in_114, rfl, rfl⟩)⟩) <|
  mc_1 (mk_p (ms_putF (idx := 32) (w := 343) mx_c8 (by decide) ml_f_LeagueOffice_Squad_32 rfl rfl rfl rfl (by decide +kernel)) rfl) <| mc_0
theorem mw_86_5 : ∀ e ∈ mt_86_5, mx_Ok mx_MT mq_86 e.1 e.2 := 
  mc_1 (mk_p (ms_aload_n (k := 0) (by decide +kernel) rfl) rfl) <|
  mc_1 (mk_p (mn_6 (idx := 9) 327 (by decide +kernel) (by decide +kernel)) rfl) <|
  mc_1 (mk_p (ms_dup (by decide +kernel)) rfl) <|
  mc_1 (mk_p (ms_bipush (n := 60) (by decide +kernel) (by decide +kernel)) rfl) <|
  mc_1 (mk_c (k := mq_64) rfl ⟨mo_64, 11, 328, none, ml_m_LeagueOffice_Squad_11, Or.inr (Or.inl ⟨rfl, (by decide +kernel), ⟨1, rfl, mx_npd (by decide +kernel)⟩, ml_in_114, rfl, rfl⟩)⟩) <|
  mc_1 (mk_p (ms_putF (idx := 35) (w := 345) mx_c8 (by decide) ml_f_LeagueOffice_Squad_35 rfl rfl rfl rfl (by decide +kernel)) rfl) <|
  mc_1 (mk_p (ms_aload_n (k := 0) (by decide +kernel) rfl) rfl) <| mc_0
theorem mw_86_6 : ∀ e ∈ mt_86_6, mx_Ok mx_MT mq_86 e.1 e.2 := 
  mc_1 (mk_p (mn_6 (idx := 9) 327 (by decide +kernel) (by decide +kernel)) rfl) <|
  mc_1 (mk_p (ms_dup (by decide +kernel)) rfl) <|
  mc_1 (mk_p (ms_bipush (n := 60) (by decide +kernel) (by decide +kernel)) rfl) <|
  mc_1 (mk_c (k := mq_64) rfl ⟨mo_64, 11, 328, none, ml_m_LeagueOffice_Squad_11, Or.inr (Or.inl ⟨rfl, (by decide +kernel), ⟨1, rfl, mx_npd (by decide +kernel)⟩, ml_in_114, rfl, rfl⟩)⟩) <|
  mc_1 (mk_p (ms_putF (idx := 38) (w := 347) mx_c8 (by decide) ml_f_LeagueOffice_Squad_38 rfl rfl rfl rfl (by decide +kernel)) rfl) <|
  mc_1 (mk_p (ms_aload_n (k := 0) (by decide +kernel) rfl) rfl) <|
  mc_1 (mk_p (mn_6 (idx := 9) 327 (by decide +kernel) (by decide +kernel)) rfl) <| mc_0
theorem mw_86_7 : ∀ e ∈ mt_86_7, mx_Ok mx_MT mq_86 e.1 e.2 := 
  mc_1 (mk_p (ms_dup (by decide +kernel)) rfl) <|
  mc_1 (mk_p (ms_bipush (n := 60) (by decide +kernel) (by decide +kernel)) rfl) <|
  mc_1 (mk_c (k := mq_64) rfl ⟨mo_64, 11, 328, none, ml_m_LeagueOffice_Squad_11, Or.inr (Or.inl ⟨rfl, (by decide +kernel), ⟨1, rfl, mx_npd (by decide +kernel)⟩, ml_in_114, rfl, rfl⟩)⟩) <|
  mc_1 (mk_p (ms_putF (idx := 41) (w := 349) mx_c8 (by decide) ml_f_LeagueOffice_Squad_41 rfl rfl rfl rfl (by decide +kernel)) rfl) <|
  mc_1 (mk_p (ms_aload_n (k := 0) (by decide +kernel) rfl) rfl) <|
  mc_1 (mk_p (mn_6 (idx := 9) 327 (by decide +kernel) (by decide +kernel)) rfl) <|
  mc_1 (mk_p (ms_dup (by decide +kernel)) rfl) <|
  mc_1 (mk_p (ms_bipush (n := 60) (by decide +kernel) (by decide +kernel)) rfl) <| mc_0
theorem mw_86_8 : ∀ e ∈ mt_86_8, mx_Ok mx_MT mq_86 e.1 e.2 := 
  mc_1 (mk_c (k := mq_64) rfl ⟨mo_64, 11, 328, none, ml_m_LeagueOffice_Squad_11, Or.inr (Or.inl ⟨rfl, (by decide +kernel), ⟨1, rfl, mx_npd (by decide +kernel)⟩, ml_in_114, rfl, rfl⟩)⟩) <|
  mc_1 (mk_p (ms_putF (idx := 44) (w := 350) mx_c8 (by decide) ml_f_LeagueOffice_Squad_44 rfl rfl rfl rfl (by decide +kernel)) rfl) <|
  mc_1 (mk_p (ms_aload_n (k := 0) (by decide +kernel) rfl) rfl) <|
  mc_1 (mk_p (mn_6 (idx := 9) 327 (by decide +kernel) (by decide +kernel)) rfl) <|
  mc_1 (mk_p (ms_dup (by decide +kernel)) rfl) <|
  mc_1 (mk_p (ms_bipush (n := 60) (by decide +kernel) (by decide +kernel)) rfl) <|
  mc_1 (mk_c (k := mq_64) rfl ⟨mo_64, 11, 328, none, ml_m_LeagueOffice_Squad_11, Or.inr (Or.inl ⟨rfl, (by decide +kernel), ⟨1, rfl, mx_npd (by decide +kernel)⟩, ml_in_114, rfl, rfl⟩)⟩) <| mc_0
theorem mw_86_9 : ∀ e ∈ mt_86_9, mx_Ok mx_MT mq_86 e.1 e.2 := 
  mc_1 (mk_p (ms_putF (idx := 47) (w := 351) mx_c8 (by decide) ml_f_LeagueOffice_Squad_47 rfl rfl rfl rfl (by decide +kernel)) rfl) <|
  mc_1 (mk_p (ms_aload_n (k := 0) (by decide +kernel) rfl) rfl) <|
  mc_1 (mk_p (ms_aload_n (k := 1) (by decide +kernel) rfl) rfl) <|
  mc_1 (mk_p (ms_putF (idx := 50) (w := 329) mx_c8 (by decide) ml_f_LeagueOffice_Squad_50 rfl rfl rfl rfl (by decide +kernel)) rfl) <|
  mc_1 (mk_p (ms_aload_n (k := 0) (by decide +kernel) rfl) rfl) <|
  mc_1 (mk_p (ms_aload_n (k := 2) (by decide +kernel) rfl) rfl) <|
  mc_1 (mk_p (ms_putF (idx := 54) (w := 330) mx_c8 (by decide) ml_f_LeagueOffice_Squad_54 rfl rfl rfl rfl (by decide +kernel)) rfl) <|
  mc_1 (mk_r (Or.inr (Or.inr (Or.inr ⟨rfl, by decide +kernel, rfl⟩))) rfl) <| mc_0
theorem mw_86 : ∀ ch ∈ mt_86, ∀ e ∈ ch, mx_Ok mx_MT mq_86 e.1 e.2 := mc_2 mw_86_0 <| mc_2 mw_86_1 <| mc_2 mw_86_2 <| mc_2 mw_86_3 <| mc_2 mw_86_4 <| mc_2 mw_86_5 <| mc_2 mw_86_6 <| mc_2 mw_86_7 <| mc_2 mw_86_8 <| mc_2 mw_86_9 <| mc_3
/- 87 LeagueOffice$Squad.isPlayer(I)Z -/
theorem mw_87_0 : ∀ e ∈ mt_87_0, mx_Ok mx_MT mq_87 e.1 e.2 := 
  mc_1 (mk_p (ms_iload_n (k := 1) (by decide +kernel) rfl) rfl) <|
  mc_1 (mk_p (ms_if_lt (off := (15)) (by decide +kernel) (by decide)) rfl) <|
  mc_1 (mk_p (ms_iload_n (k := 1) (by decide +kernel) rfl) rfl) <|
  mc_1 (mk_p (ms_aload_n (k := 0) (by decide +kernel) rfl) rfl) <|
  mc_1 (mk_p (ms_get (idx := 58) (w := 331) (host := none) mx_c8 (by decide) ml_f_LeagueOffice_Squad_58 (by decide +kernel)) rfl) <|
  mc_1 (mk_p (ms_icmp_ge (off := (7)) (by decide +kernel) (by decide)) rfl) <|
  mc_1 (mk_p (ms_iconst (n := 1) (by decide +kernel) (by decide +kernel)) rfl) <|
  mc_1 (mk_p (ms_goto (off := (4)) (by decide +kernel) (by decide)) rfl) <| mc_0
theorem mw_87_1 : ∀ e ∈ mt_87_1, mx_Ok mx_MT mq_87 e.1 e.2 := 
  mc_1 (mk_p (ms_iconst (n := 0) (by decide +kernel) (by decide +kernel)) rfl) <|
  mc_1 (mk_r (Or.inl ⟨rfl, by decide +kernel, _, rfl, mf_2⟩) rfl) <| mc_0
theorem mw_87 : ∀ ch ∈ mt_87, ∀ e ∈ ch, mx_Ok mx_MT mq_87 e.1 e.2 := mc_2 mw_87_0 <| mc_2 mw_87_1 <| mc_3
/- 88 LeagueOffice$Squad.clubIn(II)I -/
theorem mw_88_0 : ∀ e ∈ mt_88_0, mx_Ok mx_MT mq_88 e.1 e.2 := 
  mc_1 (mk_p (ms_iconst (n := (-1)) (by decide +kernel) (by decide +kernel)) rfl) <|
  mc_1 (mk_p (ms_istore_n (k := 3) (by decide +kernel) rfl (by decide)) rfl) <|
  mc_1 (mk_p (ms_iconst (n := (-1)) (by decide +kernel) (by decide +kernel)) rfl) <|
  mc_1 (mk_p (ms_istore (by decide +kernel) (by decide)) rfl) <|
  mc_1 (mk_p (ms_iconst (n := 0) (by decide +kernel) (by decide +kernel)) rfl) <|
  mc_1 (mk_p (ms_istore (by decide +kernel) (by decide)) rfl) <|
  mc_1 (mk_p (ms_iload (by decide +kernel)) rfl) <|
  mc_1 (mk_p (ms_aload_n (k := 0) (by decide +kernel) rfl) rfl) <|
  mc_1 (mk_p (ms_get (idx := 14) (w := 333) (host := none) mx_c8 (by decide) ml_f_LeagueOffice_Squad_14 (by decide +kernel)) rfl) <|
  mc_1 (mk_c (k := mq_65) rfl ⟨mo_65, 62, 971, none, ml_m_LeagueOffice_Squad_62, Or.inr (Or.inr (Or.inl ⟨6, TX6, 2, by decide, rfl, rfl, (by decide +kernel), ⟨0, rfl, mx_npd (by decide +kernel)⟩, ml_in_587, ml_se_588⟩))⟩) <| mc_0
theorem mw_88_1 : ∀ e ∈ mt_88_1, mx_Ok mx_MT mq_88 e.1 e.2 := 
  mc_1 (mk_p (ms_icmp_ge (off := (60)) (by decide +kernel) (by decide)) rfl) <|
  mc_1 (mk_p (ms_aload_n (k := 0) (by decide +kernel) rfl) rfl) <|
  mc_1 (mk_p (ms_get (idx := 23) (w := 337) (host := none) mx_c8 (by decide) ml_f_LeagueOffice_Squad_23 (by decide +kernel)) rfl) <|
  mc_1 (mk_p (ms_iload (by decide +kernel)) rfl) <|
  mc_1 (mk_c (k := mq_68) rfl ⟨mo_68, 66, 972, none, ml_m_LeagueOffice_Squad_66, Or.inr (Or.inr (Or.inl ⟨6, TX6, 2, by decide, rfl, rfl, (by decide +kernel), ⟨1, rfl, mx_npd (by decide +kernel)⟩, ml_in_591, ml_se_592⟩))⟩) <|
  mc_1 (mk_p (ms_istore (by decide +kernel) (by decide)) rfl) <|
  mc_1 (mk_p (ms_aload_n (k := 0) (by decide +kernel) rfl) rfl) <| mc_0
theorem mw_88_2 : ∀ e ∈ mt_88_2, mx_Ok mx_MT mq_88 e.1 e.2 := 
  mc_1 (mk_p (ms_get (idx := 14) (w := 333) (host := none) mx_c8 (by decide) ml_f_LeagueOffice_Squad_14 (by decide +kernel)) rfl) <|
  mc_1 (mk_p (ms_iload (by decide +kernel)) rfl) <|
  mc_1 (mk_c (k := mq_68) rfl ⟨mo_68, 66, 972, none, ml_m_LeagueOffice_Squad_66, Or.inr (Or.inr (Or.inl ⟨6, TX6, 2, by decide, rfl, rfl, (by decide +kernel), ⟨1, rfl, mx_npd (by decide +kernel)⟩, ml_in_591, ml_se_592⟩))⟩) <|
  mc_1 (mk_p (ms_iload_n (k := 1) (by decide +kernel) rfl) rfl) <|
  mc_1 (mk_p (ms_icmp_ne (off := (30)) (by decide +kernel) (by decide)) rfl) <|
  mc_1 (mk_p (ms_iload (by decide +kernel)) rfl) <|
  mc_1 (mk_p (ms_iload_n (k := 2) (by decide +kernel) rfl) rfl) <|
  mc_1 (mk_p (ms_icmp_gt (off := (24)) (by decide +kernel) (by decide)) rfl) <| mc_0
theorem mw_88_3 : ∀ e ∈ mt_88_3, mx_Ok mx_MT mq_88 e.1 e.2 := 
  mc_1 (mk_p (ms_iload (by decide +kernel)) rfl) <|
  mc_1 (mk_p (ms_iload (by decide +kernel)) rfl) <|
  mc_1 (mk_p (ms_icmp_lt (off := (17)) (by decide +kernel) (by decide)) rfl) <|
  mc_1 (mk_p (ms_iload (by decide +kernel)) rfl) <|
  mc_1 (mk_p (ms_istore (by decide +kernel) (by decide)) rfl) <|
  mc_1 (mk_p (ms_aload_n (k := 0) (by decide +kernel) rfl) rfl) <|
  mc_1 (mk_p (ms_get (idx := 20) (w := 335) (host := none) mx_c8 (by decide) ml_f_LeagueOffice_Squad_20 (by decide +kernel)) rfl) <| mc_0
theorem mw_88_4 : ∀ e ∈ mt_88_4, mx_Ok mx_MT mq_88 e.1 e.2 := 
  mc_1 (mk_p (ms_iload (by decide +kernel)) rfl) <|
  mc_1 (mk_c (k := mq_68) rfl ⟨mo_68, 66, 972, none, ml_m_LeagueOffice_Squad_66, Or.inr (Or.inr (Or.inl ⟨6, TX6, 2, by decide, rfl, rfl, (by decide +kernel), ⟨1, rfl, mx_npd (by decide +kernel)⟩, ml_in_591, ml_se_592⟩))⟩) <|
  mc_1 (mk_p (ms_istore_n (k := 3) (by decide +kernel) rfl (by decide)) rfl) <|
  mc_1 (mk_p (ms_iinc (n := (1)) (by decide +kernel) (by decide +kernel) (by decide)) rfl) <|
  mc_1 (mk_p (ms_goto (off := (-66)) (by decide +kernel) (by decide)) rfl) <|
  mc_1 (mk_p (ms_iload_n (k := 3) (by decide +kernel) rfl) rfl) <|
  mc_1 (mk_r (Or.inl ⟨rfl, by decide +kernel, _, rfl, mf_0⟩) rfl) <| mc_0
theorem mw_88 : ∀ ch ∈ mt_88, ∀ e ∈ ch, mx_Ok mx_MT mq_88 e.1 e.2 := mc_2 mw_88_0 <| mc_2 mw_88_1 <| mc_2 mw_88_2 <| mc_2 mw_88_3 <| mc_2 mw_88_4 <| mc_3
/- 89 LeagueOffice$Squad.cardsTill(I)I -/
theorem mw_89_0 : ∀ e ∈ mt_89_0, mx_Ok mx_MT mq_89 e.1 e.2 := 
  mc_1 (mk_p (ms_iconst (n := 0) (by decide +kernel) (by decide +kernel)) rfl) <|
  mc_1 (mk_p (ms_istore_n (k := 2) (by decide +kernel) rfl (by decide)) rfl) <|
  mc_1 (mk_p (ms_iconst (n := 0) (by decide +kernel) (by decide +kernel)) rfl) <|
  mc_1 (mk_p (ms_istore_n (k := 3) (by decide +kernel) rfl (by decide)) rfl) <|
  mc_1 (mk_p (ms_iload_n (k := 3) (by decide +kernel) rfl) rfl) <|
  mc_1 (mk_p (ms_iload_n (k := 1) (by decide +kernel) rfl) rfl) <|
  mc_1 (mk_p (ms_icmp_gt (off := (42)) (by decide +kernel) (by decide)) rfl) <|
  mc_1 (mk_p (ms_iload_n (k := 3) (by decide +kernel) rfl) rfl) <|
  mc_1 (mk_p (ms_aload_n (k := 0) (by decide +kernel) rfl) rfl) <|
  mc_1 (mk_p (ms_get (idx := 26) (w := 339) (host := none) mx_c8 (by decide) ml_f_LeagueOffice_Squad_26 (by decide +kernel)) rfl) <|
  mc_1 (mk_c (k := mq_65) rfl ⟨mo_65, 62, 971, none, ml_m_LeagueOffice_Squad_62, Or.inr (Or.inr (Or.inl ⟨6, TX6, 2, by decide, rfl, rfl, (by decide +kernel), ⟨0, rfl, mx_npd (by decide +kernel)⟩, ml_in_587, ml_se_588⟩))⟩) <| mc_0
theorem mw_89_1 : ∀ e ∈ mt_89_1, mx_Ok mx_MT mq_89 e.1 e.2 := 
  mc_1 (mk_p (ms_icmp_ge (off := (31)) (by decide +kernel) (by decide)) rfl) <|
  mc_1 (mk_p (ms_aload_n (k := 0) (by decide +kernel) rfl) rfl) <|
  mc_1 (mk_p (ms_get (idx := 26) (w := 339) (host := none) mx_c8 (by decide) ml_f_LeagueOffice_Squad_26 (by decide +kernel)) rfl) <|
  mc_1 (mk_p (ms_iload_n (k := 3) (by decide +kernel) rfl) rfl) <|
  mc_1 (mk_c (k := mq_68) rfl ⟨mo_68, 66, 972, none, ml_m_LeagueOffice_Squad_66, Or.inr (Or.inr (Or.inl ⟨6, TX6, 2, by decide, rfl, rfl, (by decide +kernel), ⟨1, rfl, mx_npd (by decide +kernel)⟩, ml_in_591, ml_se_592⟩))⟩) <|
  mc_1 (mk_p (ms_aload_n (k := 0) (by decide +kernel) rfl) rfl) <|
  mc_1 (mk_p (ms_get (idx := 26) (w := 339) (host := none) mx_c8 (by decide) ml_f_LeagueOffice_Squad_26 (by decide +kernel)) rfl) <| mc_0
theorem mw_89_2 : ∀ e ∈ mt_89_2, mx_Ok mx_MT mq_89 e.1 e.2 := 
  mc_1 (mk_p (ms_iload_n (k := 1) (by decide +kernel) rfl) rfl) <|
  mc_1 (mk_c (k := mq_68) rfl ⟨mo_68, 66, 972, none, ml_m_LeagueOffice_Squad_66, Or.inr (Or.inr (Or.inl ⟨6, TX6, 2, by decide, rfl, rfl, (by decide +kernel), ⟨1, rfl, mx_npd (by decide +kernel)⟩, ml_in_591, ml_se_592⟩))⟩) <|
  mc_1 (mk_p (ms_icmp_ne (off := (6)) (by decide +kernel) (by decide)) rfl) <|
  mc_1 (mk_p (ms_iinc (n := (1)) (by decide +kernel) (by decide +kernel) (by decide)) rfl) <|
  mc_1 (mk_p (ms_iinc (n := (1)) (by decide +kernel) (by decide +kernel) (by decide)) rfl) <|
  mc_1 (mk_p (ms_goto (off := (-41)) (by decide +kernel) (by decide)) rfl) <| mc_0
theorem mw_89_3 : ∀ e ∈ mt_89_3, mx_Ok mx_MT mq_89 e.1 e.2 := 
  mc_1 (mk_p (ms_iload_n (k := 2) (by decide +kernel) rfl) rfl) <|
  mc_1 (mk_r (Or.inl ⟨rfl, by decide +kernel, _, rfl, mf_0⟩) rfl) <| mc_0
theorem mw_89 : ∀ ch ∈ mt_89, ∀ e ∈ ch, mx_Ok mx_MT mq_89 e.1 e.2 := mc_2 mw_89_0 <| mc_2 mw_89_1 <| mc_2 mw_89_2 <| mc_2 mw_89_3 <| mc_3
/- 90 LeagueOffice$Squad.banOf(II)I -/
theorem mw_90_0 : ∀ e ∈ mt_90_0, mx_Ok mx_MT mq_90 e.1 e.2 := 
  mc_1 (mk_p (ms_aload_n (k := 0) (by decide +kernel) rfl) rfl) <|
  mc_1 (mk_p (ms_get (idx := 54) (w := 330) (host := none) mx_c8 (by decide) ml_f_LeagueOffice_Squad_54 (by decide +kernel)) rfl) <|
  mc_1 (mk_p (ms_aload_n (k := 0) (by decide +kernel) rfl) rfl) <|
  mc_1 (mk_p (ms_get (idx := 50) (w := 329) (host := none) mx_c8 (by decide) ml_f_LeagueOffice_Squad_50 (by decide +kernel)) rfl) <|
  mc_1 (mk_p (ms_get (idx := 70) (w := 166) (host := (some "LeagueOffice")) mx_c0 (by decide) ml_f_LeagueOffice_Squad_70 (by decide +kernel)) rfl) <|
  mc_1 (mk_p (ms_aload_n (k := 0) (by decide +kernel) rfl) rfl) <|
  mc_1 (mk_p (ms_get (idx := 29) (w := 341) (host := none) mx_c8 (by decide) ml_f_LeagueOffice_Squad_29 (by decide +kernel)) rfl) <|
  mc_1 (mk_p (ms_iload_n (k := 1) (by decide +kernel) rfl) rfl) <| mc_0
theorem mw_90_1 : ∀ e ∈ mt_90_1, mx_Ok mx_MT mq_90 e.1 e.2 := 
  mc_1 (mk_c (k := mq_68) rfl ⟨mo_68, 66, 972, none, ml_m_LeagueOffice_Squad_66, Or.inr (Or.inr (Or.inl ⟨6, TX6, 2, by decide, rfl, rfl, (by decide +kernel), ⟨1, rfl, mx_npd (by decide +kernel)⟩, ml_in_591, ml_se_592⟩))⟩) <|
  mc_1 (mk_c (k := mq_68) rfl ⟨mo_68, 66, 972, none, ml_m_LeagueOffice_Squad_66, Or.inr (Or.inr (Or.inl ⟨6, TX6, 2, by decide, rfl, rfl, (by decide +kernel), ⟨1, rfl, mx_npd (by decide +kernel)⟩, ml_in_591, ml_se_592⟩))⟩) <|
  mc_1 (mk_p (ms_iload_n (k := 2) (by decide +kernel) rfl) rfl) <|
  mc_1 (mk_p (ms_aload_n (k := 0) (by decide +kernel) rfl) rfl) <|
  mc_1 (mk_p (ms_get (idx := 32) (w := 343) (host := none) mx_c8 (by decide) ml_f_LeagueOffice_Squad_32 (by decide +kernel)) rfl) <|
  mc_1 (mk_p (ms_iload_n (k := 1) (by decide +kernel) rfl) rfl) <|
  mc_1 (mk_c (k := mq_68) rfl ⟨mo_68, 66, 972, none, ml_m_LeagueOffice_Squad_66, Or.inr (Or.inr (Or.inl ⟨6, TX6, 2, by decide, rfl, rfl, (by decide +kernel), ⟨1, rfl, mx_npd (by decide +kernel)⟩, ml_in_591, ml_se_592⟩))⟩) <|
  mc_1 (mk_c (k := mq_115) rfl ⟨mo_115, 75, 990, none, ml_m_LeagueOffice_Squad_75, Or.inr (Or.inr (Or.inl ⟨10, TX10, 8, by decide, rfl, rfl, (by decide +kernel), ⟨3, rfl, mx_npd (by decide +kernel)⟩, ml_in_991, ml_se_992⟩))⟩) <| mc_0
theorem mw_90_2 : ∀ e ∈ mt_90_2, mx_Ok mx_MT mq_90 e.1 e.2 := 
  mc_1 (mk_p (ms_istore_n (k := 3) (by decide +kernel) rfl (by decide)) rfl) <|
  mc_1 (mk_p (ms_iconst (n := 0) (by decide +kernel) (by decide +kernel)) rfl) <|
  mc_1 (mk_p (ms_iconst (n := 5) (by decide +kernel) (by decide +kernel)) rfl) <|
  mc_1 (mk_p (ms_iload_n (k := 3) (by decide +kernel) rfl) rfl) <|
  mc_1 (mk_p (ms_min (idx := 81) 994 995 80 996 (by decide +kernel) (by decide +kernel) (by decide +kernel) (by decide +kernel) (by decide +kernel)) rfl) <|
  mc_1 (mk_p (ms_max (idx := 87) 997 118 80 119 (by decide +kernel) (by decide +kernel) (by decide +kernel) (by decide +kernel) (by decide +kernel)) rfl) <|
  mc_1 (mk_r (Or.inl ⟨rfl, by decide +kernel, _, rfl, mf_0⟩) rfl) <| mc_0
theorem mw_90 : ∀ ch ∈ mt_90, ∀ e ∈ ch, mx_Ok mx_MT mq_90 e.1 e.2 := mc_2 mw_90_0 <| mc_2 mw_90_1 <| mc_2 mw_90_2 <| mc_3
/- 91 LeagueOffice$Squad.holdGames(I)V -/
theorem mw_91_0 : ∀ e ∈ mt_91_0, mx_Ok mx_MT mq_91 e.1 e.2 := 
  mc_1 (mk_p (ms_aload_n (k := 0) (by decide +kernel) rfl) rfl) <|
  mc_1 (mk_p (ms_get (idx := 41) (w := 349) (host := none) mx_c8 (by decide) ml_f_LeagueOffice_Squad_41 (by decide +kernel)) rfl) <|
  mc_1 (mk_p (ms_iconst (n := (-1)) (by decide +kernel) (by decide +kernel)) rfl) <|
  mc_1 (mk_c (k := mq_76) rfl ⟨mo_76, 90, 1010, none, ml_m_LeagueOffice_Squad_90, Or.inr (Or.inr (Or.inl ⟨6, TX6, 2, by decide, rfl, rfl, (by decide +kernel), ⟨1, rfl, mx_npd (by decide +kernel)⟩, ml_in_857, ml_se_858⟩))⟩) <|
  mc_1 (mk_p (ms_iconst (n := 0) (by decide +kernel) (by decide +kernel)) rfl) <|
  mc_1 (mk_p (ms_istore_n (k := 2) (by decide +kernel) rfl (by decide)) rfl) <|
  mc_1 (mk_p (ms_iconst (n := 0) (by decide +kernel) (by decide +kernel)) rfl) <|
  mc_1 (mk_p (ms_istore_n (k := 3) (by decide +kernel) rfl (by decide)) rfl) <|
  mc_1 (mk_p (ms_iload_n (k := 3) (by decide +kernel) rfl) rfl) <|
  mc_1 (mk_p (ms_aload_n (k := 0) (by decide +kernel) rfl) rfl) <|
  mc_1 (mk_p (ms_get (idx := 26) (w := 339) (host := none) mx_c8 (by decide) ml_f_LeagueOffice_Squad_26 (by decide +kernel)) rfl) <| mc_0
theorem mw_91_1 : ∀ e ∈ mt_91_1, mx_Ok mx_MT mq_91 e.1 e.2 := 
  mc_1 (mk_c (k := mq_65) rfl ⟨mo_65, 62, 971, none, ml_m_LeagueOffice_Squad_62, Or.inr (Or.inr (Or.inl ⟨6, TX6, 2, by decide, rfl, rfl, (by decide +kernel), ⟨0, rfl, mx_npd (by decide +kernel)⟩, ml_in_587, ml_se_588⟩))⟩) <|
  mc_1 (mk_p (ms_icmp_ge (off := (38)) (by decide +kernel) (by decide)) rfl) <|
  mc_1 (mk_p (ms_aload_n (k := 0) (by decide +kernel) rfl) rfl) <|
  mc_1 (mk_p (ms_get (idx := 26) (w := 339) (host := none) mx_c8 (by decide) ml_f_LeagueOffice_Squad_26 (by decide +kernel)) rfl) <|
  mc_1 (mk_p (ms_iload_n (k := 3) (by decide +kernel) rfl) rfl) <|
  mc_1 (mk_c (k := mq_68) rfl ⟨mo_68, 66, 972, none, ml_m_LeagueOffice_Squad_66, Or.inr (Or.inr (Or.inl ⟨6, TX6, 2, by decide, rfl, rfl, (by decide +kernel), ⟨1, rfl, mx_npd (by decide +kernel)⟩, ml_in_591, ml_se_592⟩))⟩) <|
  mc_1 (mk_p (ms_iload_n (k := 1) (by decide +kernel) rfl) rfl) <| mc_0
theorem mw_91_2 : ∀ e ∈ mt_91_2, mx_Ok mx_MT mq_91 e.1 e.2 := 
  mc_1 (mk_p (ms_icmp_eq (off := (6)) (by decide +kernel) (by decide)) rfl) <|
  mc_1 (mk_p (ms_goto (off := (17)) (by decide +kernel) (by decide)) rfl) <|
  mc_1 (mk_p (ms_iinc (n := (1)) (by decide +kernel) (by decide +kernel) (by decide)) rfl) <|
  mc_1 (mk_p (ms_aload_n (k := 0) (by decide +kernel) rfl) rfl) <|
  mc_1 (mk_p (ms_iload_n (k := 3) (by decide +kernel) rfl) rfl) <|
  mc_1 (mk_p (ms_aload_n (k := 0) (by decide +kernel) rfl) rfl) <|
  mc_1 (mk_p (ms_iload_n (k := 3) (by decide +kernel) rfl) rfl) <|
  mc_1 (mk_p (ms_iload_n (k := 2) (by decide +kernel) rfl) rfl) <|
  mc_1 (mk_c (k := mq_90) rfl ⟨mo_90, 93, 1011, none, ml_m_LeagueOffice_Squad_93, Or.inr (Or.inr (Or.inl ⟨8, TX8, 14, by decide, rfl, rfl, (by decide +kernel), ⟨2, rfl, mx_npd (by decide +kernel)⟩, ml_in_987, ml_se_988⟩))⟩) <| mc_0
theorem mw_91_3 : ∀ e ∈ mt_91_3, mx_Ok mx_MT mq_91 e.1 e.2 := 
  mc_1 (mk_c (k := mq_92) rfl ⟨mo_92, 96, 1012, none, ml_m_LeagueOffice_Squad_96, Or.inr (Or.inr (Or.inl ⟨8, TX8, 14, by decide, rfl, rfl, (by decide +kernel), ⟨2, rfl, mx_npd (by decide +kernel)⟩, ml_in_1014, ml_se_16⟩))⟩) <|
  mc_1 (mk_p (ms_iinc (n := (1)) (by decide +kernel) (by decide +kernel) (by decide)) rfl) <|
  mc_1 (mk_p (ms_goto (off := (-43)) (by decide +kernel) (by decide)) rfl) <|
  mc_1 (mk_r (Or.inr (Or.inr (Or.inr ⟨rfl, by decide +kernel, rfl⟩))) rfl) <| mc_0
theorem mw_91 : ∀ ch ∈ mt_91, ∀ e ∈ ch, mx_Ok mx_MT mq_91 e.1 e.2 := mc_2 mw_91_0 <| mc_2 mw_91_1 <| mc_2 mw_91_2 <| mc_2 mw_91_3 <| mc_3
/- 92 LeagueOffice$Squad.hold(II)V -/
theorem mw_92_0 : ∀ e ∈ mt_92_0, mx_Ok mx_MT mq_92 e.1 e.2 := 
  mc_1 (mk_p (ms_aload_n (k := 0) (by decide +kernel) rfl) rfl) <|
  mc_1 (mk_p (ms_get (idx := 50) (w := 329) (host := none) mx_c8 (by decide) ml_f_LeagueOffice_Squad_50 (by decide +kernel)) rfl) <|
  mc_1 (mk_p (ms_get (idx := 70) (w := 166) (host := (some "LeagueOffice")) mx_c0 (by decide) ml_f_LeagueOffice_Squad_70 (by decide +kernel)) rfl) <|
  mc_1 (mk_p (ms_aload_n (k := 0) (by decide +kernel) rfl) rfl) <|
  mc_1 (mk_p (ms_get (idx := 29) (w := 341) (host := none) mx_c8 (by decide) ml_f_LeagueOffice_Squad_29 (by decide +kernel)) rfl) <|
  mc_1 (mk_p (ms_iload_n (k := 1) (by decide +kernel) rfl) rfl) <|
  mc_1 (mk_c (k := mq_68) rfl ⟨mo_68, 66, 972, none, ml_m_LeagueOffice_Squad_66, Or.inr (Or.inr (Or.inl ⟨6, TX6, 2, by decide, rfl, rfl, (by decide +kernel), ⟨1, rfl, mx_npd (by decide +kernel)⟩, ml_in_591, ml_se_592⟩))⟩) <|
  mc_1 (mk_c (k := mq_68) rfl ⟨mo_68, 66, 972, none, ml_m_LeagueOffice_Squad_66, Or.inr (Or.inr (Or.inl ⟨6, TX6, 2, by decide, rfl, rfl, (by decide +kernel), ⟨1, rfl, mx_npd (by decide +kernel)⟩, ml_in_591, ml_se_592⟩))⟩) <| mc_0
theorem mw_92_1 : ∀ e ∈ mt_92_1, mx_Ok mx_MT mq_92 e.1 e.2 := 
  mc_1 (mk_p (ms_istore_n (k := 3) (by decide +kernel) rfl (by decide)) rfl) <|
  mc_1 (mk_p (ms_aload_n (k := 0) (by decide +kernel) rfl) rfl) <|
  mc_1 (mk_p (ms_aload_n (k := 0) (by decide +kernel) rfl) rfl) <|
  mc_1 (mk_p (ms_get (idx := 26) (w := 339) (host := none) mx_c8 (by decide) ml_f_LeagueOffice_Squad_26 (by decide +kernel)) rfl) <|
  mc_1 (mk_p (ms_iload_n (k := 1) (by decide +kernel) rfl) rfl) <|
  mc_1 (mk_c (k := mq_68) rfl ⟨mo_68, 66, 972, none, ml_m_LeagueOffice_Squad_66, Or.inr (Or.inr (Or.inl ⟨6, TX6, 2, by decide, rfl, rfl, (by decide +kernel), ⟨1, rfl, mx_npd (by decide +kernel)⟩, ml_in_591, ml_se_592⟩))⟩) <|
  mc_1 (mk_p (ms_iload_n (k := 3) (by decide +kernel) rfl) rfl) <|
  mc_1 (mk_c (k := mq_88) rfl ⟨mo_88, 100, 1016, none, ml_m_LeagueOffice_Squad_100, Or.inr (Or.inr (Or.inl ⟨8, TX8, 14, by decide, rfl, rfl, (by decide +kernel), ⟨2, rfl, mx_npd (by decide +kernel)⟩, ml_in_968, ml_se_969⟩))⟩) <| mc_0
theorem mw_92_2 : ∀ e ∈ mt_92_2, mx_Ok mx_MT mq_92 e.1 e.2 := 
  mc_1 (mk_p (ms_istore (by decide +kernel) (by decide)) rfl) <|
  mc_1 (mk_p (ms_iload (by decide +kernel)) rfl) <|
  mc_1 (mk_p (ms_iconst (n := (-1)) (by decide +kernel) (by decide +kernel)) rfl) <|
  mc_1 (mk_p (ms_icmp_ne (off := (7)) (by decide +kernel) (by decide)) rfl) <|
  mc_1 (mk_p (ms_iconst (n := 0) (by decide +kernel) (by decide +kernel)) rfl) <|
  mc_1 (mk_p (ms_goto (off := (4)) (by decide +kernel) (by decide)) rfl) <|
  mc_1 (mk_p (ms_iload_n (k := 2) (by decide +kernel) rfl) rfl) <|
  mc_1 (mk_p (ms_istore (by decide +kernel) (by decide)) rfl) <|
  mc_1 (mk_p (ms_iconst (n := 0) (by decide +kernel) (by decide +kernel)) rfl) <| mc_0
theorem mw_92_3 : ∀ e ∈ mt_92_3, mx_Ok mx_MT mq_92 e.1 e.2 := 
  mc_1 (mk_p (ms_istore (by decide +kernel) (by decide)) rfl) <|
  mc_1 (mk_p (ms_iload (by decide +kernel)) rfl) <|
  mc_1 (mk_p (ms_aload_n (k := 0) (by decide +kernel) rfl) rfl) <|
  mc_1 (mk_p (ms_get (idx := 50) (w := 329) (host := none) mx_c8 (by decide) ml_f_LeagueOffice_Squad_50 (by decide +kernel)) rfl) <|
  mc_1 (mk_p (ms_get (idx := 103) (w := 171) (host := (some "LeagueOffice")) mx_c0 (by decide) ml_f_LeagueOffice_Squad_103 (by decide +kernel)) rfl) <|
  mc_1 (mk_c (k := mq_65) rfl ⟨mo_65, 62, 971, none, ml_m_LeagueOffice_Squad_62, Or.inr (Or.inr (Or.inl ⟨6, TX6, 2, by decide, rfl, rfl, (by decide +kernel), ⟨0, rfl, mx_npd (by decide +kernel)⟩, ml_in_587, ml_se_588⟩))⟩) <|
  mc_1 (mk_p (ms_icmp_ge (off := (102)) (by decide +kernel) (by decide)) rfl) <| mc_0
theorem mw_92_4 : ∀ e ∈ mt_92_4, mx_Ok mx_MT mq_92 e.1 e.2 := 
  mc_1 (mk_p (ms_iload (by decide +kernel)) rfl) <|
  mc_1 (mk_p (ms_if_le (off := (97)) (by decide +kernel) (by decide)) rfl) <|
  mc_1 (mk_p (ms_aload_n (k := 0) (by decide +kernel) rfl) rfl) <|
  mc_1 (mk_p (ms_get (idx := 50) (w := 329) (host := none) mx_c8 (by decide) ml_f_LeagueOffice_Squad_50 (by decide +kernel)) rfl) <|
  mc_1 (mk_p (ms_get (idx := 103) (w := 171) (host := (some "LeagueOffice")) mx_c0 (by decide) ml_f_LeagueOffice_Squad_103 (by decide +kernel)) rfl) <|
  mc_1 (mk_p (ms_iload (by decide +kernel)) rfl) <|
  mc_1 (mk_c (k := mq_68) rfl ⟨mo_68, 66, 972, none, ml_m_LeagueOffice_Squad_66, Or.inr (Or.inr (Or.inl ⟨6, TX6, 2, by decide, rfl, rfl, (by decide +kernel), ⟨1, rfl, mx_npd (by decide +kernel)⟩, ml_in_591, ml_se_592⟩))⟩) <| mc_0
theorem mw_92_5 : ∀ e ∈ mt_92_5, mx_Ok mx_MT mq_92 e.1 e.2 := 
  mc_1 (mk_p (ms_istore (by decide +kernel) (by decide)) rfl) <|
  mc_1 (mk_p (ms_aload_n (k := 0) (by decide +kernel) rfl) rfl) <|
  mc_1 (mk_p (ms_get (idx := 50) (w := 329) (host := none) mx_c8 (by decide) ml_f_LeagueOffice_Squad_50 (by decide +kernel)) rfl) <|
  mc_1 (mk_p (ms_get (idx := 70) (w := 166) (host := (some "LeagueOffice")) mx_c0 (by decide) ml_f_LeagueOffice_Squad_70 (by decide +kernel)) rfl) <|
  mc_1 (mk_p (ms_iload (by decide +kernel)) rfl) <|
  mc_1 (mk_c (k := mq_68) rfl ⟨mo_68, 66, 972, none, ml_m_LeagueOffice_Squad_66, Or.inr (Or.inr (Or.inl ⟨6, TX6, 2, by decide, rfl, rfl, (by decide +kernel), ⟨1, rfl, mx_npd (by decide +kernel)⟩, ml_in_591, ml_se_592⟩))⟩) <| mc_0
theorem mw_92_6 : ∀ e ∈ mt_92_6, mx_Ok mx_MT mq_92 e.1 e.2 := 
  mc_1 (mk_p (ms_iload_n (k := 3) (by decide +kernel) rfl) rfl) <|
  mc_1 (mk_p (ms_icmp_le (off := (61)) (by decide +kernel) (by decide)) rfl) <|
  mc_1 (mk_p (ms_aload_n (k := 0) (by decide +kernel) rfl) rfl) <|
  mc_1 (mk_p (ms_get (idx := 50) (w := 329) (host := none) mx_c8 (by decide) ml_f_LeagueOffice_Squad_50 (by decide +kernel)) rfl) <|
  mc_1 (mk_p (ms_iload (by decide +kernel)) rfl) <|
  mc_1 (mk_p (ms_iload (by decide +kernel)) rfl) <|
  mc_1 (mk_c (k := mq_5) rfl ⟨mo_5, 106, 1017, none, ml_m_LeagueOffice_Squad_106, Or.inr (Or.inr (Or.inl ⟨0, TX0, 12, by decide, rfl, rfl, (by decide +kernel), ⟨2, rfl, mx_npd (by decide +kernel)⟩, ml_in_1018, ml_se_1019⟩))⟩) <|
  mc_1 (mk_p (ms_if_ne (off := (6)) (by decide +kernel) (by decide)) rfl) <| mc_0
theorem mw_92_7 : ∀ e ∈ mt_92_7, mx_Ok mx_MT mq_92 e.1 e.2 := 
  mc_1 (mk_p (ms_goto (off := (44)) (by decide +kernel) (by decide)) rfl) <|
  mc_1 (mk_p (ms_aload_n (k := 0) (by decide +kernel) rfl) rfl) <|
  mc_1 (mk_p (ms_get (idx := 50) (w := 329) (host := none) mx_c8 (by decide) ml_f_LeagueOffice_Squad_50 (by decide +kernel)) rfl) <|
  mc_1 (mk_p (ms_iload (by decide +kernel)) rfl) <|
  mc_1 (mk_c (k := mq_7) rfl ⟨mo_7, 110, 1021, none, ml_m_LeagueOffice_Squad_110, Or.inr (Or.inr (Or.inl ⟨0, TX0, 12, by decide, rfl, rfl, (by decide +kernel), ⟨1, rfl, mx_npd (by decide +kernel)⟩, ml_in_1022, ml_se_1023⟩))⟩) <|
  mc_1 (mk_p (ms_if_eq (off := (32)) (by decide +kernel) (by decide)) rfl) <| mc_0
theorem mw_92_8 : ∀ e ∈ mt_92_8, mx_Ok mx_MT mq_92 e.1 e.2 := 
  mc_1 (mk_p (ms_aload_n (k := 0) (by decide +kernel) rfl) rfl) <|
  mc_1 (mk_p (ms_get (idx := 41) (w := 349) (host := none) mx_c8 (by decide) ml_f_LeagueOffice_Squad_41 (by decide +kernel)) rfl) <|
  mc_1 (mk_p (ms_iload (by decide +kernel)) rfl) <|
  mc_1 (mk_c (k := mq_68) rfl ⟨mo_68, 66, 972, none, ml_m_LeagueOffice_Squad_66, Or.inr (Or.inr (Or.inl ⟨6, TX6, 2, by decide, rfl, rfl, (by decide +kernel), ⟨1, rfl, mx_npd (by decide +kernel)⟩, ml_in_591, ml_se_592⟩))⟩) <|
  mc_1 (mk_p (ms_iconst (n := (-1)) (by decide +kernel) (by decide +kernel)) rfl) <|
  mc_1 (mk_p (ms_icmp_eq (off := (6)) (by decide +kernel) (by decide)) rfl) <|
  mc_1 (mk_p (ms_goto (off := (16)) (by decide +kernel) (by decide)) rfl) <| mc_0
theorem mw_92_9 : ∀ e ∈ mt_92_9, mx_Ok mx_MT mq_92 e.1 e.2 := 
  mc_1 (mk_p (ms_aload_n (k := 0) (by decide +kernel) rfl) rfl) <|
  mc_1 (mk_p (ms_get (idx := 41) (w := 349) (host := none) mx_c8 (by decide) ml_f_LeagueOffice_Squad_41 (by decide +kernel)) rfl) <|
  mc_1 (mk_p (ms_iload (by decide +kernel)) rfl) <|
  mc_1 (mk_p (ms_iload_n (k := 1) (by decide +kernel) rfl) rfl) <|
  mc_1 (mk_c (k := mq_69) rfl ⟨mo_69, 114, 1026, none, ml_m_LeagueOffice_Squad_114, Or.inr (Or.inr (Or.inl ⟨6, TX6, 2, by decide, rfl, rfl, (by decide +kernel), ⟨2, rfl, mx_npd (by decide +kernel)⟩, ml_in_665, ml_se_666⟩))⟩) <|
  mc_1 (mk_p (ms_iinc (n := (-1)) (by decide +kernel) (by decide +kernel) (by decide)) rfl) <|
  mc_1 (mk_p (ms_iinc (n := (1)) (by decide +kernel) (by decide +kernel) (by decide)) rfl) <| mc_0
theorem mw_92_10 : ∀ e ∈ mt_92_10, mx_Ok mx_MT mq_92 e.1 e.2 := 
  mc_1 (mk_p (ms_goto (off := (-111)) (by decide +kernel) (by decide)) rfl) <|
  mc_1 (mk_r (Or.inr (Or.inr (Or.inr ⟨rfl, by decide +kernel, rfl⟩))) rfl) <| mc_0
theorem mw_92 : ∀ ch ∈ mt_92, ∀ e ∈ ch, mx_Ok mx_MT mq_92 e.1 e.2 := mc_2 mw_92_0 <| mc_2 mw_92_1 <| mc_2 mw_92_2 <| mc_2 mw_92_3 <| mc_2 mw_92_4 <| mc_2 mw_92_5 <| mc_2 mw_92_6 <| mc_2 mw_92_7 <| mc_2 mw_92_8 <| mc_2 mw_92_9 <| mc_2 mw_92_10 <| mc_3
/- 93 LeagueOffice$Squad.heldBy(II)I -/
theorem mw_93_0 : ∀ e ∈ mt_93_0, mx_Ok mx_MT mq_93 e.1 e.2 := 
  mc_1 (mk_p (ms_aload_n (k := 0) (by decide +kernel) rfl) rfl) <|
  mc_1 (mk_p (ms_aload_n (k := 0) (by decide +kernel) rfl) rfl) <|
  mc_1 (mk_p (ms_get (idx := 26) (w := 339) (host := none) mx_c8 (by decide) ml_f_LeagueOffice_Squad_26 (by decide +kernel)) rfl) <|
  mc_1 (mk_p (ms_iload_n (k := 1) (by decide +kernel) rfl) rfl) <|
  mc_1 (mk_c (k := mq_68) rfl ⟨mo_68, 66, 972, none, ml_m_LeagueOffice_Squad_66, Or.inr (Or.inr (Or.inl ⟨6, TX6, 2, by decide, rfl, rfl, (by decide +kernel), ⟨1, rfl, mx_npd (by decide +kernel)⟩, ml_in_591, ml_se_592⟩))⟩) <|
  mc_1 (mk_c (k := mq_91) rfl ⟨mo_91, 117, 1006, none, ml_m_LeagueOffice_Squad_117, Or.inr (Or.inr (Or.inl ⟨8, TX8, 14, by decide, rfl, rfl, (by decide +kernel), ⟨1, rfl, mx_npd (by decide +kernel)⟩, ml_in_1007, ml_se_1008⟩))⟩) <|
  mc_1 (mk_p (ms_iconst (n := 0) (by decide +kernel) (by decide +kernel)) rfl) <|
  mc_1 (mk_p (ms_istore_n (k := 3) (by decide +kernel) rfl (by decide)) rfl) <|
  mc_1 (mk_p (ms_iconst (n := 0) (by decide +kernel) (by decide +kernel)) rfl) <|
  mc_1 (mk_p (ms_istore (by decide +kernel) (by decide)) rfl) <| mc_0
theorem mw_93_1 : ∀ e ∈ mt_93_1, mx_Ok mx_MT mq_93 e.1 e.2 := 
  mc_1 (mk_p (ms_iload (by decide +kernel)) rfl) <|
  mc_1 (mk_p (ms_aload_n (k := 0) (by decide +kernel) rfl) rfl) <|
  mc_1 (mk_p (ms_get (idx := 50) (w := 329) (host := none) mx_c8 (by decide) ml_f_LeagueOffice_Squad_50 (by decide +kernel)) rfl) <|
  mc_1 (mk_p (ms_get (idx := 103) (w := 171) (host := (some "LeagueOffice")) mx_c0 (by decide) ml_f_LeagueOffice_Squad_103 (by decide +kernel)) rfl) <|
  mc_1 (mk_c (k := mq_65) rfl ⟨mo_65, 62, 971, none, ml_m_LeagueOffice_Squad_62, Or.inr (Or.inr (Or.inl ⟨6, TX6, 2, by decide, rfl, rfl, (by decide +kernel), ⟨0, rfl, mx_npd (by decide +kernel)⟩, ml_in_587, ml_se_588⟩))⟩) <|
  mc_1 (mk_p (ms_icmp_ge (off := (50)) (by decide +kernel) (by decide)) rfl) <| mc_0
theorem mw_93_2 : ∀ e ∈ mt_93_2, mx_Ok mx_MT mq_93 e.1 e.2 := 
  mc_1 (mk_p (ms_aload_n (k := 0) (by decide +kernel) rfl) rfl) <|
  mc_1 (mk_p (ms_get (idx := 50) (w := 329) (host := none) mx_c8 (by decide) ml_f_LeagueOffice_Squad_50 (by decide +kernel)) rfl) <|
  mc_1 (mk_p (ms_get (idx := 103) (w := 171) (host := (some "LeagueOffice")) mx_c0 (by decide) ml_f_LeagueOffice_Squad_103 (by decide +kernel)) rfl) <|
  mc_1 (mk_p (ms_iload (by decide +kernel)) rfl) <|
  mc_1 (mk_c (k := mq_68) rfl ⟨mo_68, 66, 972, none, ml_m_LeagueOffice_Squad_66, Or.inr (Or.inr (Or.inl ⟨6, TX6, 2, by decide, rfl, rfl, (by decide +kernel), ⟨1, rfl, mx_npd (by decide +kernel)⟩, ml_in_591, ml_se_592⟩))⟩) <|
  mc_1 (mk_p (ms_istore (by decide +kernel) (by decide)) rfl) <|
  mc_1 (mk_p (ms_aload_n (k := 0) (by decide +kernel) rfl) rfl) <|
  mc_1 (mk_p (ms_get (idx := 41) (w := 349) (host := none) mx_c8 (by decide) ml_f_LeagueOffice_Squad_41 (by decide +kernel)) rfl) <| mc_0
theorem mw_93_3 : ∀ e ∈ mt_93_3, mx_Ok mx_MT mq_93 e.1 e.2 := 
  mc_1 (mk_p (ms_iload (by decide +kernel)) rfl) <|
  mc_1 (mk_c (k := mq_68) rfl ⟨mo_68, 66, 972, none, ml_m_LeagueOffice_Squad_66, Or.inr (Or.inr (Or.inl ⟨6, TX6, 2, by decide, rfl, rfl, (by decide +kernel), ⟨1, rfl, mx_npd (by decide +kernel)⟩, ml_in_591, ml_se_592⟩))⟩) <|
  mc_1 (mk_p (ms_iload_n (k := 1) (by decide +kernel) rfl) rfl) <|
  mc_1 (mk_p (ms_icmp_eq (off := (6)) (by decide +kernel) (by decide)) rfl) <|
  mc_1 (mk_p (ms_goto (off := (14)) (by decide +kernel) (by decide)) rfl) <|
  mc_1 (mk_p (ms_iload_n (k := 3) (by decide +kernel) rfl) rfl) <|
  mc_1 (mk_p (ms_iload_n (k := 2) (by decide +kernel) rfl) rfl) <| mc_0
theorem mw_93_4 : ∀ e ∈ mt_93_4, mx_Ok mx_MT mq_93 e.1 e.2 := 
  mc_1 (mk_p (ms_icmp_ne (off := (6)) (by decide +kernel) (by decide)) rfl) <|
  mc_1 (mk_p (ms_iload (by decide +kernel)) rfl) <|
  mc_1 (mk_r (Or.inl ⟨rfl, by decide +kernel, _, rfl, mf_0⟩) rfl) <|
  mc_1 (mk_p (ms_iinc (n := (1)) (by decide +kernel) (by decide +kernel) (by decide)) rfl) <|
  mc_1 (mk_p (ms_iinc (n := (1)) (by decide +kernel) (by decide +kernel) (by decide)) rfl) <|
  mc_1 (mk_p (ms_goto (off := (-59)) (by decide +kernel) (by decide)) rfl) <|
  mc_1 (mk_p (ms_iconst (n := (-1)) (by decide +kernel) (by decide +kernel)) rfl) <| mc_0
theorem mw_93_5 : ∀ e ∈ mt_93_5, mx_Ok mx_MT mq_93 e.1 e.2 := 
  mc_1 (mk_r (Or.inl ⟨rfl, by decide +kernel, _, rfl, mf_0⟩) rfl) <| mc_0
theorem mw_93 : ∀ ch ∈ mt_93, ∀ e ∈ ch, mx_Ok mx_MT mq_93 e.1 e.2 := mc_2 mw_93_0 <| mc_2 mw_93_1 <| mc_2 mw_93_2 <| mc_2 mw_93_3 <| mc_2 mw_93_4 <| mc_2 mw_93_5 <| mc_3
/- 94 LeagueOffice$Squad.isFree(II)Z -/
theorem mw_94_0 : ∀ e ∈ mt_94_0, mx_Ok mx_MT mq_94 e.1 e.2 := 
  mc_1 (mk_p (ms_aload_n (k := 0) (by decide +kernel) rfl) rfl) <|
  mc_1 (mk_p (ms_iload_n (k := 1) (by decide +kernel) rfl) rfl) <|
  mc_1 (mk_p (ms_aload_n (k := 0) (by decide +kernel) rfl) rfl) <|
  mc_1 (mk_p (ms_get (idx := 50) (w := 329) (host := none) mx_c8 (by decide) ml_f_LeagueOffice_Squad_50 (by decide +kernel)) rfl) <|
  mc_1 (mk_p (ms_get (idx := 70) (w := 166) (host := (some "LeagueOffice")) mx_c0 (by decide) ml_f_LeagueOffice_Squad_70 (by decide +kernel)) rfl) <|
  mc_1 (mk_p (ms_iload_n (k := 2) (by decide +kernel) rfl) rfl) <|
  mc_1 (mk_c (k := mq_68) rfl ⟨mo_68, 66, 972, none, ml_m_LeagueOffice_Squad_66, Or.inr (Or.inr (Or.inl ⟨6, TX6, 2, by decide, rfl, rfl, (by decide +kernel), ⟨1, rfl, mx_npd (by decide +kernel)⟩, ml_in_591, ml_se_592⟩))⟩) <|
  mc_1 (mk_c (k := mq_88) rfl ⟨mo_88, 100, 1016, none, ml_m_LeagueOffice_Squad_100, Or.inr (Or.inr (Or.inl ⟨8, TX8, 14, by decide, rfl, rfl, (by decide +kernel), ⟨2, rfl, mx_npd (by decide +kernel)⟩, ml_in_968, ml_se_969⟩))⟩) <| mc_0
theorem mw_94_1 : ∀ e ∈ mt_94_1, mx_Ok mx_MT mq_94 e.1 e.2 := 
  mc_1 (mk_p (ms_istore_n (k := 3) (by decide +kernel) rfl (by decide)) rfl) <|
  mc_1 (mk_p (ms_iload_n (k := 3) (by decide +kernel) rfl) rfl) <|
  mc_1 (mk_p (ms_iconst (n := (-1)) (by decide +kernel) (by decide +kernel)) rfl) <|
  mc_1 (mk_p (ms_icmp_eq (off := (31)) (by decide +kernel) (by decide)) rfl) <|
  mc_1 (mk_p (ms_aload_n (k := 0) (by decide +kernel) rfl) rfl) <|
  mc_1 (mk_p (ms_get (idx := 50) (w := 329) (host := none) mx_c8 (by decide) ml_f_LeagueOffice_Squad_50 (by decide +kernel)) rfl) <|
  mc_1 (mk_p (ms_iload_n (k := 2) (by decide +kernel) rfl) rfl) <|
  mc_1 (mk_p (ms_iload_n (k := 3) (by decide +kernel) rfl) rfl) <|
  mc_1 (mk_c (k := mq_5) rfl ⟨mo_5, 106, 1017, none, ml_m_LeagueOffice_Squad_106, Or.inr (Or.inr (Or.inl ⟨0, TX0, 12, by decide, rfl, rfl, (by decide +kernel), ⟨2, rfl, mx_npd (by decide +kernel)⟩, ml_in_1018, ml_se_1019⟩))⟩) <|
  mc_1 (mk_p (ms_if_eq (off := (19)) (by decide +kernel) (by decide)) rfl) <| mc_0
theorem mw_94_2 : ∀ e ∈ mt_94_2, mx_Ok mx_MT mq_94 e.1 e.2 := 
  mc_1 (mk_p (ms_aload_n (k := 0) (by decide +kernel) rfl) rfl) <|
  mc_1 (mk_p (ms_get (idx := 41) (w := 349) (host := none) mx_c8 (by decide) ml_f_LeagueOffice_Squad_41 (by decide +kernel)) rfl) <|
  mc_1 (mk_p (ms_iload_n (k := 2) (by decide +kernel) rfl) rfl) <|
  mc_1 (mk_c (k := mq_68) rfl ⟨mo_68, 66, 972, none, ml_m_LeagueOffice_Squad_66, Or.inr (Or.inr (Or.inl ⟨6, TX6, 2, by decide, rfl, rfl, (by decide +kernel), ⟨1, rfl, mx_npd (by decide +kernel)⟩, ml_in_591, ml_se_592⟩))⟩) <|
  mc_1 (mk_p (ms_iconst (n := (-1)) (by decide +kernel) (by decide +kernel)) rfl) <|
  mc_1 (mk_p (ms_icmp_ne (off := (7)) (by decide +kernel) (by decide)) rfl) <|
  mc_1 (mk_p (ms_iconst (n := 1) (by decide +kernel) (by decide +kernel)) rfl) <|
  mc_1 (mk_p (ms_goto (off := (4)) (by decide +kernel) (by decide)) rfl) <| mc_0
theorem mw_94_3 : ∀ e ∈ mt_94_3, mx_Ok mx_MT mq_94 e.1 e.2 := 
  mc_1 (mk_p (ms_iconst (n := 0) (by decide +kernel) (by decide +kernel)) rfl) <|
  mc_1 (mk_r (Or.inl ⟨rfl, by decide +kernel, _, rfl, mf_2⟩) rfl) <| mc_0
theorem mw_94 : ∀ ch ∈ mt_94, ∀ e ∈ ch, mx_Ok mx_MT mq_94 e.1 e.2 := mc_2 mw_94_0 <| mc_2 mw_94_1 <| mc_2 mw_94_2 <| mc_2 mw_94_3 <| mc_3
/- 95 LeagueOffice$Squad.hasPlayed(II)Z -/
theorem mw_95_0 : ∀ e ∈ mt_95_0, mx_Ok mx_MT mq_95 e.1 e.2 := 
  mc_1 (mk_p (ms_iconst (n := 0) (by decide +kernel) (by decide +kernel)) rfl) <|
  mc_1 (mk_p (ms_istore_n (k := 3) (by decide +kernel) rfl (by decide)) rfl) <|
  mc_1 (mk_p (ms_iload_n (k := 3) (by decide +kernel) rfl) rfl) <|
  mc_1 (mk_p (ms_aload_n (k := 0) (by decide +kernel) rfl) rfl) <|
  mc_1 (mk_p (ms_get (idx := 35) (w := 345) (host := none) mx_c8 (by decide) ml_f_LeagueOffice_Squad_35 (by decide +kernel)) rfl) <|
  mc_1 (mk_c (k := mq_65) rfl ⟨mo_65, 62, 971, none, ml_m_LeagueOffice_Squad_62, Or.inr (Or.inr (Or.inl ⟨6, TX6, 2, by decide, rfl, rfl, (by decide +kernel), ⟨0, rfl, mx_npd (by decide +kernel)⟩, ml_in_587, ml_se_588⟩))⟩) <|
  mc_1 (mk_p (ms_icmp_ge (off := (35)) (by decide +kernel) (by decide)) rfl) <|
  mc_1 (mk_p (ms_aload_n (k := 0) (by decide +kernel) rfl) rfl) <|
  mc_1 (mk_p (ms_get (idx := 35) (w := 345) (host := none) mx_c8 (by decide) ml_f_LeagueOffice_Squad_35 (by decide +kernel)) rfl) <| mc_0
theorem mw_95_1 : ∀ e ∈ mt_95_1, mx_Ok mx_MT mq_95 e.1 e.2 := 
  mc_1 (mk_p (ms_iload_n (k := 3) (by decide +kernel) rfl) rfl) <|
  mc_1 (mk_c (k := mq_68) rfl ⟨mo_68, 66, 972, none, ml_m_LeagueOffice_Squad_66, Or.inr (Or.inr (Or.inl ⟨6, TX6, 2, by decide, rfl, rfl, (by decide +kernel), ⟨1, rfl, mx_npd (by decide +kernel)⟩, ml_in_591, ml_se_592⟩))⟩) <|
  mc_1 (mk_p (ms_iload_n (k := 1) (by decide +kernel) rfl) rfl) <|
  mc_1 (mk_p (ms_icmp_ne (off := (17)) (by decide +kernel) (by decide)) rfl) <|
  mc_1 (mk_p (ms_aload_n (k := 0) (by decide +kernel) rfl) rfl) <|
  mc_1 (mk_p (ms_get (idx := 38) (w := 347) (host := none) mx_c8 (by decide) ml_f_LeagueOffice_Squad_38 (by decide +kernel)) rfl) <|
  mc_1 (mk_p (ms_iload_n (k := 3) (by decide +kernel) rfl) rfl) <|
  mc_1 (mk_c (k := mq_68) rfl ⟨mo_68, 66, 972, none, ml_m_LeagueOffice_Squad_66, Or.inr (Or.inr (Or.inl ⟨6, TX6, 2, by decide, rfl, rfl, (by decide +kernel), ⟨1, rfl, mx_npd (by decide +kernel)⟩, ml_in_591, ml_se_592⟩))⟩) <| mc_0
theorem mw_95_2 : ∀ e ∈ mt_95_2, mx_Ok mx_MT mq_95 e.1 e.2 := 
  mc_1 (mk_p (ms_iload_n (k := 2) (by decide +kernel) rfl) rfl) <|
  mc_1 (mk_p (ms_icmp_ne (off := (5)) (by decide +kernel) (by decide)) rfl) <|
  mc_1 (mk_p (ms_iconst (n := 1) (by decide +kernel) (by decide +kernel)) rfl) <|
  mc_1 (mk_r (Or.inl ⟨rfl, by decide +kernel, _, rfl, mf_2⟩) rfl) <|
  mc_1 (mk_p (ms_iinc (n := (1)) (by decide +kernel) (by decide +kernel) (by decide)) rfl) <|
  mc_1 (mk_p (ms_goto (off := (-40)) (by decide +kernel) (by decide)) rfl) <|
  mc_1 (mk_p (ms_iconst (n := 0) (by decide +kernel) (by decide +kernel)) rfl) <|
  mc_1 (mk_r (Or.inl ⟨rfl, by decide +kernel, _, rfl, mf_2⟩) rfl) <| mc_0
theorem mw_95 : ∀ ch ∈ mt_95, ∀ e ∈ ch, mx_Ok mx_MT mq_95 e.1 e.2 := mc_2 mw_95_0 <| mc_2 mw_95_1 <| mc_2 mw_95_2 <| mc_3
/- 96 LeagueOffice$Squad.listWrongs()V -/
theorem mw_96_0 : ∀ e ∈ mt_96_0, mx_Ok mx_MT mq_96 e.1 e.2 := 
  mc_1 (mk_p (ms_aload_n (k := 0) (by decide +kernel) rfl) rfl) <|
  mc_1 (mk_p (ms_get (idx := 44) (w := 350) (host := none) mx_c8 (by decide) ml_f_LeagueOffice_Squad_44 (by decide +kernel)) rfl) <|
  mc_1 (mk_p (ms_iconst (n := 0) (by decide +kernel) (by decide +kernel)) rfl) <|
  mc_1 (mk_c (k := mq_76) rfl ⟨mo_76, 90, 1010, none, ml_m_LeagueOffice_Squad_90, Or.inr (Or.inr (Or.inl ⟨6, TX6, 2, by decide, rfl, rfl, (by decide +kernel), ⟨1, rfl, mx_npd (by decide +kernel)⟩, ml_in_857, ml_se_858⟩))⟩) <|
  mc_1 (mk_p (ms_iconst (n := 0) (by decide +kernel) (by decide +kernel)) rfl) <|
  mc_1 (mk_p (ms_istore_n (k := 1) (by decide +kernel) rfl (by decide)) rfl) <|
  mc_1 (mk_p (ms_iload_n (k := 1) (by decide +kernel) rfl) rfl) <|
  mc_1 (mk_p (ms_aload_n (k := 0) (by decide +kernel) rfl) rfl) <|
  mc_1 (mk_p (ms_get (idx := 58) (w := 331) (host := none) mx_c8 (by decide) ml_f_LeagueOffice_Squad_58 (by decide +kernel)) rfl) <|
  mc_1 (mk_p (ms_icmp_ge (off := (72)) (by decide +kernel) (by decide)) rfl) <| mc_0
theorem mw_96_1 : ∀ e ∈ mt_96_1, mx_Ok mx_MT mq_96 e.1 e.2 := 
  mc_1 (mk_p (ms_aload_n (k := 0) (by decide +kernel) rfl) rfl) <|
  mc_1 (mk_p (ms_iload_n (k := 1) (by decide +kernel) rfl) rfl) <|
  mc_1 (mk_c (k := mq_91) rfl ⟨mo_91, 117, 1006, none, ml_m_LeagueOffice_Squad_117, Or.inr (Or.inr (Or.inl ⟨8, TX8, 14, by decide, rfl, rfl, (by decide +kernel), ⟨1, rfl, mx_npd (by decide +kernel)⟩, ml_in_1007, ml_se_1008⟩))⟩) <|
  mc_1 (mk_p (ms_iconst (n := 0) (by decide +kernel) (by decide +kernel)) rfl) <|
  mc_1 (mk_p (ms_istore_n (k := 2) (by decide +kernel) rfl (by decide)) rfl) <|
  mc_1 (mk_p (ms_iload_n (k := 2) (by decide +kernel) rfl) rfl) <|
  mc_1 (mk_p (ms_aload_n (k := 0) (by decide +kernel) rfl) rfl) <|
  mc_1 (mk_p (ms_get (idx := 35) (w := 345) (host := none) mx_c8 (by decide) ml_f_LeagueOffice_Squad_35 (by decide +kernel)) rfl) <|
  mc_1 (mk_c (k := mq_65) rfl ⟨mo_65, 62, 971, none, ml_m_LeagueOffice_Squad_62, Or.inr (Or.inr (Or.inl ⟨6, TX6, 2, by decide, rfl, rfl, (by decide +kernel), ⟨0, rfl, mx_npd (by decide +kernel)⟩, ml_in_587, ml_se_588⟩))⟩) <| mc_0
theorem mw_96_2 : ∀ e ∈ mt_96_2, mx_Ok mx_MT mq_96 e.1 e.2 := 
  mc_1 (mk_p (ms_icmp_ge (off := (48)) (by decide +kernel) (by decide)) rfl) <|
  mc_1 (mk_p (ms_aload_n (k := 0) (by decide +kernel) rfl) rfl) <|
  mc_1 (mk_p (ms_get (idx := 38) (w := 347) (host := none) mx_c8 (by decide) ml_f_LeagueOffice_Squad_38 (by decide +kernel)) rfl) <|
  mc_1 (mk_p (ms_iload_n (k := 2) (by decide +kernel) rfl) rfl) <|
  mc_1 (mk_c (k := mq_68) rfl ⟨mo_68, 66, 972, none, ml_m_LeagueOffice_Squad_66, Or.inr (Or.inr (Or.inl ⟨6, TX6, 2, by decide, rfl, rfl, (by decide +kernel), ⟨1, rfl, mx_npd (by decide +kernel)⟩, ml_in_591, ml_se_592⟩))⟩) <|
  mc_1 (mk_p (ms_istore_n (k := 3) (by decide +kernel) rfl (by decide)) rfl) <|
  mc_1 (mk_p (ms_aload_n (k := 0) (by decide +kernel) rfl) rfl) <|
  mc_1 (mk_p (ms_get (idx := 35) (w := 345) (host := none) mx_c8 (by decide) ml_f_LeagueOffice_Squad_35 (by decide +kernel)) rfl) <| mc_0
theorem mw_96_3 : ∀ e ∈ mt_96_3, mx_Ok mx_MT mq_96 e.1 e.2 := 
  mc_1 (mk_p (ms_iload_n (k := 2) (by decide +kernel) rfl) rfl) <|
  mc_1 (mk_c (k := mq_68) rfl ⟨mo_68, 66, 972, none, ml_m_LeagueOffice_Squad_66, Or.inr (Or.inr (Or.inl ⟨6, TX6, 2, by decide, rfl, rfl, (by decide +kernel), ⟨1, rfl, mx_npd (by decide +kernel)⟩, ml_in_591, ml_se_592⟩))⟩) <|
  mc_1 (mk_p (ms_iload_n (k := 1) (by decide +kernel) rfl) rfl) <|
  mc_1 (mk_p (ms_icmp_ne (off := (21)) (by decide +kernel) (by decide)) rfl) <|
  mc_1 (mk_p (ms_aload_n (k := 0) (by decide +kernel) rfl) rfl) <|
  mc_1 (mk_p (ms_iload_n (k := 1) (by decide +kernel) rfl) rfl) <|
  mc_1 (mk_p (ms_iload_n (k := 3) (by decide +kernel) rfl) rfl) <|
  mc_1 (mk_c (k := mq_94) rfl ⟨mo_94, 120, 1052, none, ml_m_LeagueOffice_Squad_120, Or.inr (Or.inr (Or.inl ⟨8, TX8, 14, by decide, rfl, rfl, (by decide +kernel), ⟨2, rfl, mx_npd (by decide +kernel)⟩, ml_in_1033, ml_se_1034⟩))⟩) <|
  mc_1 (mk_p (ms_if_ne (off := (12)) (by decide +kernel) (by decide)) rfl) <| mc_0
theorem mw_96_4 : ∀ e ∈ mt_96_4, mx_Ok mx_MT mq_96 e.1 e.2 := 
  mc_1 (mk_p (ms_aload_n (k := 0) (by decide +kernel) rfl) rfl) <|
  mc_1 (mk_p (ms_get (idx := 44) (w := 350) (host := none) mx_c8 (by decide) ml_f_LeagueOffice_Squad_44 (by decide +kernel)) rfl) <|
  mc_1 (mk_p (ms_iload_n (k := 3) (by decide +kernel) rfl) rfl) <|
  mc_1 (mk_p (ms_iconst (n := 1) (by decide +kernel) (by decide +kernel)) rfl) <|
  mc_1 (mk_c (k := mq_69) rfl ⟨mo_69, 114, 1026, none, ml_m_LeagueOffice_Squad_114, Or.inr (Or.inr (Or.inl ⟨6, TX6, 2, by decide, rfl, rfl, (by decide +kernel), ⟨2, rfl, mx_npd (by decide +kernel)⟩, ml_in_665, ml_se_666⟩))⟩) <|
  mc_1 (mk_p (ms_iinc (n := (1)) (by decide +kernel) (by decide +kernel) (by decide)) rfl) <|
  mc_1 (mk_p (ms_goto (off := (-53)) (by decide +kernel) (by decide)) rfl) <| mc_0
theorem mw_96_5 : ∀ e ∈ mt_96_5, mx_Ok mx_MT mq_96 e.1 e.2 := 
  mc_1 (mk_p (ms_iinc (n := (1)) (by decide +kernel) (by decide +kernel) (by decide)) rfl) <|
  mc_1 (mk_p (ms_goto (off := (-74)) (by decide +kernel) (by decide)) rfl) <|
  mc_1 (mk_p (ms_aload_n (k := 0) (by decide +kernel) rfl) rfl) <|
  mc_1 (mk_p (ms_get (idx := 47) (w := 351) (host := none) mx_c8 (by decide) ml_f_LeagueOffice_Squad_47 (by decide +kernel)) rfl) <|
  mc_1 (mk_c (k := mq_75) rfl ⟨mo_75, 123, 1053, none, ml_m_LeagueOffice_Squad_123, Or.inr (Or.inr (Or.inl ⟨6, TX6, 2, by decide, rfl, rfl, (by decide +kernel), ⟨0, rfl, mx_npd (by decide +kernel)⟩, ml_in_579, ml_se_580⟩))⟩) <|
  mc_1 (mk_p (ms_iconst (n := 0) (by decide +kernel) (by decide +kernel)) rfl) <|
  mc_1 (mk_p (ms_istore_n (k := 1) (by decide +kernel) rfl (by decide)) rfl) <| mc_0
theorem mw_96_6 : ∀ e ∈ mt_96_6, mx_Ok mx_MT mq_96 e.1 e.2 := 
  mc_1 (mk_p (ms_iload_n (k := 1) (by decide +kernel) rfl) rfl) <|
  mc_1 (mk_p (ms_aload_n (k := 0) (by decide +kernel) rfl) rfl) <|
  mc_1 (mk_p (ms_get (idx := 50) (w := 329) (host := none) mx_c8 (by decide) ml_f_LeagueOffice_Squad_50 (by decide +kernel)) rfl) <|
  mc_1 (mk_p (ms_get (idx := 126) (w := 148) (host := (some "LeagueOffice")) mx_c0 (by decide) ml_f_LeagueOffice_Squad_126 (by decide +kernel)) rfl) <|
  mc_1 (mk_c (k := mq_65) rfl ⟨mo_65, 62, 971, none, ml_m_LeagueOffice_Squad_62, Or.inr (Or.inr (Or.inl ⟨6, TX6, 2, by decide, rfl, rfl, (by decide +kernel), ⟨0, rfl, mx_npd (by decide +kernel)⟩, ml_in_587, ml_se_588⟩))⟩) <|
  mc_1 (mk_p (ms_icmp_ge (off := (30)) (by decide +kernel) (by decide)) rfl) <|
  mc_1 (mk_p (ms_aload_n (k := 0) (by decide +kernel) rfl) rfl) <|
  mc_1 (mk_p (ms_get (idx := 44) (w := 350) (host := none) mx_c8 (by decide) ml_f_LeagueOffice_Squad_44 (by decide +kernel)) rfl) <| mc_0
theorem mw_96_7 : ∀ e ∈ mt_96_7, mx_Ok mx_MT mq_96 e.1 e.2 := 
  mc_1 (mk_p (ms_iload_n (k := 1) (by decide +kernel) rfl) rfl) <|
  mc_1 (mk_c (k := mq_68) rfl ⟨mo_68, 66, 972, none, ml_m_LeagueOffice_Squad_66, Or.inr (Or.inr (Or.inl ⟨6, TX6, 2, by decide, rfl, rfl, (by decide +kernel), ⟨1, rfl, mx_npd (by decide +kernel)⟩, ml_in_591, ml_se_592⟩))⟩) <|
  mc_1 (mk_p (ms_iconst (n := 1) (by decide +kernel) (by decide +kernel)) rfl) <|
  mc_1 (mk_p (ms_icmp_ne (off := (12)) (by decide +kernel) (by decide)) rfl) <|
  mc_1 (mk_p (ms_aload_n (k := 0) (by decide +kernel) rfl) rfl) <|
  mc_1 (mk_p (ms_get (idx := 47) (w := 351) (host := none) mx_c8 (by decide) ml_f_LeagueOffice_Squad_47 (by decide +kernel)) rfl) <|
  mc_1 (mk_p (ms_iload_n (k := 1) (by decide +kernel) rfl) rfl) <|
  mc_1 (mk_c (k := mq_71) rfl ⟨mo_71, 129, 1054, none, ml_m_LeagueOffice_Squad_129, Or.inr (Or.inr (Or.inl ⟨6, TX6, 2, by decide, rfl, rfl, (by decide +kernel), ⟨1, rfl, mx_npd (by decide +kernel)⟩, ml_in_567, ml_se_568⟩))⟩) <| mc_0
theorem mw_96_8 : ∀ e ∈ mt_96_8, mx_Ok mx_MT mq_96 e.1 e.2 := 
  mc_1 (mk_p (ms_pop (by decide +kernel)) rfl) <|
  mc_1 (mk_p (ms_iinc (n := (1)) (by decide +kernel) (by decide +kernel) (by decide)) rfl) <|
  mc_1 (mk_p (ms_goto (off := (-38)) (by decide +kernel) (by decide)) rfl) <|
  mc_1 (mk_r (Or.inr (Or.inr (Or.inr ⟨rfl, by decide +kernel, rfl⟩))) rfl) <| mc_0
theorem mw_96 : ∀ ch ∈ mt_96, ∀ e ∈ ch, mx_Ok mx_MT mq_96 e.1 e.2 := mc_2 mw_96_0 <| mc_2 mw_96_1 <| mc_2 mw_96_2 <| mc_2 mw_96_3 <| mc_2 mw_96_4 <| mc_2 mw_96_5 <| mc_2 mw_96_6 <| mc_2 mw_96_7 <| mc_2 mw_96_8 <| mc_3
/- 97 LeagueOffice$Tables.<init>(LLeagueOffice$Book;LLeagueOffice$Texts;)V -/
theorem mw_97_0 : ∀ e ∈ mt_97_0, mx_Ok mx_MT mq_97 e.1 e.2 := 
  mc_1 (mk_p (ms_aload_n (k := 0) (by decide +kernel) rfl) rfl) <|
  mc_1 (mk_p (ms_obj (idx := 3) 277 103 104 (by decide +kernel) (by decide +kernel) (by decide +kernel) (by decide +kernel)) rfl) <|
  mc_1 (mk_p (ms_aload_n (k := 0) (by decide +kernel) rfl) rfl) <|
  mc_1 (mk_p (mn_6 (idx := 9) 278 (by decide +kernel) (by decide +kernel)) rfl) <|
  mc_1 (mk_p (ms_dup (by decide +kernel)) rfl) <|
  mc_1 (mk_p (ms_bipush (n := 30) (by decide +kernel) (by decide +kernel)) rfl) <|
  mc_1 (mk_c (k := mq_64) rfl ⟨mo_64, 11, 279, none, ml_m_LeagueOffice_Tables_11, Or.inr (Or.inl ⟨rfl, (by decide +kernel), ⟨1, rfl, mx_npd (by decide +kernel)⟩, ml_in_114, rfl, rfl⟩)⟩) <|
  mc_1 (mk_p (ms_putF (idx := 14) (w := 282) mx_c9 (by decide) ml_f_LeagueOffice_Tables_14 rfl rfl rfl rfl (by decide +kernel)) rfl) <| mc_0
theorem mw_97_1 : ∀ e ∈ mt_97_1, mx_Ok mx_MT mq_97 e.1 e.2 := 
  mc_1 (mk_p (ms_aload_n (k := 0) (by decide +kernel) rfl) rfl) <|
  mc_1 (mk_p (mn_6 (idx := 9) 278 (by decide +kernel) (by decide +kernel)) rfl) <|
  mc_1 (mk_p (ms_dup (by decide +kernel)) rfl) <|
  mc_1 (mk_p (ms_bipush (n := 30) (by decide +kernel) (by decide +kernel)) rfl) <|
  mc_1 (mk_c (k := mq_64) rfl ⟨mo_64, 11, 279, none, ml_m_LeagueOffice_Tables_11, Or.inr (Or.inl ⟨rfl, (by decide +kernel), ⟨1, rfl, mx_npd (by decide +kernel)⟩, ml_in_114, rfl, rfl⟩)⟩) <|
  mc_1 (mk_p (ms_putF (idx := 20) (w := 284) mx_c9 (by decide) ml_f_LeagueOffice_Tables_20 rfl rfl rfl rfl (by decide +kernel)) rfl) <|
  mc_1 (mk_p (ms_aload_n (k := 0) (by decide +kernel) rfl) rfl) <|
  mc_1 (mk_p (mn_6 (idx := 9) 278 (by decide +kernel) (by decide +kernel)) rfl) <| mc_0
theorem mw_97_2 : ∀ e ∈ mt_97_2, mx_Ok mx_MT mq_97 e.1 e.2 := 
  mc_1 (mk_p (ms_dup (by decide +kernel)) rfl) <|
  mc_1 (mk_p (ms_bipush (n := 30) (by decide +kernel) (by decide +kernel)) rfl) <|
  mc_1 (mk_c (k := mq_64) rfl ⟨mo_64, 11, 279, none, ml_m_LeagueOffice_Tables_11, Or.inr (Or.inl ⟨rfl, (by decide +kernel), ⟨1, rfl, mx_npd (by decide +kernel)⟩, ml_in_114, rfl, rfl⟩)⟩) <|
  mc_1 (mk_p (ms_putF (idx := 23) (w := 286) mx_c9 (by decide) ml_f_LeagueOffice_Tables_23 rfl rfl rfl rfl (by decide +kernel)) rfl) <|
  mc_1 (mk_p (ms_aload_n (k := 0) (by decide +kernel) rfl) rfl) <|
  mc_1 (mk_p (ms_bipush (n := 12) (by decide +kernel) (by decide +kernel)) rfl) <|
  mc_1 (mk_p (ms_newa (at' := .long) 320 (by decide) rfl (by decide +kernel) (by decide) (by decide +kernel)) rfl) <| mc_0
theorem mw_97_3 : ∀ e ∈ mt_97_3, mx_Ok mx_MT mq_97 e.1 e.2 := 
  mc_1 (mk_p (ms_putF (idx := 26) (w := 288) mx_c9 (by decide) ml_f_LeagueOffice_Tables_26 rfl rfl rfl rfl (by decide +kernel)) rfl) <|
  mc_1 (mk_p (ms_aload_n (k := 0) (by decide +kernel) rfl) rfl) <|
  mc_1 (mk_p (mn_6 (idx := 9) 278 (by decide +kernel) (by decide +kernel)) rfl) <|
  mc_1 (mk_p (ms_dup (by decide +kernel)) rfl) <|
  mc_1 (mk_p (ms_bipush (n := 12) (by decide +kernel) (by decide +kernel)) rfl) <|
  mc_1 (mk_c (k := mq_64) rfl ⟨mo_64, 11, 279, none, ml_m_LeagueOffice_Tables_11, Or.inr (Or.inl ⟨rfl, (by decide +kernel), ⟨1, rfl, mx_npd (by decide +kernel)⟩, ml_in_114, rfl, rfl⟩)⟩) <|
  mc_1 (mk_p (ms_putF (idx := 30) (w := 289) mx_c9 (by decide) ml_f_LeagueOffice_Tables_30 rfl rfl rfl rfl (by decide +kernel)) rfl) <| mc_0
theorem mw_97_4 : ∀ e ∈ mt_97_4, mx_Ok mx_MT mq_97 e.1 e.2 := 
  mc_1 (mk_p (ms_aload_n (k := 0) (by decide +kernel) rfl) rfl) <|
  mc_1 (mk_p (mn_6 (idx := 9) 278 (by decide +kernel) (by decide +kernel)) rfl) <|
  mc_1 (mk_p (ms_dup (by decide +kernel)) rfl) <|
  mc_1 (mk_p (ms_bipush (n := 12) (by decide +kernel) (by decide +kernel)) rfl) <|
  mc_1 (mk_c (k := mq_64) rfl ⟨mo_64, 11, 279, none, ml_m_LeagueOffice_Tables_11, Or.inr (Or.inl ⟨rfl, (by decide +kernel), ⟨1, rfl, mx_npd (by decide +kernel)⟩, ml_in_114, rfl, rfl⟩)⟩) <|
  mc_1 (mk_p (ms_putF (idx := 33) (w := 290) mx_c9 (by decide) ml_f_LeagueOffice_Tables_33 rfl rfl rfl rfl (by decide +kernel)) rfl) <|
  mc_1 (mk_p (ms_aload_n (k := 0) (by decide +kernel) rfl) rfl) <|
  mc_1 (mk_p (mn_6 (idx := 9) 278 (by decide +kernel) (by decide +kernel)) rfl) <| mc_0
theorem mw_97_5 : ∀ e ∈ mt_97_5, mx_Ok mx_MT mq_97 e.1 e.2 := 
  mc_1 (mk_p (ms_dup (by decide +kernel)) rfl) <|
  mc_1 (mk_p (ms_bipush (n := 12) (by decide +kernel) (by decide +kernel)) rfl) <|
  mc_1 (mk_c (k := mq_64) rfl ⟨mo_64, 11, 279, none, ml_m_LeagueOffice_Tables_11, Or.inr (Or.inl ⟨rfl, (by decide +kernel), ⟨1, rfl, mx_npd (by decide +kernel)⟩, ml_in_114, rfl, rfl⟩)⟩) <|
  mc_1 (mk_p (ms_putF (idx := 36) (w := 291) mx_c9 (by decide) ml_f_LeagueOffice_Tables_36 rfl rfl rfl rfl (by decide +kernel)) rfl) <|
  mc_1 (mk_p (ms_aload_n (k := 0) (by decide +kernel) rfl) rfl) <|
  mc_1 (mk_p (mn_6 (idx := 9) 278 (by decide +kernel) (by decide +kernel)) rfl) <|
  mc_1 (mk_p (ms_dup (by decide +kernel)) rfl) <|
  mc_1 (mk_p (ms_bipush (n := 12) (by decide +kernel) (by decide +kernel)) rfl) <| mc_0
theorem mw_97_6 : ∀ e ∈ mt_97_6, mx_Ok mx_MT mq_97 e.1 e.2 := 
  mc_1 (mk_c (k := mq_64) rfl ⟨mo_64, 11, 279, none, ml_m_LeagueOffice_Tables_11, Or.inr (Or.inl ⟨rfl, (by decide +kernel), ⟨1, rfl, mx_npd (by decide +kernel)⟩, ml_in_114, rfl, rfl⟩)⟩) <|
  mc_1 (mk_p (ms_putF (idx := 39) (w := 292) mx_c9 (by decide) ml_f_LeagueOffice_Tables_39 rfl rfl rfl rfl (by decide +kernel)) rfl) <|
  mc_1 (mk_p (ms_aload_n (k := 0) (by decide +kernel) rfl) rfl) <|
  mc_1 (mk_p (mn_6 (idx := 9) 278 (by decide +kernel) (by decide +kernel)) rfl) <|
  mc_1 (mk_p (ms_dup (by decide +kernel)) rfl) <|
  mc_1 (mk_p (ms_bipush (n := 12) (by decide +kernel) (by decide +kernel)) rfl) <|
  mc_1 (mk_c (k := mq_64) rfl ⟨mo_64, 11, 279, none, ml_m_LeagueOffice_Tables_11, Or.inr (Or.inl ⟨rfl, (by decide +kernel), ⟨1, rfl, mx_npd (by decide +kernel)⟩, ml_in_114, rfl, rfl⟩)⟩) <| mc_0
theorem mw_97_7 : ∀ e ∈ mt_97_7, mx_Ok mx_MT mq_97 e.1 e.2 := 
  mc_1 (mk_p (ms_putF (idx := 42) (w := 293) mx_c9 (by decide) ml_f_LeagueOffice_Tables_42 rfl rfl rfl rfl (by decide +kernel)) rfl) <|
  mc_1 (mk_p (ms_aload_n (k := 0) (by decide +kernel) rfl) rfl) <|
  mc_1 (mk_p (ms_aload_n (k := 1) (by decide +kernel) rfl) rfl) <|
  mc_1 (mk_p (ms_putF (idx := 45) (w := 280) mx_c9 (by decide) ml_f_LeagueOffice_Tables_45 rfl rfl rfl rfl (by decide +kernel)) rfl) <|
  mc_1 (mk_p (ms_aload_n (k := 0) (by decide +kernel) rfl) rfl) <|
  mc_1 (mk_p (ms_aload_n (k := 2) (by decide +kernel) rfl) rfl) <|
  mc_1 (mk_p (ms_putF (idx := 49) (w := 281) mx_c9 (by decide) ml_f_LeagueOffice_Tables_49 rfl rfl rfl rfl (by decide +kernel)) rfl) <|
  mc_1 (mk_r (Or.inr (Or.inr (Or.inr ⟨rfl, by decide +kernel, rfl⟩))) rfl) <| mc_0
theorem mw_97 : ∀ ch ∈ mt_97, ∀ e ∈ ch, mx_Ok mx_MT mq_97 e.1 e.2 := mc_2 mw_97_0 <| mc_2 mw_97_1 <| mc_2 mw_97_2 <| mc_2 mw_97_3 <| mc_2 mw_97_4 <| mc_2 mw_97_5 <| mc_2 mw_97_6 <| mc_2 mw_97_7 <| mc_3
/- 98 LeagueOffice$Tables.tally(I)V -/
theorem mw_98_0 : ∀ e ∈ mt_98_0, mx_Ok mx_MT mq_98 e.1 e.2 := 
  mc_1 (mk_p (ms_aload_n (k := 0) (by decide +kernel) rfl) rfl) <|
  mc_1 (mk_p (ms_get (idx := 26) (w := 288) (host := none) mx_c9 (by decide) ml_f_LeagueOffice_Tables_26 (by decide +kernel)) rfl) <|
  mc_1 (mk_p (ms_lconst (n := 0) (by decide +kernel) rfl) rfl) <|
  mc_1 (mk_c (k := mq_272) rfl ⟨mo_272, 53, 853, none, ml_m_LeagueOffice_Tables_53, Or.inl ⟨rfl, (by decide +kernel), mx_npd (by decide +kernel), ml_st_854⟩⟩) <|
  mc_1 (mk_p (ms_aload_n (k := 0) (by decide +kernel) rfl) rfl) <|
  mc_1 (mk_p (ms_get (idx := 30) (w := 289) (host := none) mx_c9 (by decide) ml_f_LeagueOffice_Tables_30 (by decide +kernel)) rfl) <|
  mc_1 (mk_p (ms_iconst (n := 0) (by decide +kernel) (by decide +kernel)) rfl) <|
  mc_1 (mk_c (k := mq_76) rfl ⟨mo_76, 59, 856, none, ml_m_LeagueOffice_Tables_59, Or.inr (Or.inr (Or.inl ⟨6, TX6, 2, by decide, rfl, rfl, (by decide +kernel), ⟨1, rfl, mx_npd (by decide +kernel)⟩, ml_in_857, ml_se_858⟩))⟩) <| mc_0
theorem mw_98_1 : ∀ e ∈ mt_98_1, mx_Ok mx_MT mq_98 e.1 e.2 := 
  mc_1 (mk_p (ms_aload_n (k := 0) (by decide +kernel) rfl) rfl) <|
  mc_1 (mk_p (ms_get (idx := 33) (w := 290) (host := none) mx_c9 (by decide) ml_f_LeagueOffice_Tables_33 (by decide +kernel)) rfl) <|
  mc_1 (mk_p (ms_iconst (n := 0) (by decide +kernel) (by decide +kernel)) rfl) <|
  mc_1 (mk_c (k := mq_76) rfl ⟨mo_76, 59, 856, none, ml_m_LeagueOffice_Tables_59, Or.inr (Or.inr (Or.inl ⟨6, TX6, 2, by decide, rfl, rfl, (by decide +kernel), ⟨1, rfl, mx_npd (by decide +kernel)⟩, ml_in_857, ml_se_858⟩))⟩) <|
  mc_1 (mk_p (ms_aload_n (k := 0) (by decide +kernel) rfl) rfl) <|
  mc_1 (mk_p (ms_get (idx := 36) (w := 291) (host := none) mx_c9 (by decide) ml_f_LeagueOffice_Tables_36 (by decide +kernel)) rfl) <|
  mc_1 (mk_p (ms_iconst (n := 0) (by decide +kernel) (by decide +kernel)) rfl) <|
  mc_1 (mk_c (k := mq_76) rfl ⟨mo_76, 59, 856, none, ml_m_LeagueOffice_Tables_59, Or.inr (Or.inr (Or.inl ⟨6, TX6, 2, by decide, rfl, rfl, (by decide +kernel), ⟨1, rfl, mx_npd (by decide +kernel)⟩, ml_in_857, ml_se_858⟩))⟩) <| mc_0
theorem mw_98_2 : ∀ e ∈ mt_98_2, mx_Ok mx_MT mq_98 e.1 e.2 := 
  mc_1 (mk_p (ms_aload_n (k := 0) (by decide +kernel) rfl) rfl) <|
  mc_1 (mk_p (ms_get (idx := 42) (w := 293) (host := none) mx_c9 (by decide) ml_f_LeagueOffice_Tables_42 (by decide +kernel)) rfl) <|
  mc_1 (mk_p (ms_iconst (n := 0) (by decide +kernel) (by decide +kernel)) rfl) <|
  mc_1 (mk_c (k := mq_76) rfl ⟨mo_76, 59, 856, none, ml_m_LeagueOffice_Tables_59, Or.inr (Or.inr (Or.inl ⟨6, TX6, 2, by decide, rfl, rfl, (by decide +kernel), ⟨1, rfl, mx_npd (by decide +kernel)⟩, ml_in_857, ml_se_858⟩))⟩) <|
  mc_1 (mk_p (ms_aload_n (k := 0) (by decide +kernel) rfl) rfl) <|
  mc_1 (mk_p (ms_iload_n (k := 1) (by decide +kernel) rfl) rfl) <|
  mc_1 (mk_p (ms_put (idx := 61) (w := 294) (host := none) mx_c9 (by decide) ml_f_LeagueOffice_Tables_61 rfl rfl (by decide +kernel)) rfl) <|
  mc_1 (mk_p (ms_aload_n (k := 0) (by decide +kernel) rfl) rfl) <|
  mc_1 (mk_p (ms_get (idx := 45) (w := 280) (host := none) mx_c9 (by decide) ml_f_LeagueOffice_Tables_45 (by decide +kernel)) rfl) <| mc_0
theorem mw_98_3 : ∀ e ∈ mt_98_3, mx_Ok mx_MT mq_98 e.1 e.2 := 
  mc_1 (mk_p (ms_iload_n (k := 1) (by decide +kernel) rfl) rfl) <|
  mc_1 (mk_c (k := mq_11) rfl ⟨mo_11, 65, 863, none, ml_m_LeagueOffice_Tables_65, Or.inr (Or.inr (Or.inl ⟨0, TX0, 12, by decide, rfl, rfl, (by decide +kernel), ⟨1, rfl, mx_npd (by decide +kernel)⟩, ml_in_815, ml_se_816⟩))⟩) <|
  mc_1 (mk_p (ms_iconst (n := 0) (by decide +kernel) (by decide +kernel)) rfl) <|
  mc_1 (mk_p (ms_istore_n (k := 2) (by decide +kernel) rfl (by decide)) rfl) <|
  mc_1 (mk_p (ms_iload_n (k := 2) (by decide +kernel) rfl) rfl) <|
  mc_1 (mk_p (ms_aload_n (k := 0) (by decide +kernel) rfl) rfl) <|
  mc_1 (mk_p (ms_get (idx := 45) (w := 280) (host := none) mx_c9 (by decide) ml_f_LeagueOffice_Tables_45 (by decide +kernel)) rfl) <|
  mc_1 (mk_p (ms_get (idx := 70) (w := 144) (host := (some "LeagueOffice")) mx_c0 (by decide) ml_f_LeagueOffice_Tables_70 (by decide +kernel)) rfl) <|
  mc_1 (mk_c (k := mq_65) rfl ⟨mo_65, 73, 864, none, ml_m_LeagueOffice_Tables_73, Or.inr (Or.inr (Or.inl ⟨6, TX6, 2, by decide, rfl, rfl, (by decide +kernel), ⟨0, rfl, mx_npd (by decide +kernel)⟩, ml_in_587, ml_se_588⟩))⟩) <| mc_0
theorem mw_98_4 : ∀ e ∈ mt_98_4, mx_Ok mx_MT mq_98 e.1 e.2 := 
  mc_1 (mk_p (ms_icmp_ge (off := (102)) (by decide +kernel) (by decide)) rfl) <|
  mc_1 (mk_p (ms_aload_n (k := 0) (by decide +kernel) rfl) rfl) <|
  mc_1 (mk_p (ms_get (idx := 45) (w := 280) (host := none) mx_c9 (by decide) ml_f_LeagueOffice_Tables_45 (by decide +kernel)) rfl) <|
  mc_1 (mk_p (ms_get (idx := 77) (w := 177) (host := (some "LeagueOffice")) mx_c0 (by decide) ml_f_LeagueOffice_Tables_77 (by decide +kernel)) rfl) <|
  mc_1 (mk_p (ms_iload_n (k := 2) (by decide +kernel) rfl) rfl) <|
  mc_1 (mk_c (k := mq_68) rfl ⟨mo_68, 80, 865, none, ml_m_LeagueOffice_Tables_80, Or.inr (Or.inr (Or.inl ⟨6, TX6, 2, by decide, rfl, rfl, (by decide +kernel), ⟨1, rfl, mx_npd (by decide +kernel)⟩, ml_in_591, ml_se_592⟩))⟩) <| mc_0
theorem mw_98_5 : ∀ e ∈ mt_98_5, mx_Ok mx_MT mq_98 e.1 e.2 := 
  mc_1 (mk_p (ms_istore_n (k := 3) (by decide +kernel) rfl (by decide)) rfl) <|
  mc_1 (mk_p (ms_iload_n (k := 3) (by decide +kernel) rfl) rfl) <|
  mc_1 (mk_p (ms_if_lt (off := (80)) (by decide +kernel) (by decide)) rfl) <|
  mc_1 (mk_p (ms_aload_n (k := 0) (by decide +kernel) rfl) rfl) <|
  mc_1 (mk_p (ms_get (idx := 45) (w := 280) (host := none) mx_c9 (by decide) ml_f_LeagueOffice_Tables_45 (by decide +kernel)) rfl) <|
  mc_1 (mk_p (ms_get (idx := 84) (w := 164) (host := (some "LeagueOffice")) mx_c0 (by decide) ml_f_LeagueOffice_Tables_84 (by decide +kernel)) rfl) <|
  mc_1 (mk_p (ms_iload_n (k := 2) (by decide +kernel) rfl) rfl) <|
  mc_1 (mk_c (k := mq_68) rfl ⟨mo_68, 80, 865, none, ml_m_LeagueOffice_Tables_80, Or.inr (Or.inr (Or.inl ⟨6, TX6, 2, by decide, rfl, rfl, (by decide +kernel), ⟨1, rfl, mx_npd (by decide +kernel)⟩, ml_in_591, ml_se_592⟩))⟩) <| mc_0
theorem mw_98_6 : ∀ e ∈ mt_98_6, mx_Ok mx_MT mq_98 e.1 e.2 := 
  mc_1 (mk_p (ms_iload_n (k := 1) (by decide +kernel) rfl) rfl) <|
  mc_1 (mk_p (ms_icmp_gt (off := (65)) (by decide +kernel) (by decide)) rfl) <|
  mc_1 (mk_p (ms_aload_n (k := 0) (by decide +kernel) rfl) rfl) <|
  mc_1 (mk_p (ms_get (idx := 45) (w := 280) (host := none) mx_c9 (by decide) ml_f_LeagueOffice_Tables_45 (by decide +kernel)) rfl) <|
  mc_1 (mk_p (ms_iload_n (k := 2) (by decide +kernel) rfl) rfl) <|
  mc_1 (mk_c (k := mq_6) rfl ⟨mo_6, 87, 866, none, ml_m_LeagueOffice_Tables_87, Or.inr (Or.inr (Or.inl ⟨0, TX0, 12, by decide, rfl, rfl, (by decide +kernel), ⟨1, rfl, mx_npd (by decide +kernel)⟩, ml_in_867, ml_se_868⟩))⟩) <|
  mc_1 (mk_p (ms_if_ne (off := (6)) (by decide +kernel) (by decide)) rfl) <|
  mc_1 (mk_p (ms_goto (off := (51)) (by decide +kernel) (by decide)) rfl) <| mc_0
theorem mw_98_7 : ∀ e ∈ mt_98_7, mx_Ok mx_MT mq_98 e.1 e.2 := 
  mc_1 (mk_p (ms_aload_n (k := 0) (by decide +kernel) rfl) rfl) <|
  mc_1 (mk_p (ms_iload_n (k := 2) (by decide +kernel) rfl) rfl) <|
  mc_1 (mk_p (ms_aload_n (k := 0) (by decide +kernel) rfl) rfl) <|
  mc_1 (mk_p (ms_get (idx := 45) (w := 280) (host := none) mx_c9 (by decide) ml_f_LeagueOffice_Tables_45 (by decide +kernel)) rfl) <|
  mc_1 (mk_p (ms_get (idx := 91) (w := 151) (host := (some "LeagueOffice")) mx_c0 (by decide) ml_f_LeagueOffice_Tables_91 (by decide +kernel)) rfl) <|
  mc_1 (mk_p (ms_iload_n (k := 2) (by decide +kernel) rfl) rfl) <|
  mc_1 (mk_c (k := mq_68) rfl ⟨mo_68, 80, 865, none, ml_m_LeagueOffice_Tables_80, Or.inr (Or.inr (Or.inl ⟨6, TX6, 2, by decide, rfl, rfl, (by decide +kernel), ⟨1, rfl, mx_npd (by decide +kernel)⟩, ml_in_591, ml_se_592⟩))⟩) <|
  mc_1 (mk_p (ms_iload_n (k := 3) (by decide +kernel) rfl) rfl) <| mc_0
theorem mw_98_8 : ∀ e ∈ mt_98_8, mx_Ok mx_MT mq_98 e.1 e.2 := 
  mc_1 (mk_p (ms_bipush (n := 100) (by decide +kernel) (by decide +kernel)) rfl) <|
  mc_1 (mk_p (ms_idiv (by decide +kernel)) rfl) <|
  mc_1 (mk_p (ms_iload_n (k := 3) (by decide +kernel) rfl) rfl) <|
  mc_1 (mk_p (ms_bipush (n := 100) (by decide +kernel) (by decide +kernel)) rfl) <|
  mc_1 (mk_p (ms_irem (by decide +kernel)) rfl) <|
  mc_1 (mk_c (k := mq_99) rfl ⟨mo_99, 94, 872, none, ml_m_LeagueOffice_Tables_94, Or.inr (Or.inr (Or.inl ⟨9, TX9, 12, by decide, rfl, rfl, (by decide +kernel), ⟨4, rfl, mx_npd (by decide +kernel)⟩, ml_in_874, ml_se_14⟩))⟩) <|
  mc_1 (mk_p (ms_aload_n (k := 0) (by decide +kernel) rfl) rfl) <|
  mc_1 (mk_p (ms_iload_n (k := 2) (by decide +kernel) rfl) rfl) <|
  mc_1 (mk_p (ms_aload_n (k := 0) (by decide +kernel) rfl) rfl) <|
  mc_1 (mk_p (ms_get (idx := 45) (w := 280) (host := none) mx_c9 (by decide) ml_f_LeagueOffice_Tables_45 (by decide +kernel)) rfl) <| mc_0
theorem mw_98_9 : ∀ e ∈ mt_98_9, mx_Ok mx_MT mq_98 e.1 e.2 := 
  mc_1 (mk_p (ms_get (idx := 98) (w := 158) (host := (some "LeagueOffice")) mx_c0 (by decide) ml_f_LeagueOffice_Tables_98 (by decide +kernel)) rfl) <|
  mc_1 (mk_p (ms_iload_n (k := 2) (by decide +kernel) rfl) rfl) <|
  mc_1 (mk_c (k := mq_68) rfl ⟨mo_68, 80, 865, none, ml_m_LeagueOffice_Tables_80, Or.inr (Or.inr (Or.inl ⟨6, TX6, 2, by decide, rfl, rfl, (by decide +kernel), ⟨1, rfl, mx_npd (by decide +kernel)⟩, ml_in_591, ml_se_592⟩))⟩) <|
  mc_1 (mk_p (ms_iload_n (k := 3) (by decide +kernel) rfl) rfl) <|
  mc_1 (mk_p (ms_bipush (n := 100) (by decide +kernel) (by decide +kernel)) rfl) <|
  mc_1 (mk_p (ms_irem (by decide +kernel)) rfl) <|
  mc_1 (mk_p (ms_iload_n (k := 3) (by decide +kernel) rfl) rfl) <|
  mc_1 (mk_p (ms_bipush (n := 100) (by decide +kernel) (by decide +kernel)) rfl) <|
  mc_1 (mk_p (ms_idiv (by decide +kernel)) rfl) <|
  mc_1 (mk_c (k := mq_99) rfl ⟨mo_99, 94, 872, none, ml_m_LeagueOffice_Tables_94, Or.inr (Or.inr (Or.inl ⟨9, TX9, 12, by decide, rfl, rfl, (by decide +kernel), ⟨4, rfl, mx_npd (by decide +kernel)⟩, ml_in_874, ml_se_14⟩))⟩) <| mc_0
theorem mw_98_10 : ∀ e ∈ mt_98_10, mx_Ok mx_MT mq_98 e.1 e.2 := 
  mc_1 (mk_p (ms_iinc (n := (1)) (by decide +kernel) (by decide +kernel) (by decide)) rfl) <|
  mc_1 (mk_p (ms_goto (off := (-110)) (by decide +kernel) (by decide)) rfl) <|
  mc_1 (mk_p (ms_iconst (n := 0) (by decide +kernel) (by decide +kernel)) rfl) <|
  mc_1 (mk_p (ms_istore_n (k := 2) (by decide +kernel) rfl (by decide)) rfl) <|
  mc_1 (mk_p (ms_iload_n (k := 2) (by decide +kernel) rfl) rfl) <|
  mc_1 (mk_p (ms_aload_n (k := 0) (by decide +kernel) rfl) rfl) <|
  mc_1 (mk_p (ms_get (idx := 14) (w := 282) (host := none) mx_c9 (by decide) ml_f_LeagueOffice_Tables_14 (by decide +kernel)) rfl) <|
  mc_1 (mk_c (k := mq_65) rfl ⟨mo_65, 73, 864, none, ml_m_LeagueOffice_Tables_73, Or.inr (Or.inr (Or.inl ⟨6, TX6, 2, by decide, rfl, rfl, (by decide +kernel), ⟨0, rfl, mx_npd (by decide +kernel)⟩, ml_in_587, ml_se_588⟩))⟩) <| mc_0
theorem mw_98_11 : ∀ e ∈ mt_98_11, mx_Ok mx_MT mq_98 e.1 e.2 := 
  mc_1 (mk_p (ms_icmp_ge (off := (43)) (by decide +kernel) (by decide)) rfl) <|
  mc_1 (mk_p (ms_aload_n (k := 0) (by decide +kernel) rfl) rfl) <|
  mc_1 (mk_p (ms_get (idx := 23) (w := 286) (host := none) mx_c9 (by decide) ml_f_LeagueOffice_Tables_23 (by decide +kernel)) rfl) <|
  mc_1 (mk_p (ms_iload_n (k := 2) (by decide +kernel) rfl) rfl) <|
  mc_1 (mk_c (k := mq_68) rfl ⟨mo_68, 80, 865, none, ml_m_LeagueOffice_Tables_80, Or.inr (Or.inr (Or.inl ⟨6, TX6, 2, by decide, rfl, rfl, (by decide +kernel), ⟨1, rfl, mx_npd (by decide +kernel)⟩, ml_in_591, ml_se_592⟩))⟩) <|
  mc_1 (mk_p (ms_iload_n (k := 1) (by decide +kernel) rfl) rfl) <|
  mc_1 (mk_p (ms_icmp_gt (off := (25)) (by decide +kernel) (by decide)) rfl) <| mc_0
theorem mw_98_12 : ∀ e ∈ mt_98_12, mx_Ok mx_MT mq_98 e.1 e.2 := 
  mc_1 (mk_p (ms_aload_n (k := 0) (by decide +kernel) rfl) rfl) <|
  mc_1 (mk_p (ms_aload_n (k := 0) (by decide +kernel) rfl) rfl) <|
  mc_1 (mk_p (ms_get (idx := 14) (w := 282) (host := none) mx_c9 (by decide) ml_f_LeagueOffice_Tables_14 (by decide +kernel)) rfl) <|
  mc_1 (mk_p (ms_iload_n (k := 2) (by decide +kernel) rfl) rfl) <|
  mc_1 (mk_c (k := mq_68) rfl ⟨mo_68, 80, 865, none, ml_m_LeagueOffice_Tables_80, Or.inr (Or.inr (Or.inl ⟨6, TX6, 2, by decide, rfl, rfl, (by decide +kernel), ⟨1, rfl, mx_npd (by decide +kernel)⟩, ml_in_591, ml_se_592⟩))⟩) <|
  mc_1 (mk_p (ms_aload_n (k := 0) (by decide +kernel) rfl) rfl) <|
  mc_1 (mk_p (ms_get (idx := 20) (w := 284) (host := none) mx_c9 (by decide) ml_f_LeagueOffice_Tables_20 (by decide +kernel)) rfl) <|
  mc_1 (mk_p (ms_iload_n (k := 2) (by decide +kernel) rfl) rfl) <|
  mc_1 (mk_c (k := mq_68) rfl ⟨mo_68, 80, 865, none, ml_m_LeagueOffice_Tables_80, Or.inr (Or.inr (Or.inl ⟨6, TX6, 2, by decide, rfl, rfl, (by decide +kernel), ⟨1, rfl, mx_npd (by decide +kernel)⟩, ml_in_591, ml_se_592⟩))⟩) <| mc_0
theorem mw_98_13 : ∀ e ∈ mt_98_13, mx_Ok mx_MT mq_98 e.1 e.2 := 
  mc_1 (mk_p (ms_ineg (by decide +kernel)) rfl) <|
  mc_1 (mk_p (ms_i2l (by decide +kernel)) rfl) <|
  mc_1 (mk_c (k := mq_100) rfl ⟨mo_100, 101, 912, none, ml_m_LeagueOffice_Tables_101, Or.inr (Or.inr (Or.inl ⟨9, TX9, 12, by decide, rfl, rfl, (by decide +kernel), ⟨2, rfl, mx_npd (by decide +kernel)⟩, ml_in_913, ml_se_914⟩))⟩) <|
  mc_1 (mk_p (ms_iinc (n := (1)) (by decide +kernel) (by decide +kernel) (by decide)) rfl) <|
  mc_1 (mk_p (ms_goto (off := (-48)) (by decide +kernel) (by decide)) rfl) <|
  mc_1 (mk_r (Or.inr (Or.inr (Or.inr ⟨rfl, by decide +kernel, rfl⟩))) rfl) <| mc_0
theorem mw_98 : ∀ ch ∈ mt_98, ∀ e ∈ ch, mx_Ok mx_MT mq_98 e.1 e.2 := mc_2 mw_98_0 <| mc_2 mw_98_1 <| mc_2 mw_98_2 <| mc_2 mw_98_3 <| mc_2 mw_98_4 <| mc_2 mw_98_5 <| mc_2 mw_98_6 <| mc_2 mw_98_7 <| mc_2 mw_98_8 <| mc_2 mw_98_9 <| mc_2 mw_98_10 <| mc_2 mw_98_11 <| mc_2 mw_98_12 <| mc_2 mw_98_13 <| mc_3
/- 99 LeagueOffice$Tables.enter(IIII)V -/
theorem mw_99_0 : ∀ e ∈ mt_99_0, mx_Ok mx_MT mq_99 e.1 e.2 := 
  mc_1 (mk_p (ms_aload_n (k := 0) (by decide +kernel) rfl) rfl) <|
  mc_1 (mk_p (ms_iload_n (k := 2) (by decide +kernel) rfl) rfl) <|
  mc_1 (mk_p (ms_iload_n (k := 3) (by decide +kernel) rfl) rfl) <|
  mc_1 (mk_p (ms_iload (by decide +kernel)) rfl) <|
  mc_1 (mk_p (ms_isub (by decide +kernel)) rfl) <|
  mc_1 (mk_p (ms_iload_n (k := 3) (by decide +kernel) rfl) rfl) <|
  mc_1 (mk_p (ms_iload_n (k := 3) (by decide +kernel) rfl) rfl) <|
  mc_1 (mk_p (ms_iload (by decide +kernel)) rfl) <|
  mc_1 (mk_p (ms_icmp_le (off := (7)) (by decide +kernel) (by decide)) rfl) <|
  mc_1 (mk_p (ms_iconst (n := 1) (by decide +kernel) (by decide +kernel)) rfl) <|
  mc_1 (mk_p (ms_goto (off := (4)) (by decide +kernel) (by decide)) rfl) <| mc_0
theorem mw_99_1 : ∀ e ∈ mt_99_1, mx_Ok mx_MT mq_99 e.1 e.2 := 
  mc_1 (mk_p (ms_iconst (n := 0) (by decide +kernel) (by decide +kernel)) rfl) <|
  mc_1 (mk_c (k := mq_101) rfl ⟨mo_101, 105, 876, none, ml_m_LeagueOffice_Tables_105, Or.inr (Or.inr (Or.inl ⟨9, TX9, 12, by decide, rfl, rfl, (by decide +kernel), ⟨4, rfl, mx_npd (by decide +kernel)⟩, ml_in_877, ml_se_878⟩))⟩) <|
  mc_1 (mk_p (ms_iload_n (k := 3) (by decide +kernel) rfl) rfl) <|
  mc_1 (mk_p (ms_iload (by decide +kernel)) rfl) <|
  mc_1 (mk_p (ms_icmp_ge (off := (4)) (by decide +kernel) (by decide)) rfl) <|
  mc_1 (mk_r (Or.inr (Or.inr (Or.inr ⟨rfl, by decide +kernel, rfl⟩))) rfl) <|
  mc_1 (mk_p (ms_aload_n (k := 0) (by decide +kernel) rfl) rfl) <|
  mc_1 (mk_p (ms_get (idx := 45) (w := 280) (host := none) mx_c9 (by decide) ml_f_LeagueOffice_Tables_45 (by decide +kernel)) rfl) <| mc_0
theorem mw_99_2 : ∀ e ∈ mt_99_2, mx_Ok mx_MT mq_99 e.1 e.2 := 
  mc_1 (mk_p (ms_get (idx := 70) (w := 144) (host := (some "LeagueOffice")) mx_c0 (by decide) ml_f_LeagueOffice_Tables_70 (by decide +kernel)) rfl) <|
  mc_1 (mk_p (ms_iload_n (k := 1) (by decide +kernel) rfl) rfl) <|
  mc_1 (mk_c (k := mq_68) rfl ⟨mo_68, 80, 865, none, ml_m_LeagueOffice_Tables_80, Or.inr (Or.inr (Or.inl ⟨6, TX6, 2, by decide, rfl, rfl, (by decide +kernel), ⟨1, rfl, mx_npd (by decide +kernel)⟩, ml_in_591, ml_se_592⟩))⟩) <|
  mc_1 (mk_p (ms_istore (by decide +kernel) (by decide)) rfl) <|
  mc_1 (mk_p (ms_aload_n (k := 0) (by decide +kernel) rfl) rfl) <|
  mc_1 (mk_p (ms_get (idx := 45) (w := 280) (host := none) mx_c9 (by decide) ml_f_LeagueOffice_Tables_45 (by decide +kernel)) rfl) <|
  mc_1 (mk_p (ms_iload_n (k := 1) (by decide +kernel) rfl) rfl) <|
  mc_1 (mk_c (k := mq_8) rfl ⟨mo_8, 108, 885, none, ml_m_LeagueOffice_Tables_108, Or.inr (Or.inr (Or.inl ⟨0, TX0, 12, by decide, rfl, rfl, (by decide +kernel), ⟨1, rfl, mx_npd (by decide +kernel)⟩, ml_in_886, ml_se_887⟩))⟩) <| mc_0
theorem mw_99_3 : ∀ e ∈ mt_99_3, mx_Ok mx_MT mq_99 e.1 e.2 := 
  mc_1 (mk_p (ms_istore (by decide +kernel) (by decide)) rfl) <|
  mc_1 (mk_p (ms_iload_n (k := 3) (by decide +kernel) rfl) rfl) <|
  mc_1 (mk_p (ms_iload (by decide +kernel)) rfl) <|
  mc_1 (mk_p (ms_icmp_le (off := (7)) (by decide +kernel) (by decide)) rfl) <|
  mc_1 (mk_p (ms_iconst (n := 0) (by decide +kernel) (by decide +kernel)) rfl) <|
  mc_1 (mk_p (ms_goto (off := (4)) (by decide +kernel) (by decide)) rfl) <|
  mc_1 (mk_p (ms_iconst (n := 1) (by decide +kernel) (by decide +kernel)) rfl) <|
  mc_1 (mk_p (ms_istore (by decide +kernel) (by decide)) rfl) <| mc_0
theorem mw_99_4 : ∀ e ∈ mt_99_4, mx_Ok mx_MT mq_99 e.1 e.2 := 
  mc_1 (mk_p (ms_aload_n (k := 0) (by decide +kernel) rfl) rfl) <|
  mc_1 (mk_p (ms_iload_n (k := 2) (by decide +kernel) rfl) rfl) <|
  mc_1 (mk_p (ms_aload_n (k := 0) (by decide +kernel) rfl) rfl) <|
  mc_1 (mk_p (ms_get (idx := 49) (w := 281) (host := none) mx_c9 (by decide) ml_f_LeagueOffice_Tables_49 (by decide +kernel)) rfl) <|
  mc_1 (mk_p (ms_iload (by decide +kernel)) rfl) <|
  mc_1 (mk_p (ms_aload_n (k := 0) (by decide +kernel) rfl) rfl) <|
  mc_1 (mk_p (ms_get (idx := 45) (w := 280) (host := none) mx_c9 (by decide) ml_f_LeagueOffice_Tables_45 (by decide +kernel)) rfl) <|
  mc_1 (mk_p (ms_get (idx := 84) (w := 164) (host := (some "LeagueOffice")) mx_c0 (by decide) ml_f_LeagueOffice_Tables_84 (by decide +kernel)) rfl) <|
  mc_1 (mk_p (ms_iload_n (k := 1) (by decide +kernel) rfl) rfl) <| mc_0
theorem mw_99_5 : ∀ e ∈ mt_99_5, mx_Ok mx_MT mq_99 e.1 e.2 := 
  mc_1 (mk_c (k := mq_68) rfl ⟨mo_68, 80, 865, none, ml_m_LeagueOffice_Tables_80, Or.inr (Or.inr (Or.inl ⟨6, TX6, 2, by decide, rfl, rfl, (by decide +kernel), ⟨1, rfl, mx_npd (by decide +kernel)⟩, ml_in_591, ml_se_592⟩))⟩) <|
  mc_1 (mk_p (ms_iload_n (k := 3) (by decide +kernel) rfl) rfl) <|
  mc_1 (mk_p (ms_iload (by decide +kernel)) rfl) <|
  mc_1 (mk_p (ms_isub (by decide +kernel)) rfl) <|
  mc_1 (mk_p (ms_iload_n (k := 3) (by decide +kernel) rfl) rfl) <|
  mc_1 (mk_p (ms_iload (by decide +kernel)) rfl) <|
  mc_1 (mk_p (ms_iload (by decide +kernel)) rfl) <|
  mc_1 (mk_c (k := mq_113) rfl ⟨mo_113, 111, 894, none, ml_m_LeagueOffice_Tables_111, Or.inr (Or.inr (Or.inl ⟨10, TX10, 8, by decide, rfl, rfl, (by decide +kernel), ⟨6, rfl, mx_npd (by decide +kernel)⟩, ml_in_895, ml_se_896⟩))⟩) <|
  mc_1 (mk_p (ms_i2l (by decide +kernel)) rfl) <| mc_0
theorem mw_99_6 : ∀ e ∈ mt_99_6, mx_Ok mx_MT mq_99 e.1 e.2 := 
  mc_1 (mk_c (k := mq_100) rfl ⟨mo_100, 101, 912, none, ml_m_LeagueOffice_Tables_101, Or.inr (Or.inr (Or.inl ⟨9, TX9, 12, by decide, rfl, rfl, (by decide +kernel), ⟨2, rfl, mx_npd (by decide +kernel)⟩, ml_in_913, ml_se_914⟩))⟩) <|
  mc_1 (mk_r (Or.inr (Or.inr (Or.inr ⟨rfl, by decide +kernel, rfl⟩))) rfl) <| mc_0
theorem mw_99 : ∀ ch ∈ mt_99, ∀ e ∈ ch, mx_Ok mx_MT mq_99 e.1 e.2 := mc_2 mw_99_0 <| mc_2 mw_99_1 <| mc_2 mw_99_2 <| mc_2 mw_99_3 <| mc_2 mw_99_4 <| mc_2 mw_99_5 <| mc_2 mw_99_6 <| mc_3
/- 100 LeagueOffice$Tables.addPoints(IJ)V -/
theorem mw_100_0 : ∀ e ∈ mt_100_0, mx_Ok mx_MT mq_100 e.1 e.2 := 
  mc_1 (mk_p (ms_iload_n (k := 1) (by decide +kernel) rfl) rfl) <|
  mc_1 (mk_p (ms_if_lt (off := (22)) (by decide +kernel) (by decide)) rfl) <|
  mc_1 (mk_p (ms_iload_n (k := 1) (by decide +kernel) rfl) rfl) <|
  mc_1 (mk_p (ms_aload_n (k := 0) (by decide +kernel) rfl) rfl) <|
  mc_1 (mk_p (ms_get (idx := 26) (w := 288) (host := none) mx_c9 (by decide) ml_f_LeagueOffice_Tables_26 (by decide +kernel)) rfl) <|
  mc_1 (mk_p (ms_alen (by decide +kernel)) rfl) <|
  mc_1 (mk_p (ms_icmp_ge (off := (13)) (by decide +kernel) (by decide)) rfl) <|
  mc_1 (mk_p (ms_aload_n (k := 0) (by decide +kernel) rfl) rfl) <|
  mc_1 (mk_p (ms_get (idx := 26) (w := 288) (host := none) mx_c9 (by decide) ml_f_LeagueOffice_Tables_26 (by decide +kernel)) rfl) <| mc_0
theorem mw_100_1 : ∀ e ∈ mt_100_1, mx_Ok mx_MT mq_100 e.1 e.2 := 
  mc_1 (mk_p (ms_iload_n (k := 1) (by decide +kernel) rfl) rfl) <|
  mc_1 (mk_p (ms_dup2 (by decide +kernel)) rfl) <|
  mc_1 (mk_p (ms_ald (Or.inr (Or.inr (Or.inr ⟨rfl, by decide +kernel⟩)))) rfl) <|
  mc_1 (mk_p (ms_lload_n (k := 2) (by decide +kernel) rfl) rfl) <|
  mc_1 (mk_p (ms_ladd (by decide +kernel)) rfl) <|
  mc_1 (mk_p (ms_last (by decide +kernel)) rfl) <|
  mc_1 (mk_r (Or.inr (Or.inr (Or.inr ⟨rfl, by decide +kernel, rfl⟩))) rfl) <| mc_0
theorem mw_100 : ∀ ch ∈ mt_100, ∀ e ∈ ch, mx_Ok mx_MT mq_100 e.1 e.2 := mc_2 mw_100_0 <| mc_2 mw_100_1 <| mc_3
/- 101 LeagueOffice$Tables.addGoals(IIII)V -/
theorem mw_101_0 : ∀ e ∈ mt_101_0, mx_Ok mx_MT mq_101 e.1 e.2 := 
  mc_1 (mk_p (ms_aload_n (k := 0) (by decide +kernel) rfl) rfl) <|
  mc_1 (mk_p (ms_get (idx := 30) (w := 289) (host := none) mx_c9 (by decide) ml_f_LeagueOffice_Tables_30 (by decide +kernel)) rfl) <|
  mc_1 (mk_p (ms_iload_n (k := 1) (by decide +kernel) rfl) rfl) <|
  mc_1 (mk_p (ms_iload_n (k := 2) (by decide +kernel) rfl) rfl) <|
  mc_1 (mk_c (k := mq_70) rfl ⟨mo_70, 117, 880, none, ml_m_LeagueOffice_Tables_117, Or.inr (Or.inr (Or.inl ⟨6, TX6, 2, by decide, rfl, rfl, (by decide +kernel), ⟨2, rfl, mx_npd (by decide +kernel)⟩, ml_in_881, ml_se_882⟩))⟩) <|
  mc_1 (mk_p (ms_aload_n (k := 0) (by decide +kernel) rfl) rfl) <|
  mc_1 (mk_p (ms_get (idx := 33) (w := 290) (host := none) mx_c9 (by decide) ml_f_LeagueOffice_Tables_33 (by decide +kernel)) rfl) <|
  mc_1 (mk_p (ms_iload_n (k := 1) (by decide +kernel) rfl) rfl) <|
  mc_1 (mk_p (ms_iload_n (k := 3) (by decide +kernel) rfl) rfl) <|
  mc_1 (mk_c (k := mq_70) rfl ⟨mo_70, 117, 880, none, ml_m_LeagueOffice_Tables_117, Or.inr (Or.inr (Or.inl ⟨6, TX6, 2, by decide, rfl, rfl, (by decide +kernel), ⟨2, rfl, mx_npd (by decide +kernel)⟩, ml_in_881, ml_se_882⟩))⟩) <| mc_0
theorem mw_101_1 : ∀ e ∈ mt_101_1, mx_Ok mx_MT mq_101 e.1 e.2 := 
  mc_1 (mk_p (ms_aload_n (k := 0) (by decide +kernel) rfl) rfl) <|
  mc_1 (mk_p (ms_get (idx := 36) (w := 291) (host := none) mx_c9 (by decide) ml_f_LeagueOffice_Tables_36 (by decide +kernel)) rfl) <|
  mc_1 (mk_p (ms_iload_n (k := 1) (by decide +kernel) rfl) rfl) <|
  mc_1 (mk_p (ms_iload (by decide +kernel)) rfl) <|
  mc_1 (mk_c (k := mq_70) rfl ⟨mo_70, 117, 880, none, ml_m_LeagueOffice_Tables_117, Or.inr (Or.inr (Or.inl ⟨6, TX6, 2, by decide, rfl, rfl, (by decide +kernel), ⟨2, rfl, mx_npd (by decide +kernel)⟩, ml_in_881, ml_se_882⟩))⟩) <|
  mc_1 (mk_p (ms_aload_n (k := 0) (by decide +kernel) rfl) rfl) <|
  mc_1 (mk_p (ms_get (idx := 42) (w := 293) (host := none) mx_c9 (by decide) ml_f_LeagueOffice_Tables_42 (by decide +kernel)) rfl) <| mc_0
theorem mw_101_2 : ∀ e ∈ mt_101_2, mx_Ok mx_MT mq_101 e.1 e.2 := 
  mc_1 (mk_p (ms_iload_n (k := 1) (by decide +kernel) rfl) rfl) <|
  mc_1 (mk_p (ms_iconst (n := 0) (by decide +kernel) (by decide +kernel)) rfl) <|
  mc_1 (mk_c (k := mq_69) rfl ⟨mo_69, 121, 884, none, ml_m_LeagueOffice_Tables_121, Or.inr (Or.inr (Or.inl ⟨6, TX6, 2, by decide, rfl, rfl, (by decide +kernel), ⟨2, rfl, mx_npd (by decide +kernel)⟩, ml_in_665, ml_se_666⟩))⟩) <|
  mc_1 (mk_r (Or.inr (Or.inr (Or.inr ⟨rfl, by decide +kernel, rfl⟩))) rfl) <| mc_0
theorem mw_101 : ∀ ch ∈ mt_101, ∀ e ∈ ch, mx_Ok mx_MT mq_101 e.1 e.2 := mc_2 mw_101_0 <| mc_2 mw_101_1 <| mc_2 mw_101_2 <| mc_3
/- 102 LeagueOffice$Tables.pointsOf(I)J -/
theorem mw_102_0 : ∀ e ∈ mt_102_0, mx_Ok mx_MT mq_102 e.1 e.2 := 
  mc_1 (mk_p (ms_iload_n (k := 1) (by decide +kernel) rfl) rfl) <|
  mc_1 (mk_p (ms_if_lt (off := (21)) (by decide +kernel) (by decide)) rfl) <|
  mc_1 (mk_p (ms_iload_n (k := 1) (by decide +kernel) rfl) rfl) <|
  mc_1 (mk_p (ms_aload_n (k := 0) (by decide +kernel) rfl) rfl) <|
  mc_1 (mk_p (ms_get (idx := 26) (w := 288) (host := none) mx_c9 (by decide) ml_f_LeagueOffice_Tables_26 (by decide +kernel)) rfl) <|
  mc_1 (mk_p (ms_alen (by decide +kernel)) rfl) <|
  mc_1 (mk_p (ms_icmp_ge (off := (12)) (by decide +kernel) (by decide)) rfl) <|
  mc_1 (mk_p (ms_aload_n (k := 0) (by decide +kernel) rfl) rfl) <|
  mc_1 (mk_p (ms_get (idx := 26) (w := 288) (host := none) mx_c9 (by decide) ml_f_LeagueOffice_Tables_26 (by decide +kernel)) rfl) <| mc_0
theorem mw_102_1 : ∀ e ∈ mt_102_1, mx_Ok mx_MT mq_102 e.1 e.2 := 
  mc_1 (mk_p (ms_iload_n (k := 1) (by decide +kernel) rfl) rfl) <|
  mc_1 (mk_p (ms_ald (Or.inr (Or.inr (Or.inr ⟨rfl, by decide +kernel⟩)))) rfl) <|
  mc_1 (mk_p (ms_goto (off := (4)) (by decide +kernel) (by decide)) rfl) <|
  mc_1 (mk_p (ms_lconst (n := 0) (by decide +kernel) rfl) rfl) <|
  mc_1 (mk_r (Or.inr (Or.inl ⟨rfl, by decide +kernel, rfl⟩)) rfl) <| mc_0
theorem mw_102 : ∀ ch ∈ mt_102, ∀ e ∈ ch, mx_Ok mx_MT mq_102 e.1 e.2 := mc_2 mw_102_0 <| mc_2 mw_102_1 <| mc_3
/- 103 LeagueOffice$Tables.likeOf(I)I -/
theorem mw_103_0 : ∀ e ∈ mt_103_0, mx_Ok mx_MT mq_103 e.1 e.2 := 
  mc_1 (mk_p (ms_aload_n (k := 0) (by decide +kernel) rfl) rfl) <|
  mc_1 (mk_p (ms_get (idx := 42) (w := 293) (host := none) mx_c9 (by decide) ml_f_LeagueOffice_Tables_42 (by decide +kernel)) rfl) <|
  mc_1 (mk_p (ms_iload_n (k := 1) (by decide +kernel) rfl) rfl) <|
  mc_1 (mk_c (k := mq_68) rfl ⟨mo_68, 80, 865, none, ml_m_LeagueOffice_Tables_80, Or.inr (Or.inr (Or.inl ⟨6, TX6, 2, by decide, rfl, rfl, (by decide +kernel), ⟨1, rfl, mx_npd (by decide +kernel)⟩, ml_in_591, ml_se_592⟩))⟩) <|
  mc_1 (mk_p (ms_if_ne (off := (46)) (by decide +kernel) (by decide)) rfl) <|
  mc_1 (mk_p (ms_aload_n (k := 0) (by decide +kernel) rfl) rfl) <|
  mc_1 (mk_p (ms_get (idx := 39) (w := 292) (host := none) mx_c9 (by decide) ml_f_LeagueOffice_Tables_39 (by decide +kernel)) rfl) <|
  mc_1 (mk_p (ms_iload_n (k := 1) (by decide +kernel) rfl) rfl) <| mc_0
theorem mw_103_1 : ∀ e ∈ mt_103_1, mx_Ok mx_MT mq_103 e.1 e.2 := 
  mc_1 (mk_p (ms_aload_n (k := 0) (by decide +kernel) rfl) rfl) <|
  mc_1 (mk_p (ms_get (idx := 49) (w := 281) (host := none) mx_c9 (by decide) ml_f_LeagueOffice_Tables_49 (by decide +kernel)) rfl) <|
  mc_1 (mk_p (ms_aload_n (k := 0) (by decide +kernel) rfl) rfl) <|
  mc_1 (mk_p (ms_get (idx := 61) (w := 294) (host := none) mx_c9 (by decide) ml_f_LeagueOffice_Tables_61 (by decide +kernel)) rfl) <|
  mc_1 (mk_p (ms_aload_n (k := 0) (by decide +kernel) rfl) rfl) <|
  mc_1 (mk_p (ms_get (idx := 30) (w := 289) (host := none) mx_c9 (by decide) ml_f_LeagueOffice_Tables_30 (by decide +kernel)) rfl) <|
  mc_1 (mk_p (ms_iload_n (k := 1) (by decide +kernel) rfl) rfl) <|
  mc_1 (mk_c (k := mq_68) rfl ⟨mo_68, 80, 865, none, ml_m_LeagueOffice_Tables_80, Or.inr (Or.inr (Or.inl ⟨6, TX6, 2, by decide, rfl, rfl, (by decide +kernel), ⟨1, rfl, mx_npd (by decide +kernel)⟩, ml_in_591, ml_se_592⟩))⟩) <| mc_0
theorem mw_103_2 : ∀ e ∈ mt_103_2, mx_Ok mx_MT mq_103 e.1 e.2 := 
  mc_1 (mk_p (ms_aload_n (k := 0) (by decide +kernel) rfl) rfl) <|
  mc_1 (mk_p (ms_get (idx := 33) (w := 290) (host := none) mx_c9 (by decide) ml_f_LeagueOffice_Tables_33 (by decide +kernel)) rfl) <|
  mc_1 (mk_p (ms_iload_n (k := 1) (by decide +kernel) rfl) rfl) <|
  mc_1 (mk_c (k := mq_68) rfl ⟨mo_68, 80, 865, none, ml_m_LeagueOffice_Tables_80, Or.inr (Or.inr (Or.inl ⟨6, TX6, 2, by decide, rfl, rfl, (by decide +kernel), ⟨1, rfl, mx_npd (by decide +kernel)⟩, ml_in_591, ml_se_592⟩))⟩) <|
  mc_1 (mk_p (ms_aload_n (k := 0) (by decide +kernel) rfl) rfl) <|
  mc_1 (mk_p (ms_get (idx := 36) (w := 291) (host := none) mx_c9 (by decide) ml_f_LeagueOffice_Tables_36 (by decide +kernel)) rfl) <|
  mc_1 (mk_p (ms_iload_n (k := 1) (by decide +kernel) rfl) rfl) <|
  mc_1 (mk_c (k := mq_68) rfl ⟨mo_68, 80, 865, none, ml_m_LeagueOffice_Tables_80, Or.inr (Or.inr (Or.inl ⟨6, TX6, 2, by decide, rfl, rfl, (by decide +kernel), ⟨1, rfl, mx_npd (by decide +kernel)⟩, ml_in_591, ml_se_592⟩))⟩) <| mc_0
theorem mw_103_3 : ∀ e ∈ mt_103_3, mx_Ok mx_MT mq_103 e.1 e.2 := 
  mc_1 (mk_c (k := mq_114) rfl ⟨mo_114, 124, 928, none, ml_m_LeagueOffice_Tables_124, Or.inr (Or.inr (Or.inl ⟨10, TX10, 8, by decide, rfl, rfl, (by decide +kernel), ⟨4, rfl, mx_npd (by decide +kernel)⟩, ml_in_929, ml_se_930⟩))⟩) <|
  mc_1 (mk_c (k := mq_69) rfl ⟨mo_69, 121, 884, none, ml_m_LeagueOffice_Tables_121, Or.inr (Or.inr (Or.inl ⟨6, TX6, 2, by decide, rfl, rfl, (by decide +kernel), ⟨2, rfl, mx_npd (by decide +kernel)⟩, ml_in_665, ml_se_666⟩))⟩) <|
  mc_1 (mk_p (ms_aload_n (k := 0) (by decide +kernel) rfl) rfl) <|
  mc_1 (mk_p (ms_get (idx := 42) (w := 293) (host := none) mx_c9 (by decide) ml_f_LeagueOffice_Tables_42 (by decide +kernel)) rfl) <|
  mc_1 (mk_p (ms_iload_n (k := 1) (by decide +kernel) rfl) rfl) <|
  mc_1 (mk_p (ms_iconst (n := 1) (by decide +kernel) (by decide +kernel)) rfl) <|
  mc_1 (mk_c (k := mq_69) rfl ⟨mo_69, 121, 884, none, ml_m_LeagueOffice_Tables_121, Or.inr (Or.inr (Or.inl ⟨6, TX6, 2, by decide, rfl, rfl, (by decide +kernel), ⟨2, rfl, mx_npd (by decide +kernel)⟩, ml_in_665, ml_se_666⟩))⟩) <|
  mc_1 (mk_p (ms_aload_n (k := 0) (by decide +kernel) rfl) rfl) <| mc_0
theorem mw_103_4 : ∀ e ∈ mt_103_4, mx_Ok mx_MT mq_103 e.1 e.2 := 
  mc_1 (mk_p (ms_get (idx := 39) (w := 292) (host := none) mx_c9 (by decide) ml_f_LeagueOffice_Tables_39 (by decide +kernel)) rfl) <|
  mc_1 (mk_p (ms_iload_n (k := 1) (by decide +kernel) rfl) rfl) <|
  mc_1 (mk_c (k := mq_68) rfl ⟨mo_68, 80, 865, none, ml_m_LeagueOffice_Tables_80, Or.inr (Or.inr (Or.inl ⟨6, TX6, 2, by decide, rfl, rfl, (by decide +kernel), ⟨1, rfl, mx_npd (by decide +kernel)⟩, ml_in_591, ml_se_592⟩))⟩) <|
  mc_1 (mk_r (Or.inl ⟨rfl, by decide +kernel, _, rfl, mf_0⟩) rfl) <| mc_0
theorem mw_103 : ∀ ch ∈ mt_103, ∀ e ∈ ch, mx_Ok mx_MT mq_103 e.1 e.2 := mc_2 mw_103_0 <| mc_2 mw_103_1 <| mc_2 mw_103_2 <| mc_2 mw_103_3 <| mc_2 mw_103_4 <| mc_3
/- 104 LeagueOffice$Tables.placeOf(I)I -/
theorem mw_104_0 : ∀ e ∈ mt_104_0, mx_Ok mx_MT mq_104 e.1 e.2 := 
  mc_1 (mk_p (ms_aload_n (k := 0) (by decide +kernel) rfl) rfl) <|
  mc_1 (mk_p (ms_get (idx := 45) (w := 280) (host := none) mx_c9 (by decide) ml_f_LeagueOffice_Tables_45 (by decide +kernel)) rfl) <|
  mc_1 (mk_p (ms_get (idx := 128) (w := 138) (host := (some "LeagueOffice")) mx_c0 (by decide) ml_f_LeagueOffice_Tables_128 (by decide +kernel)) rfl) <|
  mc_1 (mk_p (ms_iload_n (k := 1) (by decide +kernel) rfl) rfl) <|
  mc_1 (mk_c (k := mq_68) rfl ⟨mo_68, 80, 865, none, ml_m_LeagueOffice_Tables_80, Or.inr (Or.inr (Or.inl ⟨6, TX6, 2, by decide, rfl, rfl, (by decide +kernel), ⟨1, rfl, mx_npd (by decide +kernel)⟩, ml_in_591, ml_se_592⟩))⟩) <|
  mc_1 (mk_p (ms_istore_n (k := 2) (by decide +kernel) rfl (by decide)) rfl) <|
  mc_1 (mk_p (ms_iconst (n := 0) (by decide +kernel) (by decide +kernel)) rfl) <|
  mc_1 (mk_p (ms_istore_n (k := 3) (by decide +kernel) rfl (by decide)) rfl) <|
  mc_1 (mk_p (ms_iconst (n := 0) (by decide +kernel) (by decide +kernel)) rfl) <|
  mc_1 (mk_p (ms_istore (by decide +kernel) (by decide)) rfl) <| mc_0
theorem mw_104_1 : ∀ e ∈ mt_104_1, mx_Ok mx_MT mq_104 e.1 e.2 := 
  mc_1 (mk_p (ms_iload (by decide +kernel)) rfl) <|
  mc_1 (mk_p (ms_aload_n (k := 0) (by decide +kernel) rfl) rfl) <|
  mc_1 (mk_p (ms_get (idx := 45) (w := 280) (host := none) mx_c9 (by decide) ml_f_LeagueOffice_Tables_45 (by decide +kernel)) rfl) <|
  mc_1 (mk_p (ms_get (idx := 128) (w := 138) (host := (some "LeagueOffice")) mx_c0 (by decide) ml_f_LeagueOffice_Tables_128 (by decide +kernel)) rfl) <|
  mc_1 (mk_c (k := mq_65) rfl ⟨mo_65, 73, 864, none, ml_m_LeagueOffice_Tables_73, Or.inr (Or.inr (Or.inl ⟨6, TX6, 2, by decide, rfl, rfl, (by decide +kernel), ⟨0, rfl, mx_npd (by decide +kernel)⟩, ml_in_587, ml_se_588⟩))⟩) <|
  mc_1 (mk_p (ms_icmp_ge (off := (94)) (by decide +kernel) (by decide)) rfl) <| mc_0
theorem mw_104_2 : ∀ e ∈ mt_104_2, mx_Ok mx_MT mq_104 e.1 e.2 := 
  mc_1 (mk_p (ms_iload (by decide +kernel)) rfl) <|
  mc_1 (mk_p (ms_iload_n (k := 1) (by decide +kernel) rfl) rfl) <|
  mc_1 (mk_p (ms_icmp_eq (off := (82)) (by decide +kernel) (by decide)) rfl) <|
  mc_1 (mk_p (ms_aload_n (k := 0) (by decide +kernel) rfl) rfl) <|
  mc_1 (mk_p (ms_get (idx := 45) (w := 280) (host := none) mx_c9 (by decide) ml_f_LeagueOffice_Tables_45 (by decide +kernel)) rfl) <|
  mc_1 (mk_p (ms_get (idx := 128) (w := 138) (host := (some "LeagueOffice")) mx_c0 (by decide) ml_f_LeagueOffice_Tables_128 (by decide +kernel)) rfl) <|
  mc_1 (mk_p (ms_iload (by decide +kernel)) rfl) <|
  mc_1 (mk_c (k := mq_68) rfl ⟨mo_68, 80, 865, none, ml_m_LeagueOffice_Tables_80, Or.inr (Or.inr (Or.inl ⟨6, TX6, 2, by decide, rfl, rfl, (by decide +kernel), ⟨1, rfl, mx_npd (by decide +kernel)⟩, ml_in_591, ml_se_592⟩))⟩) <| mc_0
theorem mw_104_3 : ∀ e ∈ mt_104_3, mx_Ok mx_MT mq_104 e.1 e.2 := 
  mc_1 (mk_p (ms_iload_n (k := 2) (by decide +kernel) rfl) rfl) <|
  mc_1 (mk_p (ms_icmp_eq (off := (6)) (by decide +kernel) (by decide)) rfl) <|
  mc_1 (mk_p (ms_goto (off := (63)) (by decide +kernel) (by decide)) rfl) <|
  mc_1 (mk_p (ms_aload_n (k := 0) (by decide +kernel) rfl) rfl) <|
  mc_1 (mk_p (ms_iload (by decide +kernel)) rfl) <|
  mc_1 (mk_c (k := mq_102) rfl ⟨mo_102, 131, 944, none, ml_m_LeagueOffice_Tables_131, Or.inr (Or.inr (Or.inl ⟨9, TX9, 12, by decide, rfl, rfl, (by decide +kernel), ⟨1, rfl, mx_npd (by decide +kernel)⟩, ml_in_917, ml_se_918⟩))⟩) <|
  mc_1 (mk_p (ms_aload_n (k := 0) (by decide +kernel) rfl) rfl) <| mc_0
theorem mw_104_4 : ∀ e ∈ mt_104_4, mx_Ok mx_MT mq_104 e.1 e.2 := 
  mc_1 (mk_p (ms_iload_n (k := 1) (by decide +kernel) rfl) rfl) <|
  mc_1 (mk_c (k := mq_102) rfl ⟨mo_102, 131, 944, none, ml_m_LeagueOffice_Tables_131, Or.inr (Or.inr (Or.inl ⟨9, TX9, 12, by decide, rfl, rfl, (by decide +kernel), ⟨1, rfl, mx_npd (by decide +kernel)⟩, ml_in_917, ml_se_918⟩))⟩) <|
  mc_1 (mk_p (ms_lsub (by decide +kernel)) rfl) <|
  mc_1 (mk_p (ms_lstore (by decide +kernel) (by decide)) rfl) <|
  mc_1 (mk_p (ms_lload (by decide +kernel)) rfl) <|
  mc_1 (mk_p (ms_lconst (n := 0) (by decide +kernel) rfl) rfl) <|
  mc_1 (mk_p (ms_lcmp (by decide +kernel)) rfl) <|
  mc_1 (mk_p (ms_if_ne (off := (19)) (by decide +kernel) (by decide)) rfl) <|
  mc_1 (mk_p (ms_aload_n (k := 0) (by decide +kernel) rfl) rfl) <|
  mc_1 (mk_p (ms_iload (by decide +kernel)) rfl) <| mc_0
theorem mw_104_5 : ∀ e ∈ mt_104_5, mx_Ok mx_MT mq_104 e.1 e.2 := 
  mc_1 (mk_c (k := mq_103) rfl ⟨mo_103, 135, 945, none, ml_m_LeagueOffice_Tables_135, Or.inr (Or.inr (Or.inl ⟨9, TX9, 12, by decide, rfl, rfl, (by decide +kernel), ⟨1, rfl, mx_npd (by decide +kernel)⟩, ml_in_925, ml_se_926⟩))⟩) <|
  mc_1 (mk_p (ms_i2l (by decide +kernel)) rfl) <|
  mc_1 (mk_p (ms_aload_n (k := 0) (by decide +kernel) rfl) rfl) <|
  mc_1 (mk_p (ms_iload_n (k := 1) (by decide +kernel) rfl) rfl) <|
  mc_1 (mk_c (k := mq_103) rfl ⟨mo_103, 135, 945, none, ml_m_LeagueOffice_Tables_135, Or.inr (Or.inr (Or.inl ⟨9, TX9, 12, by decide, rfl, rfl, (by decide +kernel), ⟨1, rfl, mx_npd (by decide +kernel)⟩, ml_in_925, ml_se_926⟩))⟩) <|
  mc_1 (mk_p (ms_i2l (by decide +kernel)) rfl) <|
  mc_1 (mk_p (ms_lsub (by decide +kernel)) rfl) <|
  mc_1 (mk_p (ms_lstore (by decide +kernel) (by decide)) rfl) <|
  mc_1 (mk_p (ms_lload (by decide +kernel)) rfl) <| mc_0
theorem mw_104_6 : ∀ e ∈ mt_104_6, mx_Ok mx_MT mq_104 e.1 e.2 := 
  mc_1 (mk_p (ms_lconst (n := 0) (by decide +kernel) rfl) rfl) <|
  mc_1 (mk_p (ms_lcmp (by decide +kernel)) rfl) <|
  mc_1 (mk_p (ms_if_gt (off := (16)) (by decide +kernel) (by decide)) rfl) <|
  mc_1 (mk_p (ms_lload (by decide +kernel)) rfl) <|
  mc_1 (mk_p (ms_lconst (n := 0) (by decide +kernel) rfl) rfl) <|
  mc_1 (mk_p (ms_lcmp (by decide +kernel)) rfl) <|
  mc_1 (mk_p (ms_if_ne (off := (12)) (by decide +kernel) (by decide)) rfl) <|
  mc_1 (mk_p (ms_iload (by decide +kernel)) rfl) <|
  mc_1 (mk_p (ms_iload_n (k := 1) (by decide +kernel) rfl) rfl) <|
  mc_1 (mk_p (ms_icmp_ge (off := (6)) (by decide +kernel) (by decide)) rfl) <| mc_0
theorem mw_104_7 : ∀ e ∈ mt_104_7, mx_Ok mx_MT mq_104 e.1 e.2 := 
  mc_1 (mk_p (ms_iinc (n := (1)) (by decide +kernel) (by decide +kernel) (by decide)) rfl) <|
  mc_1 (mk_p (ms_iinc (n := (1)) (by decide +kernel) (by decide +kernel) (by decide)) rfl) <|
  mc_1 (mk_p (ms_goto (off := (-103)) (by decide +kernel) (by decide)) rfl) <|
  mc_1 (mk_p (ms_iload_n (k := 3) (by decide +kernel) rfl) rfl) <|
  mc_1 (mk_r (Or.inl ⟨rfl, by decide +kernel, _, rfl, mf_0⟩) rfl) <| mc_0
theorem mw_104 : ∀ ch ∈ mt_104, ∀ e ∈ ch, mx_Ok mx_MT mq_104 e.1 e.2 := mc_2 mw_104_0 <| mc_2 mw_104_1 <| mc_2 mw_104_2 <| mc_2 mw_104_3 <| mc_2 mw_104_4 <| mc_2 mw_104_5 <| mc_2 mw_104_6 <| mc_2 mw_104_7 <| mc_3
/- 105 LeagueOffice$Tables.clubAt(II)I -/
theorem mw_105_0 : ∀ e ∈ mt_105_0, mx_Ok mx_MT mq_105 e.1 e.2 := 
  mc_1 (mk_p (ms_iconst (n := 0) (by decide +kernel) (by decide +kernel)) rfl) <|
  mc_1 (mk_p (ms_istore_n (k := 3) (by decide +kernel) rfl (by decide)) rfl) <|
  mc_1 (mk_p (ms_iload_n (k := 3) (by decide +kernel) rfl) rfl) <|
  mc_1 (mk_p (ms_aload_n (k := 0) (by decide +kernel) rfl) rfl) <|
  mc_1 (mk_p (ms_get (idx := 45) (w := 280) (host := none) mx_c9 (by decide) ml_f_LeagueOffice_Tables_45 (by decide +kernel)) rfl) <|
  mc_1 (mk_p (ms_get (idx := 128) (w := 138) (host := (some "LeagueOffice")) mx_c0 (by decide) ml_f_LeagueOffice_Tables_128 (by decide +kernel)) rfl) <|
  mc_1 (mk_c (k := mq_65) rfl ⟨mo_65, 73, 864, none, ml_m_LeagueOffice_Tables_73, Or.inr (Or.inr (Or.inl ⟨6, TX6, 2, by decide, rfl, rfl, (by decide +kernel), ⟨0, rfl, mx_npd (by decide +kernel)⟩, ml_in_587, ml_se_588⟩))⟩) <|
  mc_1 (mk_p (ms_icmp_ge (off := (35)) (by decide +kernel) (by decide)) rfl) <| mc_0
theorem mw_105_1 : ∀ e ∈ mt_105_1, mx_Ok mx_MT mq_105 e.1 e.2 := 
  mc_1 (mk_p (ms_aload_n (k := 0) (by decide +kernel) rfl) rfl) <|
  mc_1 (mk_p (ms_get (idx := 45) (w := 280) (host := none) mx_c9 (by decide) ml_f_LeagueOffice_Tables_45 (by decide +kernel)) rfl) <|
  mc_1 (mk_p (ms_get (idx := 128) (w := 138) (host := (some "LeagueOffice")) mx_c0 (by decide) ml_f_LeagueOffice_Tables_128 (by decide +kernel)) rfl) <|
  mc_1 (mk_p (ms_iload_n (k := 3) (by decide +kernel) rfl) rfl) <|
  mc_1 (mk_c (k := mq_68) rfl ⟨mo_68, 80, 865, none, ml_m_LeagueOffice_Tables_80, Or.inr (Or.inr (Or.inl ⟨6, TX6, 2, by decide, rfl, rfl, (by decide +kernel), ⟨1, rfl, mx_npd (by decide +kernel)⟩, ml_in_591, ml_se_592⟩))⟩) <|
  mc_1 (mk_p (ms_iload_n (k := 1) (by decide +kernel) rfl) rfl) <|
  mc_1 (mk_p (ms_icmp_ne (off := (14)) (by decide +kernel) (by decide)) rfl) <|
  mc_1 (mk_p (ms_aload_n (k := 0) (by decide +kernel) rfl) rfl) <| mc_0
theorem mw_105_2 : ∀ e ∈ mt_105_2, mx_Ok mx_MT mq_105 e.1 e.2 := 
  mc_1 (mk_p (ms_iload_n (k := 3) (by decide +kernel) rfl) rfl) <|
  mc_1 (mk_c (k := mq_104) rfl ⟨mo_104, 138, 940, none, ml_m_LeagueOffice_Tables_138, Or.inr (Or.inr (Or.inl ⟨9, TX9, 12, by decide, rfl, rfl, (by decide +kernel), ⟨1, rfl, mx_npd (by decide +kernel)⟩, ml_in_941, ml_se_942⟩))⟩) <|
  mc_1 (mk_p (ms_iload_n (k := 2) (by decide +kernel) rfl) rfl) <|
  mc_1 (mk_p (ms_icmp_ne (off := (5)) (by decide +kernel) (by decide)) rfl) <|
  mc_1 (mk_p (ms_iload_n (k := 3) (by decide +kernel) rfl) rfl) <|
  mc_1 (mk_r (Or.inl ⟨rfl, by decide +kernel, _, rfl, mf_0⟩) rfl) <|
  mc_1 (mk_p (ms_iinc (n := (1)) (by decide +kernel) (by decide +kernel) (by decide)) rfl) <|
  mc_1 (mk_p (ms_goto (off := (-43)) (by decide +kernel) (by decide)) rfl) <| mc_0
theorem mw_105_3 : ∀ e ∈ mt_105_3, mx_Ok mx_MT mq_105 e.1 e.2 := 
  mc_1 (mk_p (ms_iconst (n := (-1)) (by decide +kernel) (by decide +kernel)) rfl) <|
  mc_1 (mk_r (Or.inl ⟨rfl, by decide +kernel, _, rfl, mf_0⟩) rfl) <| mc_0
theorem mw_105 : ∀ ch ∈ mt_105, ∀ e ∈ ch, mx_Ok mx_MT mq_105 e.1 e.2 := mc_2 mw_105_0 <| mc_2 mw_105_1 <| mc_2 mw_105_2 <| mc_2 mw_105_3 <| mc_3
/- 106 LeagueOffice$Texts.<init>()V -/
theorem mw_106_0 : ∀ e ∈ mt_106_0, mx_Ok mx_MT mq_106 e.1 e.2 := 
  mc_1 (mk_p (ms_aload_n (k := 0) (by decide +kernel) rfl) rfl) <|
  mc_1 (mk_p (ms_obj (idx := 3) 212 103 104 (by decide +kernel) (by decide +kernel) (by decide +kernel) (by decide +kernel)) rfl) <|
  mc_1 (mk_p (ms_aload_n (k := 0) (by decide +kernel) rfl) rfl) <|
  mc_1 (mk_p (mn_6 (idx := 9) 213 (by decide +kernel) (by decide +kernel)) rfl) <|
  mc_1 (mk_p (ms_dup (by decide +kernel)) rfl) <|
  mc_1 (mk_p (ms_sipush (n := 960) (by decide +kernel) (by decide +kernel)) rfl) <|
  mc_1 (mk_c (k := mq_64) rfl ⟨mo_64, 11, 214, none, ml_m_LeagueOffice_Texts_11, Or.inr (Or.inl ⟨rfl, (by decide +kernel), ⟨1, rfl, mx_npd (by decide +kernel)⟩, ml_in_114, rfl, rfl⟩)⟩) <|
  mc_1 (mk_p (ms_putF (idx := 14) (w := 218) mx_c10 (by decide) ml_f_LeagueOffice_Texts_14 rfl rfl rfl rfl (by decide +kernel)) rfl) <| mc_0
theorem mw_106_1 : ∀ e ∈ mt_106_1, mx_Ok mx_MT mq_106 e.1 e.2 := 
  mc_1 (mk_p (ms_aload_n (k := 0) (by decide +kernel) rfl) rfl) <|
  mc_1 (mk_p (mn_6 (idx := 9) 213 (by decide +kernel) (by decide +kernel)) rfl) <|
  mc_1 (mk_p (ms_dup (by decide +kernel)) rfl) <|
  mc_1 (mk_p (ms_bipush (n := 24) (by decide +kernel) (by decide +kernel)) rfl) <|
  mc_1 (mk_c (k := mq_64) rfl ⟨mo_64, 11, 214, none, ml_m_LeagueOffice_Texts_11, Or.inr (Or.inl ⟨rfl, (by decide +kernel), ⟨1, rfl, mx_npd (by decide +kernel)⟩, ml_in_114, rfl, rfl⟩)⟩) <|
  mc_1 (mk_p (ms_putF (idx := 20) (w := 219) mx_c10 (by decide) ml_f_LeagueOffice_Texts_20 rfl rfl rfl rfl (by decide +kernel)) rfl) <|
  mc_1 (mk_p (ms_aload_n (k := 0) (by decide +kernel) rfl) rfl) <| mc_0
theorem mw_106_2 : ∀ e ∈ mt_106_2, mx_Ok mx_MT mq_106 e.1 e.2 := 
  mc_1 (mk_p (mn_6 (idx := 9) 213 (by decide +kernel) (by decide +kernel)) rfl) <|
  mc_1 (mk_p (ms_dup (by decide +kernel)) rfl) <|
  mc_1 (mk_p (ms_bipush (n := 24) (by decide +kernel) (by decide +kernel)) rfl) <|
  mc_1 (mk_c (k := mq_64) rfl ⟨mo_64, 11, 214, none, ml_m_LeagueOffice_Texts_11, Or.inr (Or.inl ⟨rfl, (by decide +kernel), ⟨1, rfl, mx_npd (by decide +kernel)⟩, ml_in_114, rfl, rfl⟩)⟩) <|
  mc_1 (mk_p (ms_putF (idx := 23) (w := 220) mx_c10 (by decide) ml_f_LeagueOffice_Texts_23 rfl rfl rfl rfl (by decide +kernel)) rfl) <|
  mc_1 (mk_p (ms_aload_n (k := 0) (by decide +kernel) rfl) rfl) <|
  mc_1 (mk_p (mn_6 (idx := 9) 213 (by decide +kernel) (by decide +kernel)) rfl) <| mc_0
theorem mw_106_3 : ∀ e ∈ mt_106_3, mx_Ok mx_MT mq_106 e.1 e.2 := 
  mc_1 (mk_p (ms_dup (by decide +kernel)) rfl) <|
  mc_1 (mk_p (ms_bipush (n := 6) (by decide +kernel) (by decide +kernel)) rfl) <|
  mc_1 (mk_c (k := mq_64) rfl ⟨mo_64, 11, 214, none, ml_m_LeagueOffice_Texts_11, Or.inr (Or.inl ⟨rfl, (by decide +kernel), ⟨1, rfl, mx_npd (by decide +kernel)⟩, ml_in_114, rfl, rfl⟩)⟩) <|
  mc_1 (mk_p (ms_putF (idx := 26) (w := 221) mx_c10 (by decide) ml_f_LeagueOffice_Texts_26 rfl rfl rfl rfl (by decide +kernel)) rfl) <|
  mc_1 (mk_p (ms_aload_n (k := 0) (by decide +kernel) rfl) rfl) <|
  mc_1 (mk_p (mn_6 (idx := 9) 213 (by decide +kernel) (by decide +kernel)) rfl) <|
  mc_1 (mk_p (ms_dup (by decide +kernel)) rfl) <|
  mc_1 (mk_p (ms_sipush (n := 160) (by decide +kernel) (by decide +kernel)) rfl) <| mc_0
theorem mw_106_4 : ∀ e ∈ mt_106_4, mx_Ok mx_MT mq_106 e.1 e.2 := 
  mc_1 (mk_c (k := mq_64) rfl ⟨mo_64, 11, 214, none, ml_m_LeagueOffice_Texts_11, Or.inr (Or.inl ⟨rfl, (by decide +kernel), ⟨1, rfl, mx_npd (by decide +kernel)⟩, ml_in_114, rfl, rfl⟩)⟩) <|
  mc_1 (mk_p (ms_putF (idx := 29) (w := 222) mx_c10 (by decide) ml_f_LeagueOffice_Texts_29 rfl rfl rfl rfl (by decide +kernel)) rfl) <|
  mc_1 (mk_p (ms_aload_n (k := 0) (by decide +kernel) rfl) rfl) <|
  mc_1 (mk_p (mn_6 (idx := 9) 213 (by decide +kernel) (by decide +kernel)) rfl) <|
  mc_1 (mk_p (ms_dup (by decide +kernel)) rfl) <|
  mc_1 (mk_p (ms_bipush (n := 20) (by decide +kernel) (by decide +kernel)) rfl) <|
  mc_1 (mk_c (k := mq_64) rfl ⟨mo_64, 11, 214, none, ml_m_LeagueOffice_Texts_11, Or.inr (Or.inl ⟨rfl, (by decide +kernel), ⟨1, rfl, mx_npd (by decide +kernel)⟩, ml_in_114, rfl, rfl⟩)⟩) <| mc_0
theorem mw_106_5 : ∀ e ∈ mt_106_5, mx_Ok mx_MT mq_106 e.1 e.2 := 
  mc_1 (mk_p (ms_putF (idx := 32) (w := 223) mx_c10 (by decide) ml_f_LeagueOffice_Texts_32 rfl rfl rfl rfl (by decide +kernel)) rfl) <|
  mc_1 (mk_p (ms_aload_n (k := 0) (by decide +kernel) rfl) rfl) <|
  mc_1 (mk_p (mn_6 (idx := 9) 213 (by decide +kernel) (by decide +kernel)) rfl) <|
  mc_1 (mk_p (ms_dup (by decide +kernel)) rfl) <|
  mc_1 (mk_p (ms_bipush (n := 20) (by decide +kernel) (by decide +kernel)) rfl) <|
  mc_1 (mk_c (k := mq_64) rfl ⟨mo_64, 11, 214, none, ml_m_LeagueOffice_Texts_11, Or.inr (Or.inl ⟨rfl, (by decide +kernel), ⟨1, rfl, mx_npd (by decide +kernel)⟩, ml_in_114, rfl, rfl⟩)⟩) <|
  mc_1 (mk_p (ms_putF (idx := 35) (w := 225) mx_c10 (by decide) ml_f_LeagueOffice_Texts_35 rfl rfl rfl rfl (by decide +kernel)) rfl) <| mc_0
theorem mw_106_6 : ∀ e ∈ mt_106_6, mx_Ok mx_MT mq_106 e.1 e.2 := 
  mc_1 (mk_r (Or.inr (Or.inr (Or.inr ⟨rfl, by decide +kernel, rfl⟩))) rfl) <| mc_0
theorem mw_106 : ∀ ch ∈ mt_106, ∀ e ∈ ch, mx_Ok mx_MT mq_106 e.1 e.2 := mc_2 mw_106_0 <| mc_2 mw_106_1 <| mc_2 mw_106_2 <| mc_2 mw_106_3 <| mc_2 mw_106_4 <| mc_2 mw_106_5 <| mc_2 mw_106_6 <| mc_3
/- 107 LeagueOffice$Texts.begin()V -/
theorem mw_107_0 : ∀ e ∈ mt_107_0, mx_Ok mx_MT mq_107 e.1 e.2 := 
  mc_1 (mk_p (ms_aload_n (k := 0) (by decide +kernel) rfl) rfl) <|
  mc_1 (mk_p (ms_get (idx := 14) (w := 218) (host := none) mx_c10 (by decide) ml_f_LeagueOffice_Texts_14 (by decide +kernel)) rfl) <|
  mc_1 (mk_p (ms_aload_n (k := 0) (by decide +kernel) rfl) rfl) <|
  mc_1 (mk_p (ms_get (idx := 38) (w := 215) (host := none) mx_c10 (by decide) ml_f_LeagueOffice_Texts_38 (by decide +kernel)) rfl) <|
  mc_1 (mk_p (ms_if_ne (off := (7)) (by decide +kernel) (by decide)) rfl) <|
  mc_1 (mk_p (ms_iconst (n := 0) (by decide +kernel) (by decide +kernel)) rfl) <|
  mc_1 (mk_p (ms_goto (off := (18)) (by decide +kernel) (by decide)) rfl) <|
  mc_1 (mk_p (ms_aload_n (k := 0) (by decide +kernel) rfl) rfl) <| mc_0
theorem mw_107_1 : ∀ e ∈ mt_107_1, mx_Ok mx_MT mq_107 e.1 e.2 := 
  mc_1 (mk_p (ms_get (idx := 23) (w := 220) (host := none) mx_c10 (by decide) ml_f_LeagueOffice_Texts_23 (by decide +kernel)) rfl) <|
  mc_1 (mk_p (ms_aload_n (k := 0) (by decide +kernel) rfl) rfl) <|
  mc_1 (mk_p (ms_get (idx := 38) (w := 215) (host := none) mx_c10 (by decide) ml_f_LeagueOffice_Texts_38 (by decide +kernel)) rfl) <|
  mc_1 (mk_p (ms_iconst (n := 4) (by decide +kernel) (by decide +kernel)) rfl) <|
  mc_1 (mk_p (ms_imul (by decide +kernel)) rfl) <|
  mc_1 (mk_p (ms_iconst (n := 1) (by decide +kernel) (by decide +kernel)) rfl) <|
  mc_1 (mk_p (ms_isub (by decide +kernel)) rfl) <|
  mc_1 (mk_c (k := mq_68) rfl ⟨mo_68, 42, 650, none, ml_m_LeagueOffice_Texts_42, Or.inr (Or.inr (Or.inl ⟨6, TX6, 2, by decide, rfl, rfl, (by decide +kernel), ⟨1, rfl, mx_npd (by decide +kernel)⟩, ml_in_591, ml_se_592⟩))⟩) <|
  mc_1 (mk_p (ms_put (idx := 46) (w := 122) (host := (some "LeagueOffice")) mx_c6 (by decide) ml_f_LeagueOffice_Texts_46 rfl rfl (by decide +kernel)) rfl) <| mc_0
theorem mw_107_2 : ∀ e ∈ mt_107_2, mx_Ok mx_MT mq_107 e.1 e.2 := 
  mc_1 (mk_r (Or.inr (Or.inr (Or.inr ⟨rfl, by decide +kernel, rfl⟩))) rfl) <| mc_0
theorem mw_107 : ∀ ch ∈ mt_107, ∀ e ∈ ch, mx_Ok mx_MT mq_107 e.1 e.2 := mc_2 mw_107_0 <| mc_2 mw_107_1 <| mc_2 mw_107_2 <| mc_3
/- 108 LeagueOffice$Texts.beginPart(I)V -/
theorem mw_108_0 : ∀ e ∈ mt_108_0, mx_Ok mx_MT mq_108 e.1 e.2 := 
  mc_1 (mk_p (ms_aload_n (k := 0) (by decide +kernel) rfl) rfl) <|
  mc_1 (mk_p (ms_get (idx := 20) (w := 219) (host := none) mx_c10 (by decide) ml_f_LeagueOffice_Texts_20 (by decide +kernel)) rfl) <|
  mc_1 (mk_p (ms_aload_n (k := 0) (by decide +kernel) rfl) rfl) <|
  mc_1 (mk_p (ms_get (idx := 38) (w := 215) (host := none) mx_c10 (by decide) ml_f_LeagueOffice_Texts_38 (by decide +kernel)) rfl) <|
  mc_1 (mk_p (ms_iconst (n := 4) (by decide +kernel) (by decide +kernel)) rfl) <|
  mc_1 (mk_p (ms_imul (by decide +kernel)) rfl) <|
  mc_1 (mk_p (ms_iload_n (k := 1) (by decide +kernel) rfl) rfl) <|
  mc_1 (mk_p (ms_iadd (by decide +kernel)) rfl) <|
  mc_1 (mk_p (ms_aload_n (k := 0) (by decide +kernel) rfl) rfl) <|
  mc_1 (mk_p (ms_get (idx := 14) (w := 218) (host := none) mx_c10 (by decide) ml_f_LeagueOffice_Texts_14 (by decide +kernel)) rfl) <| mc_0
theorem mw_108_1 : ∀ e ∈ mt_108_1, mx_Ok mx_MT mq_108 e.1 e.2 := 
  mc_1 (mk_c (k := mq_65) rfl ⟨mo_65, 49, 663, none, ml_m_LeagueOffice_Texts_49, Or.inr (Or.inr (Or.inl ⟨6, TX6, 2, by decide, rfl, rfl, (by decide +kernel), ⟨0, rfl, mx_npd (by decide +kernel)⟩, ml_in_587, ml_se_588⟩))⟩) <|
  mc_1 (mk_c (k := mq_69) rfl ⟨mo_69, 52, 664, none, ml_m_LeagueOffice_Texts_52, Or.inr (Or.inr (Or.inl ⟨6, TX6, 2, by decide, rfl, rfl, (by decide +kernel), ⟨2, rfl, mx_npd (by decide +kernel)⟩, ml_in_665, ml_se_666⟩))⟩) <|
  mc_1 (mk_r (Or.inr (Or.inr (Or.inr ⟨rfl, by decide +kernel, rfl⟩))) rfl) <| mc_0
theorem mw_108 : ∀ ch ∈ mt_108, ∀ e ∈ ch, mx_Ok mx_MT mq_108 e.1 e.2 := mc_2 mw_108_0 <| mc_2 mw_108_1 <| mc_3
/- 109 LeagueOffice$Texts.endPart(I)V -/
theorem mw_109_0 : ∀ e ∈ mt_109_0, mx_Ok mx_MT mq_109 e.1 e.2 := 
  mc_1 (mk_p (ms_aload_n (k := 0) (by decide +kernel) rfl) rfl) <|
  mc_1 (mk_p (ms_get (idx := 23) (w := 220) (host := none) mx_c10 (by decide) ml_f_LeagueOffice_Texts_23 (by decide +kernel)) rfl) <|
  mc_1 (mk_p (ms_aload_n (k := 0) (by decide +kernel) rfl) rfl) <|
  mc_1 (mk_p (ms_get (idx := 38) (w := 215) (host := none) mx_c10 (by decide) ml_f_LeagueOffice_Texts_38 (by decide +kernel)) rfl) <|
  mc_1 (mk_p (ms_iconst (n := 4) (by decide +kernel) (by decide +kernel)) rfl) <|
  mc_1 (mk_p (ms_imul (by decide +kernel)) rfl) <|
  mc_1 (mk_p (ms_iload_n (k := 1) (by decide +kernel) rfl) rfl) <|
  mc_1 (mk_p (ms_iadd (by decide +kernel)) rfl) <|
  mc_1 (mk_p (ms_aload_n (k := 0) (by decide +kernel) rfl) rfl) <|
  mc_1 (mk_p (ms_get (idx := 14) (w := 218) (host := none) mx_c10 (by decide) ml_f_LeagueOffice_Texts_14 (by decide +kernel)) rfl) <| mc_0
theorem mw_109_1 : ∀ e ∈ mt_109_1, mx_Ok mx_MT mq_109 e.1 e.2 := 
  mc_1 (mk_c (k := mq_65) rfl ⟨mo_65, 49, 663, none, ml_m_LeagueOffice_Texts_49, Or.inr (Or.inr (Or.inl ⟨6, TX6, 2, by decide, rfl, rfl, (by decide +kernel), ⟨0, rfl, mx_npd (by decide +kernel)⟩, ml_in_587, ml_se_588⟩))⟩) <|
  mc_1 (mk_c (k := mq_69) rfl ⟨mo_69, 52, 664, none, ml_m_LeagueOffice_Texts_52, Or.inr (Or.inr (Or.inl ⟨6, TX6, 2, by decide, rfl, rfl, (by decide +kernel), ⟨2, rfl, mx_npd (by decide +kernel)⟩, ml_in_665, ml_se_666⟩))⟩) <|
  mc_1 (mk_r (Or.inr (Or.inr (Or.inr ⟨rfl, by decide +kernel, rfl⟩))) rfl) <| mc_0
theorem mw_109 : ∀ ch ∈ mt_109, ∀ e ∈ ch, mx_Ok mx_MT mq_109 e.1 e.2 := mc_2 mw_109_0 <| mc_2 mw_109_1 <| mc_3
/- 110 LeagueOffice$Texts.emitNumber(I)V -/
theorem mw_110_0 : ∀ e ∈ mt_110_0, mx_Ok mx_MT mq_110 e.1 e.2 := 
  mc_1 (mk_p (ms_aload_n (k := 0) (by decide +kernel) rfl) rfl) <|
  mc_1 (mk_p (ms_get (idx := 14) (w := 218) (host := none) mx_c10 (by decide) ml_f_LeagueOffice_Texts_14 (by decide +kernel)) rfl) <|
  mc_1 (mk_p (ms_iload_n (k := 1) (by decide +kernel) rfl) rfl) <|
  mc_1 (mk_c (k := mq_71) rfl ⟨mo_71, 56, 680, none, ml_m_LeagueOffice_Texts_56, Or.inr (Or.inr (Or.inl ⟨6, TX6, 2, by decide, rfl, rfl, (by decide +kernel), ⟨1, rfl, mx_npd (by decide +kernel)⟩, ml_in_567, ml_se_568⟩))⟩) <|
  mc_1 (mk_p (ms_pop (by decide +kernel)) rfl) <|
  mc_1 (mk_r (Or.inr (Or.inr (Or.inr ⟨rfl, by decide +kernel, rfl⟩))) rfl) <| mc_0
theorem mw_110 : ∀ ch ∈ mt_110, ∀ e ∈ ch, mx_Ok mx_MT mq_110 e.1 e.2 := mc_2 mw_110_0 <| mc_3
/- 111 LeagueOffice$Texts.emitToken(I)V -/
theorem mw_111_0 : ∀ e ∈ mt_111_0, mx_Ok mx_MT mq_111 e.1 e.2 := 
  mc_1 (mk_p (ms_aload_n (k := 0) (by decide +kernel) rfl) rfl) <|
  mc_1 (mk_p (ms_get (idx := 14) (w := 218) (host := none) mx_c10 (by decide) ml_f_LeagueOffice_Texts_14 (by decide +kernel)) rfl) <|
  mc_1 (mk_p (ms_iconst (n := (-1)) (by decide +kernel) (by decide +kernel)) rfl) <|
  mc_1 (mk_p (ms_iload_n (k := 1) (by decide +kernel) rfl) rfl) <|
  mc_1 (mk_p (ms_isub (by decide +kernel)) rfl) <|
  mc_1 (mk_c (k := mq_71) rfl ⟨mo_71, 56, 680, none, ml_m_LeagueOffice_Texts_56, Or.inr (Or.inr (Or.inl ⟨6, TX6, 2, by decide, rfl, rfl, (by decide +kernel), ⟨1, rfl, mx_npd (by decide +kernel)⟩, ml_in_567, ml_se_568⟩))⟩) <|
  mc_1 (mk_p (ms_pop (by decide +kernel)) rfl) <|
  mc_1 (mk_r (Or.inr (Or.inr (Or.inr ⟨rfl, by decide +kernel, rfl⟩))) rfl) <| mc_0
theorem mw_111 : ∀ ch ∈ mt_111, ∀ e ∈ ch, mx_Ok mx_MT mq_111 e.1 e.2 := mc_2 mw_111_0 <| mc_3
/- 112 LeagueOffice$Texts.textFor(I)I -/
theorem mw_112_0 : ∀ e ∈ mt_112_0, mx_Ok mx_MT mq_112 e.1 e.2 := 
  mc_1 (mk_p (ms_iconst (n := 0) (by decide +kernel) (by decide +kernel)) rfl) <|
  mc_1 (mk_p (ms_istore_n (k := 2) (by decide +kernel) rfl (by decide)) rfl) <|
  mc_1 (mk_p (ms_iconst (n := (-1)) (by decide +kernel) (by decide +kernel)) rfl) <|
  mc_1 (mk_p (ms_istore_n (k := 3) (by decide +kernel) rfl (by decide)) rfl) <|
  mc_1 (mk_p (ms_iconst (n := 0) (by decide +kernel) (by decide +kernel)) rfl) <|
  mc_1 (mk_p (ms_istore (by decide +kernel) (by decide)) rfl) <|
  mc_1 (mk_p (ms_iload (by decide +kernel)) rfl) <|
  mc_1 (mk_p (ms_aload_n (k := 0) (by decide +kernel) rfl) rfl) <|
  mc_1 (mk_p (ms_get (idx := 32) (w := 223) (host := none) mx_c10 (by decide) ml_f_LeagueOffice_Texts_32 (by decide +kernel)) rfl) <|
  mc_1 (mk_c (k := mq_65) rfl ⟨mo_65, 49, 663, none, ml_m_LeagueOffice_Texts_49, Or.inr (Or.inr (Or.inl ⟨6, TX6, 2, by decide, rfl, rfl, (by decide +kernel), ⟨0, rfl, mx_npd (by decide +kernel)⟩, ml_in_587, ml_se_588⟩))⟩) <| mc_0
theorem mw_112_1 : ∀ e ∈ mt_112_1, mx_Ok mx_MT mq_112 e.1 e.2 := 
  mc_1 (mk_p (ms_icmp_ge (off := (45)) (by decide +kernel) (by decide)) rfl) <|
  mc_1 (mk_p (ms_aload_n (k := 0) (by decide +kernel) rfl) rfl) <|
  mc_1 (mk_p (ms_get (idx := 35) (w := 225) (host := none) mx_c10 (by decide) ml_f_LeagueOffice_Texts_35 (by decide +kernel)) rfl) <|
  mc_1 (mk_p (ms_iload (by decide +kernel)) rfl) <|
  mc_1 (mk_c (k := mq_68) rfl ⟨mo_68, 42, 650, none, ml_m_LeagueOffice_Texts_42, Or.inr (Or.inr (Or.inl ⟨6, TX6, 2, by decide, rfl, rfl, (by decide +kernel), ⟨1, rfl, mx_npd (by decide +kernel)⟩, ml_in_591, ml_se_592⟩))⟩) <|
  mc_1 (mk_p (ms_istore (by decide +kernel) (by decide)) rfl) <|
  mc_1 (mk_p (ms_iload (by decide +kernel)) rfl) <| mc_0
theorem mw_112_2 : ∀ e ∈ mt_112_2, mx_Ok mx_MT mq_112 e.1 e.2 := 
  mc_1 (mk_p (ms_iload_n (k := 1) (by decide +kernel) rfl) rfl) <|
  mc_1 (mk_p (ms_icmp_gt (off := (22)) (by decide +kernel) (by decide)) rfl) <|
  mc_1 (mk_p (ms_iload (by decide +kernel)) rfl) <|
  mc_1 (mk_p (ms_iload_n (k := 3) (by decide +kernel) rfl) rfl) <|
  mc_1 (mk_p (ms_icmp_lt (off := (16)) (by decide +kernel) (by decide)) rfl) <|
  mc_1 (mk_p (ms_iload (by decide +kernel)) rfl) <|
  mc_1 (mk_p (ms_istore_n (k := 3) (by decide +kernel) rfl (by decide)) rfl) <|
  mc_1 (mk_p (ms_aload_n (k := 0) (by decide +kernel) rfl) rfl) <|
  mc_1 (mk_p (ms_get (idx := 32) (w := 223) (host := none) mx_c10 (by decide) ml_f_LeagueOffice_Texts_32 (by decide +kernel)) rfl) <| mc_0
theorem mw_112_3 : ∀ e ∈ mt_112_3, mx_Ok mx_MT mq_112 e.1 e.2 := 
  mc_1 (mk_p (ms_iload (by decide +kernel)) rfl) <|
  mc_1 (mk_c (k := mq_68) rfl ⟨mo_68, 42, 650, none, ml_m_LeagueOffice_Texts_42, Or.inr (Or.inr (Or.inl ⟨6, TX6, 2, by decide, rfl, rfl, (by decide +kernel), ⟨1, rfl, mx_npd (by decide +kernel)⟩, ml_in_591, ml_se_592⟩))⟩) <|
  mc_1 (mk_p (ms_istore_n (k := 2) (by decide +kernel) rfl (by decide)) rfl) <|
  mc_1 (mk_p (ms_iinc (n := (1)) (by decide +kernel) (by decide +kernel) (by decide)) rfl) <|
  mc_1 (mk_p (ms_goto (off := (-51)) (by decide +kernel) (by decide)) rfl) <|
  mc_1 (mk_p (ms_iload_n (k := 2) (by decide +kernel) rfl) rfl) <|
  mc_1 (mk_r (Or.inl ⟨rfl, by decide +kernel, _, rfl, mf_0⟩) rfl) <| mc_0
theorem mw_112 : ∀ ch ∈ mt_112, ∀ e ∈ ch, mx_Ok mx_MT mq_112 e.1 e.2 := mc_2 mw_112_0 <| mc_2 mw_112_1 <| mc_2 mw_112_2 <| mc_2 mw_112_3 <| mc_3
/- 113 LeagueOffice$Texts.askGame(IIIIII)I -/
theorem mw_113_0 : ∀ e ∈ mt_113_0, mx_Ok mx_MT mq_113 e.1 e.2 := 
  mc_1 (mk_p (ms_aload_n (k := 0) (by decide +kernel) rfl) rfl) <|
  mc_1 (mk_p (ms_get (idx := 26) (w := 221) (host := none) mx_c10 (by decide) ml_f_LeagueOffice_Texts_26 (by decide +kernel)) rfl) <|
  mc_1 (mk_p (ms_iconst (n := 0) (by decide +kernel) (by decide +kernel)) rfl) <|
  mc_1 (mk_c (k := mq_76) rfl ⟨mo_76, 59, 898, none, ml_m_LeagueOffice_Texts_59, Or.inr (Or.inr (Or.inl ⟨6, TX6, 2, by decide, rfl, rfl, (by decide +kernel), ⟨1, rfl, mx_npd (by decide +kernel)⟩, ml_in_857, ml_se_858⟩))⟩) <|
  mc_1 (mk_p (ms_aload_n (k := 0) (by decide +kernel) rfl) rfl) <|
  mc_1 (mk_p (ms_get (idx := 26) (w := 221) (host := none) mx_c10 (by decide) ml_f_LeagueOffice_Texts_26 (by decide +kernel)) rfl) <|
  mc_1 (mk_p (ms_iconst (n := 0) (by decide +kernel) (by decide +kernel)) rfl) <|
  mc_1 (mk_p (ms_iload_n (k := 3) (by decide +kernel) rfl) rfl) <|
  mc_1 (mk_c (k := mq_69) rfl ⟨mo_69, 52, 664, none, ml_m_LeagueOffice_Texts_52, Or.inr (Or.inr (Or.inl ⟨6, TX6, 2, by decide, rfl, rfl, (by decide +kernel), ⟨2, rfl, mx_npd (by decide +kernel)⟩, ml_in_665, ml_se_666⟩))⟩) <| mc_0
theorem mw_113_1 : ∀ e ∈ mt_113_1, mx_Ok mx_MT mq_113 e.1 e.2 := 
  mc_1 (mk_p (ms_aload_n (k := 0) (by decide +kernel) rfl) rfl) <|
  mc_1 (mk_p (ms_get (idx := 26) (w := 221) (host := none) mx_c10 (by decide) ml_f_LeagueOffice_Texts_26 (by decide +kernel)) rfl) <|
  mc_1 (mk_p (ms_iconst (n := 1) (by decide +kernel) (by decide +kernel)) rfl) <|
  mc_1 (mk_p (ms_iload (by decide +kernel)) rfl) <|
  mc_1 (mk_c (k := mq_69) rfl ⟨mo_69, 52, 664, none, ml_m_LeagueOffice_Texts_52, Or.inr (Or.inr (Or.inl ⟨6, TX6, 2, by decide, rfl, rfl, (by decide +kernel), ⟨2, rfl, mx_npd (by decide +kernel)⟩, ml_in_665, ml_se_666⟩))⟩) <|
  mc_1 (mk_p (ms_aload_n (k := 0) (by decide +kernel) rfl) rfl) <|
  mc_1 (mk_p (ms_get (idx := 26) (w := 221) (host := none) mx_c10 (by decide) ml_f_LeagueOffice_Texts_26 (by decide +kernel)) rfl) <|
  mc_1 (mk_p (ms_iconst (n := 4) (by decide +kernel) (by decide +kernel)) rfl) <| mc_0
theorem mw_113_2 : ∀ e ∈ mt_113_2, mx_Ok mx_MT mq_113 e.1 e.2 := 
  mc_1 (mk_p (ms_iload (by decide +kernel)) rfl) <|
  mc_1 (mk_c (k := mq_69) rfl ⟨mo_69, 52, 664, none, ml_m_LeagueOffice_Texts_52, Or.inr (Or.inr (Or.inl ⟨6, TX6, 2, by decide, rfl, rfl, (by decide +kernel), ⟨2, rfl, mx_npd (by decide +kernel)⟩, ml_in_665, ml_se_666⟩))⟩) <|
  mc_1 (mk_p (ms_aload_n (k := 0) (by decide +kernel) rfl) rfl) <|
  mc_1 (mk_p (ms_get (idx := 26) (w := 221) (host := none) mx_c10 (by decide) ml_f_LeagueOffice_Texts_26 (by decide +kernel)) rfl) <|
  mc_1 (mk_p (ms_iconst (n := 5) (by decide +kernel) (by decide +kernel)) rfl) <|
  mc_1 (mk_p (ms_iload (by decide +kernel)) rfl) <|
  mc_1 (mk_c (k := mq_69) rfl ⟨mo_69, 52, 664, none, ml_m_LeagueOffice_Texts_52, Or.inr (Or.inr (Or.inl ⟨6, TX6, 2, by decide, rfl, rfl, (by decide +kernel), ⟨2, rfl, mx_npd (by decide +kernel)⟩, ml_in_665, ml_se_666⟩))⟩) <|
  mc_1 (mk_p (ms_aload_n (k := 0) (by decide +kernel) rfl) rfl) <| mc_0
theorem mw_113_3 : ∀ e ∈ mt_113_3, mx_Ok mx_MT mq_113 e.1 e.2 := 
  mc_1 (mk_p (ms_aload_n (k := 0) (by decide +kernel) rfl) rfl) <|
  mc_1 (mk_p (ms_iload_n (k := 2) (by decide +kernel) rfl) rfl) <|
  mc_1 (mk_c (k := mq_112) rfl ⟨mo_112, 62, 899, none, ml_m_LeagueOffice_Texts_62, Or.inr (Or.inr (Or.inl ⟨10, TX10, 8, by decide, rfl, rfl, (by decide +kernel), ⟨1, rfl, mx_npd (by decide +kernel)⟩, ml_in_837, ml_se_838⟩))⟩) <|
  mc_1 (mk_p (ms_iload_n (k := 1) (by decide +kernel) rfl) rfl) <|
  mc_1 (mk_c (k := mq_116) rfl ⟨mo_116, 65, 900, none, ml_m_LeagueOffice_Texts_65, Or.inr (Or.inr (Or.inl ⟨10, TX10, 8, by decide, rfl, rfl, (by decide +kernel), ⟨2, rfl, mx_npd (by decide +kernel)⟩, ml_in_902, ml_se_15⟩))⟩) <|
  mc_1 (mk_r (Or.inl ⟨rfl, by decide +kernel, _, rfl, mf_0⟩) rfl) <| mc_0
theorem mw_113 : ∀ ch ∈ mt_113, ∀ e ∈ ch, mx_Ok mx_MT mq_113 e.1 e.2 := mc_2 mw_113_0 <| mc_2 mw_113_1 <| mc_2 mw_113_2 <| mc_2 mw_113_3 <| mc_3
/- 114 LeagueOffice$Texts.askLike(IIII)I -/
theorem mw_114_0 : ∀ e ∈ mt_114_0, mx_Ok mx_MT mq_114 e.1 e.2 := 
  mc_1 (mk_p (ms_aload_n (k := 0) (by decide +kernel) rfl) rfl) <|
  mc_1 (mk_p (ms_get (idx := 26) (w := 221) (host := none) mx_c10 (by decide) ml_f_LeagueOffice_Texts_26 (by decide +kernel)) rfl) <|
  mc_1 (mk_p (ms_iconst (n := 0) (by decide +kernel) (by decide +kernel)) rfl) <|
  mc_1 (mk_c (k := mq_76) rfl ⟨mo_76, 59, 898, none, ml_m_LeagueOffice_Texts_59, Or.inr (Or.inr (Or.inl ⟨6, TX6, 2, by decide, rfl, rfl, (by decide +kernel), ⟨1, rfl, mx_npd (by decide +kernel)⟩, ml_in_857, ml_se_858⟩))⟩) <|
  mc_1 (mk_p (ms_aload_n (k := 0) (by decide +kernel) rfl) rfl) <|
  mc_1 (mk_p (ms_get (idx := 26) (w := 221) (host := none) mx_c10 (by decide) ml_f_LeagueOffice_Texts_26 (by decide +kernel)) rfl) <|
  mc_1 (mk_p (ms_iconst (n := 0) (by decide +kernel) (by decide +kernel)) rfl) <|
  mc_1 (mk_p (ms_iload_n (k := 2) (by decide +kernel) rfl) rfl) <|
  mc_1 (mk_c (k := mq_69) rfl ⟨mo_69, 52, 664, none, ml_m_LeagueOffice_Texts_52, Or.inr (Or.inr (Or.inl ⟨6, TX6, 2, by decide, rfl, rfl, (by decide +kernel), ⟨2, rfl, mx_npd (by decide +kernel)⟩, ml_in_665, ml_se_666⟩))⟩) <| mc_0
theorem mw_114_1 : ∀ e ∈ mt_114_1, mx_Ok mx_MT mq_114 e.1 e.2 := 
  mc_1 (mk_p (ms_aload_n (k := 0) (by decide +kernel) rfl) rfl) <|
  mc_1 (mk_p (ms_get (idx := 26) (w := 221) (host := none) mx_c10 (by decide) ml_f_LeagueOffice_Texts_26 (by decide +kernel)) rfl) <|
  mc_1 (mk_p (ms_iconst (n := 1) (by decide +kernel) (by decide +kernel)) rfl) <|
  mc_1 (mk_p (ms_iload_n (k := 3) (by decide +kernel) rfl) rfl) <|
  mc_1 (mk_c (k := mq_69) rfl ⟨mo_69, 52, 664, none, ml_m_LeagueOffice_Texts_52, Or.inr (Or.inr (Or.inl ⟨6, TX6, 2, by decide, rfl, rfl, (by decide +kernel), ⟨2, rfl, mx_npd (by decide +kernel)⟩, ml_in_665, ml_se_666⟩))⟩) <|
  mc_1 (mk_p (ms_aload_n (k := 0) (by decide +kernel) rfl) rfl) <|
  mc_1 (mk_p (ms_get (idx := 26) (w := 221) (host := none) mx_c10 (by decide) ml_f_LeagueOffice_Texts_26 (by decide +kernel)) rfl) <|
  mc_1 (mk_p (ms_iconst (n := 2) (by decide +kernel) (by decide +kernel)) rfl) <|
  mc_1 (mk_p (ms_iload (by decide +kernel)) rfl) <| mc_0
theorem mw_114_2 : ∀ e ∈ mt_114_2, mx_Ok mx_MT mq_114 e.1 e.2 := 
  mc_1 (mk_c (k := mq_69) rfl ⟨mo_69, 52, 664, none, ml_m_LeagueOffice_Texts_52, Or.inr (Or.inr (Or.inl ⟨6, TX6, 2, by decide, rfl, rfl, (by decide +kernel), ⟨2, rfl, mx_npd (by decide +kernel)⟩, ml_in_665, ml_se_666⟩))⟩) <|
  mc_1 (mk_p (ms_aload_n (k := 0) (by decide +kernel) rfl) rfl) <|
  mc_1 (mk_p (ms_aload_n (k := 0) (by decide +kernel) rfl) rfl) <|
  mc_1 (mk_p (ms_iload_n (k := 1) (by decide +kernel) rfl) rfl) <|
  mc_1 (mk_c (k := mq_112) rfl ⟨mo_112, 62, 899, none, ml_m_LeagueOffice_Texts_62, Or.inr (Or.inr (Or.inl ⟨10, TX10, 8, by decide, rfl, rfl, (by decide +kernel), ⟨1, rfl, mx_npd (by decide +kernel)⟩, ml_in_837, ml_se_838⟩))⟩) <|
  mc_1 (mk_p (ms_iconst (n := 2) (by decide +kernel) (by decide +kernel)) rfl) <|
  mc_1 (mk_c (k := mq_116) rfl ⟨mo_116, 65, 900, none, ml_m_LeagueOffice_Texts_65, Or.inr (Or.inr (Or.inl ⟨10, TX10, 8, by decide, rfl, rfl, (by decide +kernel), ⟨2, rfl, mx_npd (by decide +kernel)⟩, ml_in_902, ml_se_15⟩))⟩) <|
  mc_1 (mk_r (Or.inl ⟨rfl, by decide +kernel, _, rfl, mf_0⟩) rfl) <| mc_0
theorem mw_114 : ∀ ch ∈ mt_114, ∀ e ∈ ch, mx_Ok mx_MT mq_114 e.1 e.2 := mc_2 mw_114_0 <| mc_2 mw_114_1 <| mc_2 mw_114_2 <| mc_3
/- 115 LeagueOffice$Texts.askBan(III)I -/
theorem mw_115_0 : ∀ e ∈ mt_115_0, mx_Ok mx_MT mq_115 e.1 e.2 := 
  mc_1 (mk_p (ms_aload_n (k := 0) (by decide +kernel) rfl) rfl) <|
  mc_1 (mk_p (ms_get (idx := 26) (w := 221) (host := none) mx_c10 (by decide) ml_f_LeagueOffice_Texts_26 (by decide +kernel)) rfl) <|
  mc_1 (mk_p (ms_iconst (n := 0) (by decide +kernel) (by decide +kernel)) rfl) <|
  mc_1 (mk_c (k := mq_76) rfl ⟨mo_76, 59, 898, none, ml_m_LeagueOffice_Texts_59, Or.inr (Or.inr (Or.inl ⟨6, TX6, 2, by decide, rfl, rfl, (by decide +kernel), ⟨1, rfl, mx_npd (by decide +kernel)⟩, ml_in_857, ml_se_858⟩))⟩) <|
  mc_1 (mk_p (ms_aload_n (k := 0) (by decide +kernel) rfl) rfl) <|
  mc_1 (mk_p (ms_get (idx := 26) (w := 221) (host := none) mx_c10 (by decide) ml_f_LeagueOffice_Texts_26 (by decide +kernel)) rfl) <|
  mc_1 (mk_p (ms_iconst (n := 3) (by decide +kernel) (by decide +kernel)) rfl) <|
  mc_1 (mk_p (ms_iload_n (k := 2) (by decide +kernel) rfl) rfl) <|
  mc_1 (mk_c (k := mq_69) rfl ⟨mo_69, 52, 664, none, ml_m_LeagueOffice_Texts_52, Or.inr (Or.inr (Or.inl ⟨6, TX6, 2, by decide, rfl, rfl, (by decide +kernel), ⟨2, rfl, mx_npd (by decide +kernel)⟩, ml_in_665, ml_se_666⟩))⟩) <| mc_0
theorem mw_115_1 : ∀ e ∈ mt_115_1, mx_Ok mx_MT mq_115 e.1 e.2 := 
  mc_1 (mk_p (ms_aload_n (k := 0) (by decide +kernel) rfl) rfl) <|
  mc_1 (mk_p (ms_get (idx := 26) (w := 221) (host := none) mx_c10 (by decide) ml_f_LeagueOffice_Texts_26 (by decide +kernel)) rfl) <|
  mc_1 (mk_p (ms_iconst (n := 4) (by decide +kernel) (by decide +kernel)) rfl) <|
  mc_1 (mk_p (ms_iload_n (k := 3) (by decide +kernel) rfl) rfl) <|
  mc_1 (mk_c (k := mq_69) rfl ⟨mo_69, 52, 664, none, ml_m_LeagueOffice_Texts_52, Or.inr (Or.inr (Or.inl ⟨6, TX6, 2, by decide, rfl, rfl, (by decide +kernel), ⟨2, rfl, mx_npd (by decide +kernel)⟩, ml_in_665, ml_se_666⟩))⟩) <|
  mc_1 (mk_p (ms_aload_n (k := 0) (by decide +kernel) rfl) rfl) <|
  mc_1 (mk_p (ms_aload_n (k := 0) (by decide +kernel) rfl) rfl) <|
  mc_1 (mk_p (ms_iload_n (k := 1) (by decide +kernel) rfl) rfl) <|
  mc_1 (mk_c (k := mq_112) rfl ⟨mo_112, 62, 899, none, ml_m_LeagueOffice_Texts_62, Or.inr (Or.inr (Or.inl ⟨10, TX10, 8, by decide, rfl, rfl, (by decide +kernel), ⟨1, rfl, mx_npd (by decide +kernel)⟩, ml_in_837, ml_se_838⟩))⟩) <| mc_0
theorem mw_115_2 : ∀ e ∈ mt_115_2, mx_Ok mx_MT mq_115 e.1 e.2 := 
  mc_1 (mk_p (ms_iconst (n := 3) (by decide +kernel) (by decide +kernel)) rfl) <|
  mc_1 (mk_c (k := mq_116) rfl ⟨mo_116, 65, 900, none, ml_m_LeagueOffice_Texts_65, Or.inr (Or.inr (Or.inl ⟨10, TX10, 8, by decide, rfl, rfl, (by decide +kernel), ⟨2, rfl, mx_npd (by decide +kernel)⟩, ml_in_902, ml_se_15⟩))⟩) <|
  mc_1 (mk_r (Or.inl ⟨rfl, by decide +kernel, _, rfl, mf_0⟩) rfl) <| mc_0
theorem mw_115 : ∀ ch ∈ mt_115, ∀ e ∈ ch, mx_Ok mx_MT mq_115 e.1 e.2 := mc_2 mw_115_0 <| mc_2 mw_115_1 <| mc_2 mw_115_2 <| mc_3
/- 116 LeagueOffice$Texts.value(II)I -/
theorem mw_116_0 : ∀ e ∈ mt_116_0, mx_Ok mx_MT mq_116 e.1 e.2 := 
  mc_1 (mk_p (ms_aload_n (k := 0) (by decide +kernel) rfl) rfl) <|
  mc_1 (mk_p (ms_get (idx := 20) (w := 219) (host := none) mx_c10 (by decide) ml_f_LeagueOffice_Texts_20 (by decide +kernel)) rfl) <|
  mc_1 (mk_p (ms_iload_n (k := 1) (by decide +kernel) rfl) rfl) <|
  mc_1 (mk_p (ms_iconst (n := 4) (by decide +kernel) (by decide +kernel)) rfl) <|
  mc_1 (mk_p (ms_imul (by decide +kernel)) rfl) <|
  mc_1 (mk_p (ms_iload_n (k := 2) (by decide +kernel) rfl) rfl) <|
  mc_1 (mk_p (ms_iadd (by decide +kernel)) rfl) <|
  mc_1 (mk_c (k := mq_68) rfl ⟨mo_68, 42, 650, none, ml_m_LeagueOffice_Texts_42, Or.inr (Or.inr (Or.inl ⟨6, TX6, 2, by decide, rfl, rfl, (by decide +kernel), ⟨1, rfl, mx_npd (by decide +kernel)⟩, ml_in_591, ml_se_592⟩))⟩) <|
  mc_1 (mk_p (ms_istore_n (k := 3) (by decide +kernel) rfl (by decide)) rfl) <|
  mc_1 (mk_p (ms_aload_n (k := 0) (by decide +kernel) rfl) rfl) <|
  mc_1 (mk_p (ms_get (idx := 23) (w := 220) (host := none) mx_c10 (by decide) ml_f_LeagueOffice_Texts_23 (by decide +kernel)) rfl) <| mc_0
theorem mw_116_1 : ∀ e ∈ mt_116_1, mx_Ok mx_MT mq_116 e.1 e.2 := 
  mc_1 (mk_p (ms_iload_n (k := 1) (by decide +kernel) rfl) rfl) <|
  mc_1 (mk_p (ms_iconst (n := 4) (by decide +kernel) (by decide +kernel)) rfl) <|
  mc_1 (mk_p (ms_imul (by decide +kernel)) rfl) <|
  mc_1 (mk_p (ms_iload_n (k := 2) (by decide +kernel) rfl) rfl) <|
  mc_1 (mk_p (ms_iadd (by decide +kernel)) rfl) <|
  mc_1 (mk_c (k := mq_68) rfl ⟨mo_68, 42, 650, none, ml_m_LeagueOffice_Texts_42, Or.inr (Or.inr (Or.inl ⟨6, TX6, 2, by decide, rfl, rfl, (by decide +kernel), ⟨1, rfl, mx_npd (by decide +kernel)⟩, ml_in_591, ml_se_592⟩))⟩) <|
  mc_1 (mk_p (ms_istore (by decide +kernel) (by decide)) rfl) <|
  mc_1 (mk_p (ms_aload_n (k := 0) (by decide +kernel) rfl) rfl) <|
  mc_1 (mk_p (ms_get (idx := 29) (w := 222) (host := none) mx_c10 (by decide) ml_f_LeagueOffice_Texts_29 (by decide +kernel)) rfl) <|
  mc_1 (mk_c (k := mq_75) rfl ⟨mo_75, 69, 904, none, ml_m_LeagueOffice_Texts_69, Or.inr (Or.inr (Or.inl ⟨6, TX6, 2, by decide, rfl, rfl, (by decide +kernel), ⟨0, rfl, mx_npd (by decide +kernel)⟩, ml_in_579, ml_se_580⟩))⟩) <| mc_0
theorem mw_116_2 : ∀ e ∈ mt_116_2, mx_Ok mx_MT mq_116 e.1 e.2 := 
  mc_1 (mk_p (ms_iload_n (k := 3) (by decide +kernel) rfl) rfl) <|
  mc_1 (mk_p (ms_istore (by decide +kernel) (by decide)) rfl) <|
  mc_1 (mk_p (ms_iload (by decide +kernel)) rfl) <|
  mc_1 (mk_p (ms_iload (by decide +kernel)) rfl) <|
  mc_1 (mk_p (ms_icmp_ge (off := (178)) (by decide +kernel) (by decide)) rfl) <|
  mc_1 (mk_p (ms_aload_n (k := 0) (by decide +kernel) rfl) rfl) <|
  mc_1 (mk_p (ms_get (idx := 14) (w := 218) (host := none) mx_c10 (by decide) ml_f_LeagueOffice_Texts_14 (by decide +kernel)) rfl) <| mc_0
theorem mw_116_3 : ∀ e ∈ mt_116_3, mx_Ok mx_MT mq_116 e.1 e.2 := 
  mc_1 (mk_p (ms_iload (by decide +kernel)) rfl) <|
  mc_1 (mk_c (k := mq_68) rfl ⟨mo_68, 42, 650, none, ml_m_LeagueOffice_Texts_42, Or.inr (Or.inr (Or.inl ⟨6, TX6, 2, by decide, rfl, rfl, (by decide +kernel), ⟨1, rfl, mx_npd (by decide +kernel)⟩, ml_in_591, ml_se_592⟩))⟩) <|
  mc_1 (mk_p (ms_istore (by decide +kernel) (by decide)) rfl) <|
  mc_1 (mk_p (ms_iconst (n := (-1)) (by decide +kernel) (by decide +kernel)) rfl) <|
  mc_1 (mk_p (ms_iload (by decide +kernel)) rfl) <|
  mc_1 (mk_p (ms_isub (by decide +kernel)) rfl) <|
  mc_1 (mk_p (ms_istore (by decide +kernel) (by decide)) rfl) <|
  mc_1 (mk_p (ms_iload (by decide +kernel)) rfl) <|
  mc_1 (mk_p (ms_if_lt (off := (16)) (by decide +kernel) (by decide)) rfl) <| mc_0
theorem mw_116_4 : ∀ e ∈ mt_116_4, mx_Ok mx_MT mq_116 e.1 e.2 := 
  mc_1 (mk_p (ms_aload_n (k := 0) (by decide +kernel) rfl) rfl) <|
  mc_1 (mk_p (ms_get (idx := 29) (w := 222) (host := none) mx_c10 (by decide) ml_f_LeagueOffice_Texts_29 (by decide +kernel)) rfl) <|
  mc_1 (mk_p (ms_iload (by decide +kernel)) rfl) <|
  mc_1 (mk_c (k := mq_71) rfl ⟨mo_71, 56, 680, none, ml_m_LeagueOffice_Texts_56, Or.inr (Or.inr (Or.inl ⟨6, TX6, 2, by decide, rfl, rfl, (by decide +kernel), ⟨1, rfl, mx_npd (by decide +kernel)⟩, ml_in_567, ml_se_568⟩))⟩) <|
  mc_1 (mk_p (ms_pop (by decide +kernel)) rfl) <|
  mc_1 (mk_p (ms_goto (off := (137)) (by decide +kernel) (by decide)) rfl) <|
  mc_1 (mk_p (ms_iload (by decide +kernel)) rfl) <| mc_0
theorem mw_116_5 : ∀ e ∈ mt_116_5, mx_Ok mx_MT mq_116 e.1 e.2 := 
  mc_1 (mk_p (ms_sipush (n := 256) (by decide +kernel) (by decide +kernel)) rfl) <|
  mc_1 (mk_p (ms_icmp_lt (off := (35)) (by decide +kernel) (by decide)) rfl) <|
  mc_1 (mk_p (ms_iload (by decide +kernel)) rfl) <|
  mc_1 (mk_p (ms_sipush (n := 262) (by decide +kernel) (by decide +kernel)) rfl) <|
  mc_1 (mk_p (ms_icmp_ge (off := (27)) (by decide +kernel) (by decide)) rfl) <|
  mc_1 (mk_p (ms_aload_n (k := 0) (by decide +kernel) rfl) rfl) <| mc_0
theorem mw_116_6 : ∀ e ∈ mt_116_6, mx_Ok mx_MT mq_116 e.1 e.2 := 
  mc_1 (mk_p (ms_get (idx := 29) (w := 222) (host := none) mx_c10 (by decide) ml_f_LeagueOffice_Texts_29 (by decide +kernel)) rfl) <|
  mc_1 (mk_p (ms_aload_n (k := 0) (by decide +kernel) rfl) rfl) <|
  mc_1 (mk_p (ms_get (idx := 26) (w := 221) (host := none) mx_c10 (by decide) ml_f_LeagueOffice_Texts_26 (by decide +kernel)) rfl) <|
  mc_1 (mk_p (ms_iload (by decide +kernel)) rfl) <|
  mc_1 (mk_p (ms_sipush (n := 256) (by decide +kernel) (by decide +kernel)) rfl) <|
  mc_1 (mk_p (ms_isub (by decide +kernel)) rfl) <|
  mc_1 (mk_c (k := mq_68) rfl ⟨mo_68, 42, 650, none, ml_m_LeagueOffice_Texts_42, Or.inr (Or.inr (Or.inl ⟨6, TX6, 2, by decide, rfl, rfl, (by decide +kernel), ⟨1, rfl, mx_npd (by decide +kernel)⟩, ml_in_591, ml_se_592⟩))⟩) <| mc_0
theorem mw_116_7 : ∀ e ∈ mt_116_7, mx_Ok mx_MT mq_116 e.1 e.2 := 
  mc_1 (mk_c (k := mq_71) rfl ⟨mo_71, 56, 680, none, ml_m_LeagueOffice_Texts_56, Or.inr (Or.inr (Or.inl ⟨6, TX6, 2, by decide, rfl, rfl, (by decide +kernel), ⟨1, rfl, mx_npd (by decide +kernel)⟩, ml_in_567, ml_se_568⟩))⟩) <|
  mc_1 (mk_p (ms_pop (by decide +kernel)) rfl) <|
  mc_1 (mk_p (ms_goto (off := (97)) (by decide +kernel) (by decide)) rfl) <|
  mc_1 (mk_p (ms_iload (by decide +kernel)) rfl) <|
  mc_1 (mk_p (ms_iconst (n := 3) (by decide +kernel) (by decide +kernel)) rfl) <|
  mc_1 (mk_p (ms_icmp_ne (off := (22)) (by decide +kernel) (by decide)) rfl) <|
  mc_1 (mk_p (ms_aload_n (k := 0) (by decide +kernel) rfl) rfl) <|
  mc_1 (mk_p (ms_get (idx := 29) (w := 222) (host := none) mx_c10 (by decide) ml_f_LeagueOffice_Texts_29 (by decide +kernel)) rfl) <| mc_0
theorem mw_116_8 : ∀ e ∈ mt_116_8, mx_Ok mx_MT mq_116 e.1 e.2 := 
  mc_1 (mk_p (ms_aload_n (k := 0) (by decide +kernel) rfl) rfl) <|
  mc_1 (mk_p (ms_get (idx := 29) (w := 222) (host := none) mx_c10 (by decide) ml_f_LeagueOffice_Texts_29 (by decide +kernel)) rfl) <|
  mc_1 (mk_c (k := mq_72) rfl ⟨mo_72, 72, 905, none, ml_m_LeagueOffice_Texts_72, Or.inr (Or.inr (Or.inl ⟨6, TX6, 2, by decide, rfl, rfl, (by decide +kernel), ⟨0, rfl, mx_npd (by decide +kernel)⟩, ml_in_906, ml_se_907⟩))⟩) <|
  mc_1 (mk_p (ms_ineg (by decide +kernel)) rfl) <|
  mc_1 (mk_c (k := mq_71) rfl ⟨mo_71, 56, 680, none, ml_m_LeagueOffice_Texts_56, Or.inr (Or.inr (Or.inl ⟨6, TX6, 2, by decide, rfl, rfl, (by decide +kernel), ⟨1, rfl, mx_npd (by decide +kernel)⟩, ml_in_567, ml_se_568⟩))⟩) <|
  mc_1 (mk_p (ms_pop (by decide +kernel)) rfl) <|
  mc_1 (mk_p (ms_goto (off := (72)) (by decide +kernel) (by decide)) rfl) <| mc_0
theorem mw_116_9 : ∀ e ∈ mt_116_9, mx_Ok mx_MT mq_116 e.1 e.2 := 
  mc_1 (mk_p (ms_iload (by decide +kernel)) rfl) <|
  mc_1 (mk_p (ms_sipush (n := 268) (by decide +kernel) (by decide +kernel)) rfl) <|
  mc_1 (mk_p (ms_icmp_ne (off := (29)) (by decide +kernel) (by decide)) rfl) <|
  mc_1 (mk_p (ms_aload_n (k := 0) (by decide +kernel) rfl) rfl) <|
  mc_1 (mk_p (ms_get (idx := 29) (w := 222) (host := none) mx_c10 (by decide) ml_f_LeagueOffice_Texts_29 (by decide +kernel)) rfl) <|
  mc_1 (mk_p (ms_aload_n (k := 0) (by decide +kernel) rfl) rfl) <|
  mc_1 (mk_p (ms_get (idx := 29) (w := 222) (host := none) mx_c10 (by decide) ml_f_LeagueOffice_Texts_29 (by decide +kernel)) rfl) <| mc_0
theorem mw_116_10 : ∀ e ∈ mt_116_10, mx_Ok mx_MT mq_116 e.1 e.2 := 
  mc_1 (mk_c (k := mq_72) rfl ⟨mo_72, 72, 905, none, ml_m_LeagueOffice_Texts_72, Or.inr (Or.inr (Or.inl ⟨6, TX6, 2, by decide, rfl, rfl, (by decide +kernel), ⟨0, rfl, mx_npd (by decide +kernel)⟩, ml_in_906, ml_se_907⟩))⟩) <|
  mc_1 (mk_p (ms_if_ne (off := (7)) (by decide +kernel) (by decide)) rfl) <|
  mc_1 (mk_p (ms_iconst (n := 1) (by decide +kernel) (by decide +kernel)) rfl) <|
  mc_1 (mk_p (ms_goto (off := (4)) (by decide +kernel) (by decide)) rfl) <|
  mc_1 (mk_p (ms_iconst (n := 0) (by decide +kernel) (by decide +kernel)) rfl) <|
  mc_1 (mk_c (k := mq_71) rfl ⟨mo_71, 56, 680, none, ml_m_LeagueOffice_Texts_56, Or.inr (Or.inr (Or.inl ⟨6, TX6, 2, by decide, rfl, rfl, (by decide +kernel), ⟨1, rfl, mx_npd (by decide +kernel)⟩, ml_in_567, ml_se_568⟩))⟩) <|
  mc_1 (mk_p (ms_pop (by decide +kernel)) rfl) <|
  mc_1 (mk_p (ms_goto (off := (38)) (by decide +kernel) (by decide)) rfl) <| mc_0
theorem mw_116_11 : ∀ e ∈ mt_116_11, mx_Ok mx_MT mq_116 e.1 e.2 := 
  mc_1 (mk_p (ms_aload_n (k := 0) (by decide +kernel) rfl) rfl) <|
  mc_1 (mk_p (ms_get (idx := 29) (w := 222) (host := none) mx_c10 (by decide) ml_f_LeagueOffice_Texts_29 (by decide +kernel)) rfl) <|
  mc_1 (mk_c (k := mq_72) rfl ⟨mo_72, 72, 905, none, ml_m_LeagueOffice_Texts_72, Or.inr (Or.inr (Or.inl ⟨6, TX6, 2, by decide, rfl, rfl, (by decide +kernel), ⟨0, rfl, mx_npd (by decide +kernel)⟩, ml_in_906, ml_se_907⟩))⟩) <|
  mc_1 (mk_p (ms_istore (by decide +kernel) (by decide)) rfl) <|
  mc_1 (mk_p (ms_aload_n (k := 0) (by decide +kernel) rfl) rfl) <|
  mc_1 (mk_p (ms_get (idx := 29) (w := 222) (host := none) mx_c10 (by decide) ml_f_LeagueOffice_Texts_29 (by decide +kernel)) rfl) <|
  mc_1 (mk_c (k := mq_72) rfl ⟨mo_72, 72, 905, none, ml_m_LeagueOffice_Texts_72, Or.inr (Or.inr (Or.inl ⟨6, TX6, 2, by decide, rfl, rfl, (by decide +kernel), ⟨0, rfl, mx_npd (by decide +kernel)⟩, ml_in_906, ml_se_907⟩))⟩) <| mc_0
theorem mw_116_12 : ∀ e ∈ mt_116_12, mx_Ok mx_MT mq_116 e.1 e.2 := 
  mc_1 (mk_p (ms_istore (by decide +kernel) (by decide)) rfl) <|
  mc_1 (mk_p (ms_aload_n (k := 0) (by decide +kernel) rfl) rfl) <|
  mc_1 (mk_p (ms_get (idx := 29) (w := 222) (host := none) mx_c10 (by decide) ml_f_LeagueOffice_Texts_29 (by decide +kernel)) rfl) <|
  mc_1 (mk_p (ms_iload (by decide +kernel)) rfl) <|
  mc_1 (mk_p (ms_iload (by decide +kernel)) rfl) <|
  mc_1 (mk_p (ms_iload (by decide +kernel)) rfl) <|
  mc_1 (mk_c (k := mq_117) rfl ⟨mo_117, 75, 909, none, ml_m_LeagueOffice_Texts_75, Or.inl ⟨rfl, (by decide +kernel), mx_npd (by decide +kernel), ml_st_910⟩⟩) <| mc_0
theorem mw_116_13 : ∀ e ∈ mt_116_13, mx_Ok mx_MT mq_116 e.1 e.2 := 
  mc_1 (mk_c (k := mq_71) rfl ⟨mo_71, 56, 680, none, ml_m_LeagueOffice_Texts_56, Or.inr (Or.inr (Or.inl ⟨6, TX6, 2, by decide, rfl, rfl, (by decide +kernel), ⟨1, rfl, mx_npd (by decide +kernel)⟩, ml_in_567, ml_se_568⟩))⟩) <|
  mc_1 (mk_p (ms_pop (by decide +kernel)) rfl) <|
  mc_1 (mk_p (ms_iinc (n := (1)) (by decide +kernel) (by decide +kernel) (by decide)) rfl) <|
  mc_1 (mk_p (ms_goto (off := (-179)) (by decide +kernel) (by decide)) rfl) <|
  mc_1 (mk_p (ms_aload_n (k := 0) (by decide +kernel) rfl) rfl) <|
  mc_1 (mk_p (ms_get (idx := 29) (w := 222) (host := none) mx_c10 (by decide) ml_f_LeagueOffice_Texts_29 (by decide +kernel)) rfl) <|
  mc_1 (mk_c (k := mq_72) rfl ⟨mo_72, 72, 905, none, ml_m_LeagueOffice_Texts_72, Or.inr (Or.inr (Or.inl ⟨6, TX6, 2, by decide, rfl, rfl, (by decide +kernel), ⟨0, rfl, mx_npd (by decide +kernel)⟩, ml_in_906, ml_se_907⟩))⟩) <| mc_0
theorem mw_116_14 : ∀ e ∈ mt_116_14, mx_Ok mx_MT mq_116 e.1 e.2 := 
  mc_1 (mk_r (Or.inl ⟨rfl, by decide +kernel, _, rfl, mf_0⟩) rfl) <| mc_0
theorem mw_116 : ∀ ch ∈ mt_116, ∀ e ∈ ch, mx_Ok mx_MT mq_116 e.1 e.2 := mc_2 mw_116_0 <| mc_2 mw_116_1 <| mc_2 mw_116_2 <| mc_2 mw_116_3 <| mc_2 mw_116_4 <| mc_2 mw_116_5 <| mc_2 mw_116_6 <| mc_2 mw_116_7 <| mc_2 mw_116_8 <| mc_2 mw_116_9 <| mc_2 mw_116_10 <| mc_2 mw_116_11 <| mc_2 mw_116_12 <| mc_2 mw_116_13 <| mc_2 mw_116_14 <| mc_3
/- 117 LeagueOffice$Texts.joined(III)I -/
theorem mw_117_0 : ∀ e ∈ mt_117_0, mx_Ok mx_MT mq_117 e.1 e.2 := 
  mc_1 (mk_p (ms_iload_n (k := 0) (by decide +kernel) rfl) rfl) <|
  mc_1 (mk_p (ms_lsw (dflt := (129)) (ps := #[(42, 75), (43, 67), (45, 71), (60, 79), (61, 90), (266, 115), (267, 101)]) (len := 67) (by decide +kernel) (by decide +kernel) (by decide +kernel) (by decide +kernel)) rfl) <| mc_0
theorem mw_117_1 : ∀ e ∈ mt_117_1, mx_Ok mx_MT mq_117 e.1 e.2 := mc_0
theorem mw_117_2 : ∀ e ∈ mt_117_2, mx_Ok mx_MT mq_117 e.1 e.2 := mc_0
theorem mw_117_3 : ∀ e ∈ mt_117_3, mx_Ok mx_MT mq_117 e.1 e.2 := mc_0
theorem mw_117_4 : ∀ e ∈ mt_117_4, mx_Ok mx_MT mq_117 e.1 e.2 := 
  mc_1 (mk_p (ms_iload_n (k := 1) (by decide +kernel) rfl) rfl) <|
  mc_1 (mk_p (ms_iload_n (k := 2) (by decide +kernel) rfl) rfl) <|
  mc_1 (mk_p (ms_iadd (by decide +kernel)) rfl) <|
  mc_1 (mk_r (Or.inl ⟨rfl, by decide +kernel, _, rfl, mf_0⟩) rfl) <|
  mc_1 (mk_p (ms_iload_n (k := 1) (by decide +kernel) rfl) rfl) <|
  mc_1 (mk_p (ms_iload_n (k := 2) (by decide +kernel) rfl) rfl) <|
  mc_1 (mk_p (ms_isub (by decide +kernel)) rfl) <|
  mc_1 (mk_r (Or.inl ⟨rfl, by decide +kernel, _, rfl, mf_0⟩) rfl) <|
  mc_1 (mk_p (ms_iload_n (k := 1) (by decide +kernel) rfl) rfl) <|
  mc_1 (mk_p (ms_iload_n (k := 2) (by decide +kernel) rfl) rfl) <|
  mc_1 (mk_p (ms_imul (by decide +kernel)) rfl) <|
  mc_1 (mk_r (Or.inl ⟨rfl, by decide +kernel, _, rfl, mf_0⟩) rfl) <| mc_0
theorem mw_117_5 : ∀ e ∈ mt_117_5, mx_Ok mx_MT mq_117 e.1 e.2 := 
  mc_1 (mk_p (ms_iload_n (k := 1) (by decide +kernel) rfl) rfl) <|
  mc_1 (mk_p (ms_iload_n (k := 2) (by decide +kernel) rfl) rfl) <|
  mc_1 (mk_p (ms_icmp_ge (off := (7)) (by decide +kernel) (by decide)) rfl) <|
  mc_1 (mk_p (ms_iconst (n := 1) (by decide +kernel) (by decide +kernel)) rfl) <|
  mc_1 (mk_p (ms_goto (off := (4)) (by decide +kernel) (by decide)) rfl) <|
  mc_1 (mk_p (ms_iconst (n := 0) (by decide +kernel) (by decide +kernel)) rfl) <|
  mc_1 (mk_r (Or.inl ⟨rfl, by decide +kernel, _, rfl, mf_0⟩) rfl) <|
  mc_1 (mk_p (ms_iload_n (k := 1) (by decide +kernel) rfl) rfl) <|
  mc_1 (mk_p (ms_iload_n (k := 2) (by decide +kernel) rfl) rfl) <|
  mc_1 (mk_p (ms_icmp_ne (off := (7)) (by decide +kernel) (by decide)) rfl) <| mc_0
theorem mw_117_6 : ∀ e ∈ mt_117_6, mx_Ok mx_MT mq_117 e.1 e.2 := 
  mc_1 (mk_p (ms_iconst (n := 1) (by decide +kernel) (by decide +kernel)) rfl) <|
  mc_1 (mk_p (ms_goto (off := (4)) (by decide +kernel) (by decide)) rfl) <|
  mc_1 (mk_p (ms_iconst (n := 0) (by decide +kernel) (by decide +kernel)) rfl) <|
  mc_1 (mk_r (Or.inl ⟨rfl, by decide +kernel, _, rfl, mf_0⟩) rfl) <|
  mc_1 (mk_p (ms_iload_n (k := 1) (by decide +kernel) rfl) rfl) <|
  mc_1 (mk_p (ms_if_eq (off := (11)) (by decide +kernel) (by decide)) rfl) <|
  mc_1 (mk_p (ms_iload_n (k := 2) (by decide +kernel) rfl) rfl) <|
  mc_1 (mk_p (ms_if_eq (off := (7)) (by decide +kernel) (by decide)) rfl) <|
  mc_1 (mk_p (ms_iconst (n := 1) (by decide +kernel) (by decide +kernel)) rfl) <|
  mc_1 (mk_p (ms_goto (off := (4)) (by decide +kernel) (by decide)) rfl) <| mc_0
theorem mw_117_7 : ∀ e ∈ mt_117_7, mx_Ok mx_MT mq_117 e.1 e.2 := 
  mc_1 (mk_p (ms_iconst (n := 0) (by decide +kernel) (by decide +kernel)) rfl) <|
  mc_1 (mk_r (Or.inl ⟨rfl, by decide +kernel, _, rfl, mf_0⟩) rfl) <|
  mc_1 (mk_p (ms_iload_n (k := 1) (by decide +kernel) rfl) rfl) <|
  mc_1 (mk_p (ms_if_ne (off := (7)) (by decide +kernel) (by decide)) rfl) <|
  mc_1 (mk_p (ms_iload_n (k := 2) (by decide +kernel) rfl) rfl) <|
  mc_1 (mk_p (ms_if_eq (off := (7)) (by decide +kernel) (by decide)) rfl) <|
  mc_1 (mk_p (ms_iconst (n := 1) (by decide +kernel) (by decide +kernel)) rfl) <|
  mc_1 (mk_p (ms_goto (off := (4)) (by decide +kernel) (by decide)) rfl) <| mc_0
theorem mw_117_8 : ∀ e ∈ mt_117_8, mx_Ok mx_MT mq_117 e.1 e.2 := 
  mc_1 (mk_p (ms_iconst (n := 0) (by decide +kernel) (by decide +kernel)) rfl) <|
  mc_1 (mk_r (Or.inl ⟨rfl, by decide +kernel, _, rfl, mf_0⟩) rfl) <|
  mc_1 (mk_p (ms_iconst (n := 0) (by decide +kernel) (by decide +kernel)) rfl) <|
  mc_1 (mk_r (Or.inl ⟨rfl, by decide +kernel, _, rfl, mf_0⟩) rfl) <| mc_0
theorem mw_117 : ∀ ch ∈ mt_117, ∀ e ∈ ch, mx_Ok mx_MT mq_117 e.1 e.2 := mc_2 mw_117_0 <| mc_2 mw_117_1 <| mc_2 mw_117_2 <| mc_2 mw_117_3 <| mc_2 mw_117_4 <| mc_2 mw_117_5 <| mc_2 mw_117_6 <| mc_2 mw_117_7 <| mc_2 mw_117_8 <| mc_3
/- 118 LeagueOffice.<init>()V -/
theorem mw_118_0 : ∀ e ∈ mt_118_0, mx_Ok mx_MT mq_118 e.1 e.2 := 
  mc_1 (mk_p (ms_aload_n (k := 0) (by decide +kernel) rfl) rfl) <|
  mc_1 (mk_p (ms_obj (idx := 3) 102 103 104 (by decide +kernel) (by decide +kernel) (by decide +kernel) (by decide +kernel)) rfl) <|
  mc_1 (mk_p (ms_aload_n (k := 0) (by decide +kernel) rfl) rfl) <|
  mc_1 (mk_p (mn_0 (idx := 9) 105 (by decide +kernel) (by decide +kernel)) rfl) <|
  mc_1 (mk_p (ms_dup (by decide +kernel)) rfl) <|
  mc_1 (mk_c (k := mq_0) rfl ⟨mo_0, 11, 107, (some "LeagueOffice"), ml_m_LeagueOffice_11, Or.inr (Or.inl ⟨rfl, (by decide +kernel), ⟨0, rfl, mx_npd (by decide +kernel)⟩, ml_in_108, rfl, rfl⟩)⟩) <|
  mc_1 (mk_p (ms_putF (idx := 12) (w := 696) mx_c11 (by decide) ml_f_LeagueOffice_12 rfl rfl rfl rfl (by decide +kernel)) rfl) <|
  mc_1 (mk_p (ms_aload_n (k := 0) (by decide +kernel) rfl) rfl) <| mc_0
theorem mw_118_1 : ∀ e ∈ mt_118_1, mx_Ok mx_MT mq_118 e.1 e.2 := 
  mc_1 (mk_p (mn_10 (idx := 16) 207 (by decide +kernel) (by decide +kernel)) rfl) <|
  mc_1 (mk_p (ms_dup (by decide +kernel)) rfl) <|
  mc_1 (mk_c (k := mq_106) rfl ⟨mo_106, 18, 209, (some "LeagueOffice"), ml_m_LeagueOffice_18, Or.inr (Or.inl ⟨rfl, (by decide +kernel), ⟨0, rfl, mx_npd (by decide +kernel)⟩, ml_in_210, rfl, rfl⟩)⟩) <|
  mc_1 (mk_p (ms_putF (idx := 19) (w := 697) mx_c11 (by decide) ml_f_LeagueOffice_19 rfl rfl rfl rfl (by decide +kernel)) rfl) <|
  mc_1 (mk_p (ms_aload_n (k := 0) (by decide +kernel) rfl) rfl) <|
  mc_1 (mk_p (mn_5 (idx := 23) 244 (by decide +kernel) (by decide +kernel)) rfl) <|
  mc_1 (mk_p (ms_dup (by decide +kernel)) rfl) <|
  mc_1 (mk_p (ms_aload_n (k := 0) (by decide +kernel) rfl) rfl) <| mc_0
theorem mw_118_2 : ∀ e ∈ mt_118_2, mx_Ok mx_MT mq_118 e.1 e.2 := 
  mc_1 (mk_p (ms_get (idx := 19) (w := 697) (host := none) mx_c11 (by decide) ml_f_LeagueOffice_19 (by decide +kernel)) rfl) <|
  mc_1 (mk_c (k := mq_44) rfl ⟨mo_44, 25, 246, none, ml_m_LeagueOffice_25, Or.inr (Or.inl ⟨rfl, (by decide +kernel), ⟨1, rfl, mx_npd (by decide +kernel)⟩, ml_in_247, rfl, rfl⟩)⟩) <|
  mc_1 (mk_p (ms_putF (idx := 28) (w := 698) mx_c11 (by decide) ml_f_LeagueOffice_28 rfl rfl rfl rfl (by decide +kernel)) rfl) <|
  mc_1 (mk_p (ms_aload_n (k := 0) (by decide +kernel) rfl) rfl) <|
  mc_1 (mk_p (mn_9 (idx := 32) 272 (by decide +kernel) (by decide +kernel)) rfl) <|
  mc_1 (mk_p (ms_dup (by decide +kernel)) rfl) <|
  mc_1 (mk_p (ms_aload_n (k := 0) (by decide +kernel) rfl) rfl) <|
  mc_1 (mk_p (ms_get (idx := 12) (w := 696) (host := none) mx_c11 (by decide) ml_f_LeagueOffice_12 (by decide +kernel)) rfl) <| mc_0
theorem mw_118_3 : ∀ e ∈ mt_118_3, mx_Ok mx_MT mq_118 e.1 e.2 := 
  mc_1 (mk_p (ms_aload_n (k := 0) (by decide +kernel) rfl) rfl) <|
  mc_1 (mk_p (ms_get (idx := 19) (w := 697) (host := none) mx_c11 (by decide) ml_f_LeagueOffice_19 (by decide +kernel)) rfl) <|
  mc_1 (mk_c (k := mq_97) rfl ⟨mo_97, 34, 274, none, ml_m_LeagueOffice_34, Or.inr (Or.inl ⟨rfl, (by decide +kernel), ⟨2, rfl, mx_npd (by decide +kernel)⟩, ml_in_275, rfl, rfl⟩)⟩) <|
  mc_1 (mk_p (ms_putF (idx := 37) (w := 699) mx_c11 (by decide) ml_f_LeagueOffice_37 rfl rfl rfl rfl (by decide +kernel)) rfl) <|
  mc_1 (mk_p (ms_aload_n (k := 0) (by decide +kernel) rfl) rfl) <|
  mc_1 (mk_p (mn_8 (idx := 41) 321 (by decide +kernel) (by decide +kernel)) rfl) <| mc_0
theorem mw_118_4 : ∀ e ∈ mt_118_4, mx_Ok mx_MT mq_118 e.1 e.2 := 
  mc_1 (mk_p (ms_dup (by decide +kernel)) rfl) <|
  mc_1 (mk_p (ms_aload_n (k := 0) (by decide +kernel) rfl) rfl) <|
  mc_1 (mk_p (ms_get (idx := 12) (w := 696) (host := none) mx_c11 (by decide) ml_f_LeagueOffice_12 (by decide +kernel)) rfl) <|
  mc_1 (mk_p (ms_aload_n (k := 0) (by decide +kernel) rfl) rfl) <|
  mc_1 (mk_p (ms_get (idx := 19) (w := 697) (host := none) mx_c11 (by decide) ml_f_LeagueOffice_19 (by decide +kernel)) rfl) <|
  mc_1 (mk_c (k := mq_86) rfl ⟨mo_86, 43, 323, none, ml_m_LeagueOffice_43, Or.inr (Or.inl ⟨rfl, (by decide +kernel), ⟨2, rfl, mx_npd (by decide +kernel)⟩, ml_in_324, rfl, rfl⟩)⟩) <|
  mc_1 (mk_p (ms_putF (idx := 44) (w := 700) mx_c11 (by decide) ml_f_LeagueOffice_44 rfl rfl rfl rfl (by decide +kernel)) rfl) <|
  mc_1 (mk_p (ms_aload_n (k := 0) (by decide +kernel) rfl) rfl) <| mc_0
theorem mw_118_5 : ∀ e ∈ mt_118_5, mx_Ok mx_MT mq_118 e.1 e.2 := 
  mc_1 (mk_p (mn_2 (idx := 48) 382 (by decide +kernel) (by decide +kernel)) rfl) <|
  mc_1 (mk_p (ms_dup (by decide +kernel)) rfl) <|
  mc_1 (mk_p (ms_aload_n (k := 0) (by decide +kernel) rfl) rfl) <|
  mc_1 (mk_p (ms_get (idx := 12) (w := 696) (host := none) mx_c11 (by decide) ml_f_LeagueOffice_12 (by decide +kernel)) rfl) <|
  mc_1 (mk_c (k := mq_24) rfl ⟨mo_24, 50, 384, none, ml_m_LeagueOffice_50, Or.inr (Or.inl ⟨rfl, (by decide +kernel), ⟨1, rfl, mx_npd (by decide +kernel)⟩, ml_in_385, rfl, rfl⟩)⟩) <|
  mc_1 (mk_p (ms_putF (idx := 53) (w := 701) mx_c11 (by decide) ml_f_LeagueOffice_53 rfl rfl rfl rfl (by decide +kernel)) rfl) <|
  mc_1 (mk_p (ms_aload_n (k := 0) (by decide +kernel) rfl) rfl) <|
  mc_1 (mk_p (mn_1 (idx := 57) 412 (by decide +kernel) (by decide +kernel)) rfl) <| mc_0
theorem mw_118_6 : ∀ e ∈ mt_118_6, mx_Ok mx_MT mq_118 e.1 e.2 := 
  mc_1 (mk_p (ms_dup (by decide +kernel)) rfl) <|
  mc_1 (mk_p (ms_aload_n (k := 0) (by decide +kernel) rfl) rfl) <|
  mc_1 (mk_p (ms_get (idx := 12) (w := 696) (host := none) mx_c11 (by decide) ml_f_LeagueOffice_12 (by decide +kernel)) rfl) <|
  mc_1 (mk_p (ms_aload_n (k := 0) (by decide +kernel) rfl) rfl) <|
  mc_1 (mk_p (ms_get (idx := 19) (w := 697) (host := none) mx_c11 (by decide) ml_f_LeagueOffice_19 (by decide +kernel)) rfl) <|
  mc_1 (mk_p (ms_aload_n (k := 0) (by decide +kernel) rfl) rfl) <|
  mc_1 (mk_p (ms_get (idx := 37) (w := 699) (host := none) mx_c11 (by decide) ml_f_LeagueOffice_37 (by decide +kernel)) rfl) <|
  mc_1 (mk_c (k := mq_12) rfl ⟨mo_12, 59, 414, none, ml_m_LeagueOffice_59, Or.inr (Or.inl ⟨rfl, (by decide +kernel), ⟨3, rfl, mx_npd (by decide +kernel)⟩, ml_in_415, rfl, rfl⟩)⟩) <| mc_0
theorem mw_118_7 : ∀ e ∈ mt_118_7, mx_Ok mx_MT mq_118 e.1 e.2 := 
  mc_1 (mk_p (ms_putF (idx := 62) (w := 702) mx_c11 (by decide) ml_f_LeagueOffice_62 rfl rfl rfl rfl (by decide +kernel)) rfl) <|
  mc_1 (mk_p (ms_aload_n (k := 0) (by decide +kernel) rfl) rfl) <|
  mc_1 (mk_p (mn_4 (idx := 66) 451 (by decide +kernel) (by decide +kernel)) rfl) <|
  mc_1 (mk_p (ms_dup (by decide +kernel)) rfl) <|
  mc_1 (mk_p (ms_aload_n (k := 0) (by decide +kernel) rfl) rfl) <|
  mc_1 (mk_p (ms_get (idx := 12) (w := 696) (host := none) mx_c11 (by decide) ml_f_LeagueOffice_12 (by decide +kernel)) rfl) <|
  mc_1 (mk_p (ms_aload_n (k := 0) (by decide +kernel) rfl) rfl) <|
  mc_1 (mk_p (ms_get (idx := 37) (w := 699) (host := none) mx_c11 (by decide) ml_f_LeagueOffice_37 (by decide +kernel)) rfl) <| mc_0
theorem mw_118_8 : ∀ e ∈ mt_118_8, mx_Ok mx_MT mq_118 e.1 e.2 := 
  mc_1 (mk_c (k := mq_40) rfl ⟨mo_40, 68, 453, none, ml_m_LeagueOffice_68, Or.inr (Or.inl ⟨rfl, (by decide +kernel), ⟨2, rfl, mx_npd (by decide +kernel)⟩, ml_in_454, rfl, rfl⟩)⟩) <|
  mc_1 (mk_p (ms_putF (idx := 71) (w := 703) mx_c11 (by decide) ml_f_LeagueOffice_71 rfl rfl rfl rfl (by decide +kernel)) rfl) <|
  mc_1 (mk_p (ms_aload_n (k := 0) (by decide +kernel) rfl) rfl) <|
  mc_1 (mk_p (mn_3 (idx := 75) 469 (by decide +kernel) (by decide +kernel)) rfl) <|
  mc_1 (mk_p (ms_dup (by decide +kernel)) rfl) <|
  mc_1 (mk_p (ms_aload_n (k := 0) (by decide +kernel) rfl) rfl) <|
  mc_1 (mk_p (ms_get (idx := 12) (w := 696) (host := none) mx_c11 (by decide) ml_f_LeagueOffice_12 (by decide +kernel)) rfl) <| mc_0
theorem mw_118_9 : ∀ e ∈ mt_118_9, mx_Ok mx_MT mq_118 e.1 e.2 := 
  mc_1 (mk_c (k := mq_33) rfl ⟨mo_33, 77, 471, none, ml_m_LeagueOffice_77, Or.inr (Or.inl ⟨rfl, (by decide +kernel), ⟨1, rfl, mx_npd (by decide +kernel)⟩, ml_in_472, rfl, rfl⟩)⟩) <|
  mc_1 (mk_p (ms_putF (idx := 78) (w := 704) mx_c11 (by decide) ml_f_LeagueOffice_78 rfl rfl rfl rfl (by decide +kernel)) rfl) <|
  mc_1 (mk_p (ms_aload_n (k := 0) (by decide +kernel) rfl) rfl) <|
  mc_1 (mk_p (mn_7 (idx := 82) 499 (by decide +kernel) (by decide +kernel)) rfl) <|
  mc_1 (mk_p (ms_dup (by decide +kernel)) rfl) <|
  mc_1 (mk_c (k := mq_77) rfl ⟨mo_77, 84, 501, (some "LeagueOffice"), ml_m_LeagueOffice_84, Or.inr (Or.inl ⟨rfl, (by decide +kernel), ⟨0, rfl, mx_npd (by decide +kernel)⟩, ml_in_502, rfl, rfl⟩)⟩) <|
  mc_1 (mk_p (ms_putF (idx := 85) (w := 705) mx_c11 (by decide) ml_f_LeagueOffice_85 rfl rfl rfl rfl (by decide +kernel)) rfl) <| mc_0
theorem mw_118_10 : ∀ e ∈ mt_118_10, mx_Ok mx_MT mq_118 e.1 e.2 := 
  mc_1 (mk_p (ms_iconst (n := 0) (by decide +kernel) (by decide +kernel)) rfl) <|
  mc_1 (mk_p (ms_istore_n (k := 1) (by decide +kernel) rfl (by decide)) rfl) <|
  mc_1 (mk_p (ms_iload_n (k := 1) (by decide +kernel) rfl) rfl) <|
  mc_1 (mk_p (ms_ldcS (idx := 89) (tx := "win 3 ; draw 1 ; like goals * 100 + made ; ban kind = 2 or cards = 5 ;") rfl (by decide +kernel)) rfl) <|
  mc_1 (mk_c (k := mq_266) rfl ⟨mo_266, 91, 518, none, ml_m_LeagueOffice_91, Or.inr (Or.inr (Or.inr ⟨rfl, rfl, rfl, (by decide +kernel), ⟨0, rfl, mx_npd (by decide +kernel)⟩, ml_in_519, ml_se_520⟩))⟩) <|
  mc_1 (mk_p (ms_icmp_ge (off := (26)) (by decide +kernel) (by decide)) rfl) <|
  mc_1 (mk_p (ms_aload_n (k := 0) (by decide +kernel) rfl) rfl) <|
  mc_1 (mk_p (ms_get (idx := 28) (w := 698) (host := none) mx_c11 (by decide) ml_f_LeagueOffice_28 (by decide +kernel)) rfl) <| mc_0
theorem mw_118_11 : ∀ e ∈ mt_118_11, mx_Ok mx_MT mq_118 e.1 e.2 := 
  mc_1 (mk_p (ms_get (idx := 97) (w := 254) (host := (some "LeagueOffice")) mx_c5 (by decide) ml_f_LeagueOffice_97 (by decide +kernel)) rfl) <|
  mc_1 (mk_p (ms_ldcS (idx := 89) (tx := "win 3 ; draw 1 ; like goals * 100 + made ; ban kind = 2 or cards = 5 ;") rfl (by decide +kernel)) rfl) <|
  mc_1 (mk_p (ms_iload_n (k := 1) (by decide +kernel) rfl) rfl) <|
  mc_1 (mk_c (k := mq_267) rfl ⟨mo_267, 101, 528, none, ml_m_LeagueOffice_101, Or.inr (Or.inr (Or.inr ⟨rfl, rfl, rfl, (by decide +kernel), ⟨1, rfl, mx_npd (by decide +kernel)⟩, ml_in_529, ml_se_530⟩))⟩) <|
  mc_1 (mk_c (k := mq_71) rfl ⟨mo_71, 105, 566, none, ml_m_LeagueOffice_105, Or.inr (Or.inr (Or.inl ⟨6, TX6, 2, by decide, rfl, rfl, (by decide +kernel), ⟨1, rfl, mx_npd (by decide +kernel)⟩, ml_in_567, ml_se_568⟩))⟩) <|
  mc_1 (mk_p (ms_pop (by decide +kernel)) rfl) <|
  mc_1 (mk_p (ms_iinc (n := (1)) (by decide +kernel) (by decide +kernel) (by decide)) rfl) <| mc_0
theorem mw_118_12 : ∀ e ∈ mt_118_12, mx_Ok mx_MT mq_118 e.1 e.2 := 
  mc_1 (mk_p (ms_goto (off := (-29)) (by decide +kernel) (by decide)) rfl) <|
  mc_1 (mk_p (ms_aload_n (k := 0) (by decide +kernel) rfl) rfl) <|
  mc_1 (mk_p (ms_get (idx := 28) (w := 698) (host := none) mx_c11 (by decide) ml_f_LeagueOffice_28 (by decide +kernel)) rfl) <|
  mc_1 (mk_c (k := mq_45) rfl ⟨mo_45, 111, 570, none, ml_m_LeagueOffice_111, Or.inr (Or.inr (Or.inl ⟨5, TX5, 6, by decide, rfl, rfl, (by decide +kernel), ⟨0, rfl, mx_npd (by decide +kernel)⟩, ml_in_571, ml_se_572⟩))⟩) <|
  mc_1 (mk_p (ms_pop (by decide +kernel)) rfl) <|
  mc_1 (mk_r (Or.inr (Or.inr (Or.inr ⟨rfl, by decide +kernel, rfl⟩))) rfl) <| mc_0
theorem mw_118 : ∀ ch ∈ mt_118, ∀ e ∈ ch, mx_Ok mx_MT mq_118 e.1 e.2 := mc_2 mw_118_0 <| mc_2 mw_118_1 <| mc_2 mw_118_2 <| mc_2 mw_118_3 <| mc_2 mw_118_4 <| mc_2 mw_118_5 <| mc_2 mw_118_6 <| mc_2 mw_118_7 <| mc_2 mw_118_8 <| mc_2 mw_118_9 <| mc_2 mw_118_10 <| mc_2 mw_118_11 <| mc_2 mw_118_12 <| mc_3
