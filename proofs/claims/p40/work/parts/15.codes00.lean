/- 0 LeagueOffice$Book.<init>()V -/
theorem mw_0_0 : ∀ e ∈ mt_0_0, mx_Ok mx_MT mq_0 e.1 e.2 := 
  mc_1 (mk_p (ms_aload_n (k := 0) (by decide +kernel) rfl) rfl) <|
  mc_1 (mk_p (ms_obj (idx := 3) 110 103 104 (by decide +kernel) (by decide +kernel) (by decide +kernel) (by decide +kernel)) rfl) <|
  mc_1 (mk_p (ms_aload_n (k := 0) (by decide +kernel) rfl) rfl) <|
  mc_1 (mk_p (mn_6 (idx := 9) 111 (by decide +kernel) (by decide +kernel)) rfl) <|
  mc_1 (mk_p (ms_dup (by decide +kernel)) rfl) <|
  mc_1 (mk_p (ms_bipush (n := 12) (by decide +kernel) (by decide +kernel)) rfl) <|
  mc_1 (mk_c (k := mq_64) rfl ⟨mo_64, 11, 113, none, ml_m_LeagueOffice_Book_11, Or.inr (Or.inl ⟨rfl, (by decide +kernel), ⟨1, rfl, mx_npd (by decide +kernel)⟩, ml_in_114, rfl, rfl⟩)⟩) <|
  mc_1 (mk_p (ms_putF (idx := 14) (w := 134) mx_c0 (by decide) ml_f_LeagueOffice_Book_14 rfl rfl rfl rfl (by decide +kernel)) rfl) <| mc_0
theorem mw_0_1 : ∀ e ∈ mt_0_1, mx_Ok mx_MT mq_0 e.1 e.2 := 
  mc_1 (mk_p (ms_aload_n (k := 0) (by decide +kernel) rfl) rfl) <|
  mc_1 (mk_p (mn_6 (idx := 9) 111 (by decide +kernel) (by decide +kernel)) rfl) <|
  mc_1 (mk_p (ms_dup (by decide +kernel)) rfl) <|
  mc_1 (mk_p (ms_bipush (n := 12) (by decide +kernel) (by decide +kernel)) rfl) <|
  mc_1 (mk_c (k := mq_64) rfl ⟨mo_64, 11, 113, none, ml_m_LeagueOffice_Book_11, Or.inr (Or.inl ⟨rfl, (by decide +kernel), ⟨1, rfl, mx_npd (by decide +kernel)⟩, ml_in_114, rfl, rfl⟩)⟩) <|
  mc_1 (mk_p (ms_putF (idx := 20) (w := 139) mx_c0 (by decide) ml_f_LeagueOffice_Book_20 rfl rfl rfl rfl (by decide +kernel)) rfl) <|
  mc_1 (mk_p (ms_aload_n (k := 0) (by decide +kernel) rfl) rfl) <|
  mc_1 (mk_p (mn_6 (idx := 9) 111 (by decide +kernel) (by decide +kernel)) rfl) <| mc_0
theorem mw_0_2 : ∀ e ∈ mt_0_2, mx_Ok mx_MT mq_0 e.1 e.2 := 
  mc_1 (mk_p (ms_dup (by decide +kernel)) rfl) <|
  mc_1 (mk_p (ms_bipush (n := 60) (by decide +kernel) (by decide +kernel)) rfl) <|
  mc_1 (mk_c (k := mq_64) rfl ⟨mo_64, 11, 113, none, ml_m_LeagueOffice_Book_11, Or.inr (Or.inl ⟨rfl, (by decide +kernel), ⟨1, rfl, mx_npd (by decide +kernel)⟩, ml_in_114, rfl, rfl⟩)⟩) <|
  mc_1 (mk_p (ms_putF (idx := 23) (w := 142) mx_c0 (by decide) ml_f_LeagueOffice_Book_23 rfl rfl rfl rfl (by decide +kernel)) rfl) <|
  mc_1 (mk_p (ms_aload_n (k := 0) (by decide +kernel) rfl) rfl) <|
  mc_1 (mk_p (mn_6 (idx := 9) 111 (by decide +kernel) (by decide +kernel)) rfl) <|
  mc_1 (mk_p (ms_dup (by decide +kernel)) rfl) <| mc_0
theorem mw_0_3 : ∀ e ∈ mt_0_3, mx_Ok mx_MT mq_0 e.1 e.2 := 
  mc_1 (mk_p (ms_bipush (n := 60) (by decide +kernel) (by decide +kernel)) rfl) <|
  mc_1 (mk_c (k := mq_64) rfl ⟨mo_64, 11, 113, none, ml_m_LeagueOffice_Book_11, Or.inr (Or.inl ⟨rfl, (by decide +kernel), ⟨1, rfl, mx_npd (by decide +kernel)⟩, ml_in_114, rfl, rfl⟩)⟩) <|
  mc_1 (mk_p (ms_putF (idx := 26) (w := 149) mx_c0 (by decide) ml_f_LeagueOffice_Book_26 rfl rfl rfl rfl (by decide +kernel)) rfl) <|
  mc_1 (mk_p (ms_aload_n (k := 0) (by decide +kernel) rfl) rfl) <|
  mc_1 (mk_p (mn_6 (idx := 9) 111 (by decide +kernel) (by decide +kernel)) rfl) <|
  mc_1 (mk_p (ms_dup (by decide +kernel)) rfl) <|
  mc_1 (mk_p (ms_bipush (n := 60) (by decide +kernel) (by decide +kernel)) rfl) <|
  mc_1 (mk_c (k := mq_64) rfl ⟨mo_64, 11, 113, none, ml_m_LeagueOffice_Book_11, Or.inr (Or.inl ⟨rfl, (by decide +kernel), ⟨1, rfl, mx_npd (by decide +kernel)⟩, ml_in_114, rfl, rfl⟩)⟩) <| mc_0
theorem mw_0_4 : ∀ e ∈ mt_0_4, mx_Ok mx_MT mq_0 e.1 e.2 := 
  mc_1 (mk_p (ms_putF (idx := 29) (w := 156) mx_c0 (by decide) ml_f_LeagueOffice_Book_29 rfl rfl rfl rfl (by decide +kernel)) rfl) <|
  mc_1 (mk_p (ms_aload_n (k := 0) (by decide +kernel) rfl) rfl) <|
  mc_1 (mk_p (mn_6 (idx := 9) 111 (by decide +kernel) (by decide +kernel)) rfl) <|
  mc_1 (mk_p (ms_dup (by decide +kernel)) rfl) <|
  mc_1 (mk_p (ms_bipush (n := 60) (by decide +kernel) (by decide +kernel)) rfl) <|
  mc_1 (mk_c (k := mq_64) rfl ⟨mo_64, 11, 113, none, ml_m_LeagueOffice_Book_11, Or.inr (Or.inl ⟨rfl, (by decide +kernel), ⟨1, rfl, mx_npd (by decide +kernel)⟩, ml_in_114, rfl, rfl⟩)⟩) <|
  mc_1 (mk_p (ms_putF (idx := 32) (w := 163) mx_c0 (by decide) ml_f_LeagueOffice_Book_32 rfl rfl rfl rfl (by decide +kernel)) rfl) <| mc_0
theorem mw_0_5 : ∀ e ∈ mt_0_5, mx_Ok mx_MT mq_0 e.1 e.2 := 
  mc_1 (mk_p (ms_aload_n (k := 0) (by decide +kernel) rfl) rfl) <|
  mc_1 (mk_p (mn_6 (idx := 9) 111 (by decide +kernel) (by decide +kernel)) rfl) <|
  mc_1 (mk_p (ms_dup (by decide +kernel)) rfl) <|
  mc_1 (mk_p (ms_bipush (n := 60) (by decide +kernel) (by decide +kernel)) rfl) <|
  mc_1 (mk_c (k := mq_64) rfl ⟨mo_64, 11, 113, none, ml_m_LeagueOffice_Book_11, Or.inr (Or.inl ⟨rfl, (by decide +kernel), ⟨1, rfl, mx_npd (by decide +kernel)⟩, ml_in_114, rfl, rfl⟩)⟩) <|
  mc_1 (mk_p (ms_putF (idx := 35) (w := 169) mx_c0 (by decide) ml_f_LeagueOffice_Book_35 rfl rfl rfl rfl (by decide +kernel)) rfl) <|
  mc_1 (mk_p (ms_aload_n (k := 0) (by decide +kernel) rfl) rfl) <| mc_0
theorem mw_0_6 : ∀ e ∈ mt_0_6, mx_Ok mx_MT mq_0 e.1 e.2 := 
  mc_1 (mk_p (mn_6 (idx := 9) 111 (by decide +kernel) (by decide +kernel)) rfl) <|
  mc_1 (mk_p (ms_dup (by decide +kernel)) rfl) <|
  mc_1 (mk_p (ms_bipush (n := 120) (by decide +kernel) (by decide +kernel)) rfl) <|
  mc_1 (mk_c (k := mq_64) rfl ⟨mo_64, 11, 113, none, ml_m_LeagueOffice_Book_11, Or.inr (Or.inl ⟨rfl, (by decide +kernel), ⟨1, rfl, mx_npd (by decide +kernel)⟩, ml_in_114, rfl, rfl⟩)⟩) <|
  mc_1 (mk_p (ms_putF (idx := 38) (w := 172) mx_c0 (by decide) ml_f_LeagueOffice_Book_38 rfl rfl rfl rfl (by decide +kernel)) rfl) <|
  mc_1 (mk_p (ms_aload_n (k := 0) (by decide +kernel) rfl) rfl) <|
  mc_1 (mk_p (mn_6 (idx := 9) 111 (by decide +kernel) (by decide +kernel)) rfl) <| mc_0
theorem mw_0_7 : ∀ e ∈ mt_0_7, mx_Ok mx_MT mq_0 e.1 e.2 := 
  mc_1 (mk_p (ms_dup (by decide +kernel)) rfl) <|
  mc_1 (mk_p (ms_bipush (n := 120) (by decide +kernel) (by decide +kernel)) rfl) <|
  mc_1 (mk_c (k := mq_64) rfl ⟨mo_64, 11, 113, none, ml_m_LeagueOffice_Book_11, Or.inr (Or.inl ⟨rfl, (by decide +kernel), ⟨1, rfl, mx_npd (by decide +kernel)⟩, ml_in_114, rfl, rfl⟩)⟩) <|
  mc_1 (mk_p (ms_putF (idx := 41) (w := 174) mx_c0 (by decide) ml_f_LeagueOffice_Book_41 rfl rfl rfl rfl (by decide +kernel)) rfl) <|
  mc_1 (mk_p (ms_aload_n (k := 0) (by decide +kernel) rfl) rfl) <|
  mc_1 (mk_p (mn_6 (idx := 9) 111 (by decide +kernel) (by decide +kernel)) rfl) <|
  mc_1 (mk_p (ms_dup (by decide +kernel)) rfl) <|
  mc_1 (mk_p (ms_bipush (n := 120) (by decide +kernel) (by decide +kernel)) rfl) <| mc_0
theorem mw_0_8 : ∀ e ∈ mt_0_8, mx_Ok mx_MT mq_0 e.1 e.2 := 
  mc_1 (mk_c (k := mq_64) rfl ⟨mo_64, 11, 113, none, ml_m_LeagueOffice_Book_11, Or.inr (Or.inl ⟨rfl, (by decide +kernel), ⟨1, rfl, mx_npd (by decide +kernel)⟩, ml_in_114, rfl, rfl⟩)⟩) <|
  mc_1 (mk_p (ms_putF (idx := 44) (w := 175) mx_c0 (by decide) ml_f_LeagueOffice_Book_44 rfl rfl rfl rfl (by decide +kernel)) rfl) <|
  mc_1 (mk_p (ms_aload_n (k := 0) (by decide +kernel) rfl) rfl) <|
  mc_1 (mk_p (mn_6 (idx := 9) 111 (by decide +kernel) (by decide +kernel)) rfl) <|
  mc_1 (mk_p (ms_dup (by decide +kernel)) rfl) <|
  mc_1 (mk_p (ms_bipush (n := 60) (by decide +kernel) (by decide +kernel)) rfl) <|
  mc_1 (mk_c (k := mq_64) rfl ⟨mo_64, 11, 113, none, ml_m_LeagueOffice_Book_11, Or.inr (Or.inl ⟨rfl, (by decide +kernel), ⟨1, rfl, mx_npd (by decide +kernel)⟩, ml_in_114, rfl, rfl⟩)⟩) <| mc_0
theorem mw_0_9 : ∀ e ∈ mt_0_9, mx_Ok mx_MT mq_0 e.1 e.2 := 
  mc_1 (mk_p (ms_putF (idx := 47) (w := 176) mx_c0 (by decide) ml_f_LeagueOffice_Book_47 rfl rfl rfl rfl (by decide +kernel)) rfl) <|
  mc_1 (mk_r (Or.inr (Or.inr (Or.inr ⟨rfl, by decide +kernel, rfl⟩))) rfl) <| mc_0
theorem mw_0 : ∀ ch ∈ mt_0, ∀ e ∈ ch, mx_Ok mx_MT mq_0 e.1 e.2 := mc_2 mw_0_0 <| mc_2 mw_0_1 <| mc_2 mw_0_2 <| mc_2 mw_0_3 <| mc_2 mw_0_4 <| mc_2 mw_0_5 <| mc_2 mw_0_6 <| mc_2 mw_0_7 <| mc_2 mw_0_8 <| mc_2 mw_0_9 <| mc_3
/- 1 LeagueOffice$Book.isClub(I)Z -/
theorem mw_1_0 : ∀ e ∈ mt_1_0, mx_Ok mx_MT mq_1 e.1 e.2 := 
  mc_1 (mk_p (ms_aload_n (k := 0) (by decide +kernel) rfl) rfl) <|
  mc_1 (mk_p (ms_get (idx := 14) (w := 134) (host := none) mx_c0 (by decide) ml_f_LeagueOffice_Book_14 (by decide +kernel)) rfl) <|
  mc_1 (mk_p (ms_iload_n (k := 1) (by decide +kernel) rfl) rfl) <|
  mc_1 (mk_c (k := mq_67) rfl ⟨mo_67, 50, 751, none, ml_m_LeagueOffice_Book_50, Or.inr (Or.inr (Or.inl ⟨6, TX6, 2, by decide, rfl, rfl, (by decide +kernel), ⟨1, rfl, mx_npd (by decide +kernel)⟩, ml_in_752, ml_se_753⟩))⟩) <|
  mc_1 (mk_r (Or.inl ⟨rfl, by decide +kernel, _, rfl, mf_2⟩) rfl) <| mc_0
theorem mw_1 : ∀ ch ∈ mt_1, ∀ e ∈ ch, mx_Ok mx_MT mq_1 e.1 e.2 := mc_2 mw_1_0 <| mc_3
/- 2 LeagueOffice$Book.isGame(I)Z -/
theorem mw_2_0 : ∀ e ∈ mt_2_0, mx_Ok mx_MT mq_2 e.1 e.2 := 
  mc_1 (mk_p (ms_aload_n (k := 0) (by decide +kernel) rfl) rfl) <|
  mc_1 (mk_p (ms_get (idx := 23) (w := 142) (host := none) mx_c0 (by decide) ml_f_LeagueOffice_Book_23 (by decide +kernel)) rfl) <|
  mc_1 (mk_p (ms_iload_n (k := 1) (by decide +kernel) rfl) rfl) <|
  mc_1 (mk_c (k := mq_67) rfl ⟨mo_67, 50, 751, none, ml_m_LeagueOffice_Book_50, Or.inr (Or.inr (Or.inl ⟨6, TX6, 2, by decide, rfl, rfl, (by decide +kernel), ⟨1, rfl, mx_npd (by decide +kernel)⟩, ml_in_752, ml_se_753⟩))⟩) <|
  mc_1 (mk_r (Or.inl ⟨rfl, by decide +kernel, _, rfl, mf_2⟩) rfl) <| mc_0
theorem mw_2 : ∀ ch ∈ mt_2, ∀ e ∈ ch, mx_Ok mx_MT mq_2 e.1 e.2 := mc_2 mw_2_0 <| mc_3
/- 3 LeagueOffice$Book.hasCome(I)Z -/
theorem mw_3_0 : ∀ e ∈ mt_3_0, mx_Ok mx_MT mq_3 e.1 e.2 := 
  mc_1 (mk_p (ms_iload_n (k := 1) (by decide +kernel) rfl) rfl) <|
  mc_1 (mk_p (ms_if_lt (off := (15)) (by decide +kernel) (by decide)) rfl) <|
  mc_1 (mk_p (ms_iload_n (k := 1) (by decide +kernel) rfl) rfl) <|
  mc_1 (mk_p (ms_aload_n (k := 0) (by decide +kernel) rfl) rfl) <|
  mc_1 (mk_p (ms_get (idx := 54) (w := 133) (host := none) mx_c0 (by decide) ml_f_LeagueOffice_Book_54 (by decide +kernel)) rfl) <|
  mc_1 (mk_p (ms_icmp_gt (off := (7)) (by decide +kernel) (by decide)) rfl) <|
  mc_1 (mk_p (ms_iconst (n := 1) (by decide +kernel) (by decide +kernel)) rfl) <|
  mc_1 (mk_p (ms_goto (off := (4)) (by decide +kernel) (by decide)) rfl) <| mc_0
theorem mw_3_1 : ∀ e ∈ mt_3_1, mx_Ok mx_MT mq_3 e.1 e.2 := 
  mc_1 (mk_p (ms_iconst (n := 0) (by decide +kernel) (by decide +kernel)) rfl) <|
  mc_1 (mk_r (Or.inl ⟨rfl, by decide +kernel, _, rfl, mf_2⟩) rfl) <| mc_0
theorem mw_3 : ∀ ch ∈ mt_3, ∀ e ∈ ch, mx_Ok mx_MT mq_3 e.1 e.2 := mc_2 mw_3_0 <| mc_2 mw_3_1 <| mc_3
/- 4 LeagueOffice$Book.isIn(II)Z -/
theorem mw_4_0 : ∀ e ∈ mt_4_0, mx_Ok mx_MT mq_4 e.1 e.2 := 
  mc_1 (mk_p (ms_aload_n (k := 0) (by decide +kernel) rfl) rfl) <|
  mc_1 (mk_p (ms_get (idx := 14) (w := 134) (host := none) mx_c0 (by decide) ml_f_LeagueOffice_Book_14 (by decide +kernel)) rfl) <|
  mc_1 (mk_p (ms_iload_n (k := 2) (by decide +kernel) rfl) rfl) <|
  mc_1 (mk_c (k := mq_67) rfl ⟨mo_67, 50, 751, none, ml_m_LeagueOffice_Book_50, Or.inr (Or.inr (Or.inl ⟨6, TX6, 2, by decide, rfl, rfl, (by decide +kernel), ⟨1, rfl, mx_npd (by decide +kernel)⟩, ml_in_752, ml_se_753⟩))⟩) <|
  mc_1 (mk_p (ms_if_eq (off := (19)) (by decide +kernel) (by decide)) rfl) <|
  mc_1 (mk_p (ms_aload_n (k := 0) (by decide +kernel) rfl) rfl) <|
  mc_1 (mk_p (ms_get (idx := 14) (w := 134) (host := none) mx_c0 (by decide) ml_f_LeagueOffice_Book_14 (by decide +kernel)) rfl) <|
  mc_1 (mk_p (ms_iload_n (k := 2) (by decide +kernel) rfl) rfl) <| mc_0
theorem mw_4_1 : ∀ e ∈ mt_4_1, mx_Ok mx_MT mq_4 e.1 e.2 := 
  mc_1 (mk_c (k := mq_68) rfl ⟨mo_68, 58, 766, none, ml_m_LeagueOffice_Book_58, Or.inr (Or.inr (Or.inl ⟨6, TX6, 2, by decide, rfl, rfl, (by decide +kernel), ⟨1, rfl, mx_npd (by decide +kernel)⟩, ml_in_591, ml_se_592⟩))⟩) <|
  mc_1 (mk_p (ms_iload_n (k := 1) (by decide +kernel) rfl) rfl) <|
  mc_1 (mk_p (ms_icmp_ne (off := (7)) (by decide +kernel) (by decide)) rfl) <|
  mc_1 (mk_p (ms_iconst (n := 1) (by decide +kernel) (by decide +kernel)) rfl) <|
  mc_1 (mk_p (ms_goto (off := (4)) (by decide +kernel) (by decide)) rfl) <|
  mc_1 (mk_p (ms_iconst (n := 0) (by decide +kernel) (by decide +kernel)) rfl) <|
  mc_1 (mk_r (Or.inl ⟨rfl, by decide +kernel, _, rfl, mf_2⟩) rfl) <| mc_0
theorem mw_4 : ∀ ch ∈ mt_4, ∀ e ∈ ch, mx_Ok mx_MT mq_4 e.1 e.2 := mc_2 mw_4_0 <| mc_2 mw_4_1 <| mc_3
/- 5 LeagueOffice$Book.plays(II)Z -/
theorem mw_5_0 : ∀ e ∈ mt_5_0, mx_Ok mx_MT mq_5 e.1 e.2 := 
  mc_1 (mk_p (ms_aload_n (k := 0) (by decide +kernel) rfl) rfl) <|
  mc_1 (mk_p (ms_get (idx := 26) (w := 149) (host := none) mx_c0 (by decide) ml_f_LeagueOffice_Book_26 (by decide +kernel)) rfl) <|
  mc_1 (mk_p (ms_iload_n (k := 1) (by decide +kernel) rfl) rfl) <|
  mc_1 (mk_c (k := mq_68) rfl ⟨mo_68, 58, 766, none, ml_m_LeagueOffice_Book_58, Or.inr (Or.inr (Or.inl ⟨6, TX6, 2, by decide, rfl, rfl, (by decide +kernel), ⟨1, rfl, mx_npd (by decide +kernel)⟩, ml_in_591, ml_se_592⟩))⟩) <|
  mc_1 (mk_p (ms_iload_n (k := 2) (by decide +kernel) rfl) rfl) <|
  mc_1 (mk_p (ms_icmp_eq (off := (15)) (by decide +kernel) (by decide)) rfl) <|
  mc_1 (mk_p (ms_aload_n (k := 0) (by decide +kernel) rfl) rfl) <|
  mc_1 (mk_p (ms_get (idx := 29) (w := 156) (host := none) mx_c0 (by decide) ml_f_LeagueOffice_Book_29 (by decide +kernel)) rfl) <| mc_0
theorem mw_5_1 : ∀ e ∈ mt_5_1, mx_Ok mx_MT mq_5 e.1 e.2 := 
  mc_1 (mk_p (ms_iload_n (k := 1) (by decide +kernel) rfl) rfl) <|
  mc_1 (mk_c (k := mq_68) rfl ⟨mo_68, 58, 766, none, ml_m_LeagueOffice_Book_58, Or.inr (Or.inr (Or.inl ⟨6, TX6, 2, by decide, rfl, rfl, (by decide +kernel), ⟨1, rfl, mx_npd (by decide +kernel)⟩, ml_in_591, ml_se_592⟩))⟩) <|
  mc_1 (mk_p (ms_iload_n (k := 2) (by decide +kernel) rfl) rfl) <|
  mc_1 (mk_p (ms_icmp_ne (off := (7)) (by decide +kernel) (by decide)) rfl) <|
  mc_1 (mk_p (ms_iconst (n := 1) (by decide +kernel) (by decide +kernel)) rfl) <|
  mc_1 (mk_p (ms_goto (off := (4)) (by decide +kernel) (by decide)) rfl) <|
  mc_1 (mk_p (ms_iconst (n := 0) (by decide +kernel) (by decide +kernel)) rfl) <|
  mc_1 (mk_r (Or.inl ⟨rfl, by decide +kernel, _, rfl, mf_2⟩) rfl) <| mc_0
theorem mw_5 : ∀ ch ∈ mt_5, ∀ e ∈ ch, mx_Ok mx_MT mq_5 e.1 e.2 := mc_2 mw_5_0 <| mc_2 mw_5_1 <| mc_3
/- 6 LeagueOffice$Book.doesCount(I)Z -/
theorem mw_6_0 : ∀ e ∈ mt_6_0, mx_Ok mx_MT mq_6 e.1 e.2 := 
  mc_1 (mk_p (ms_gets (q := ("LeagueOffice", "COUNTS", "[I", .ref 1000)) (idx := 62) (w := 870) (host := (some "LeagueOffice")) rfl ml_f_LeagueOffice_Book_62 (by decide +kernel)) rfl) <|
  mc_1 (mk_p (ms_aload_n (k := 0) (by decide +kernel) rfl) rfl) <|
  mc_1 (mk_p (ms_get (idx := 23) (w := 142) (host := none) mx_c0 (by decide) ml_f_LeagueOffice_Book_23 (by decide +kernel)) rfl) <|
  mc_1 (mk_p (ms_iload_n (k := 1) (by decide +kernel) rfl) rfl) <|
  mc_1 (mk_c (k := mq_68) rfl ⟨mo_68, 58, 766, none, ml_m_LeagueOffice_Book_58, Or.inr (Or.inr (Or.inl ⟨6, TX6, 2, by decide, rfl, rfl, (by decide +kernel), ⟨1, rfl, mx_npd (by decide +kernel)⟩, ml_in_591, ml_se_592⟩))⟩) <|
  mc_1 (mk_c (k := mq_161) rfl ⟨mo_161, 66, 871, (some "LeagueOffice"), ml_m_LeagueOffice_Book_66, Or.inl ⟨rfl, (by decide +kernel), mx_npd (by decide +kernel), ml_st_786⟩⟩) <|
  mc_1 (mk_p (ms_iconst (n := 1) (by decide +kernel) (by decide +kernel)) rfl) <|
  mc_1 (mk_p (ms_icmp_ne (off := (7)) (by decide +kernel) (by decide)) rfl) <| mc_0
theorem mw_6_1 : ∀ e ∈ mt_6_1, mx_Ok mx_MT mq_6 e.1 e.2 := 
  mc_1 (mk_p (ms_iconst (n := 1) (by decide +kernel) (by decide +kernel)) rfl) <|
  mc_1 (mk_p (ms_goto (off := (4)) (by decide +kernel) (by decide)) rfl) <|
  mc_1 (mk_p (ms_iconst (n := 0) (by decide +kernel) (by decide +kernel)) rfl) <|
  mc_1 (mk_r (Or.inl ⟨rfl, by decide +kernel, _, rfl, mf_2⟩) rfl) <| mc_0
theorem mw_6 : ∀ ch ∈ mt_6, ∀ e ∈ ch, mx_Ok mx_MT mq_6 e.1 e.2 := mc_2 mw_6_0 <| mc_2 mw_6_1 <| mc_3
/- 7 LeagueOffice$Book.doesServe(I)Z -/
theorem mw_7_0 : ∀ e ∈ mt_7_0, mx_Ok mx_MT mq_7 e.1 e.2 := 
  mc_1 (mk_p (ms_gets (q := ("LeagueOffice", "SERVES", "[I", .ref 1001)) (idx := 70) (w := 1025) (host := (some "LeagueOffice")) rfl ml_f_LeagueOffice_Book_70 (by decide +kernel)) rfl) <|
  mc_1 (mk_p (ms_aload_n (k := 0) (by decide +kernel) rfl) rfl) <|
  mc_1 (mk_p (ms_get (idx := 23) (w := 142) (host := none) mx_c0 (by decide) ml_f_LeagueOffice_Book_23 (by decide +kernel)) rfl) <|
  mc_1 (mk_p (ms_iload_n (k := 1) (by decide +kernel) rfl) rfl) <|
  mc_1 (mk_c (k := mq_68) rfl ⟨mo_68, 58, 766, none, ml_m_LeagueOffice_Book_58, Or.inr (Or.inr (Or.inl ⟨6, TX6, 2, by decide, rfl, rfl, (by decide +kernel), ⟨1, rfl, mx_npd (by decide +kernel)⟩, ml_in_591, ml_se_592⟩))⟩) <|
  mc_1 (mk_c (k := mq_161) rfl ⟨mo_161, 66, 871, (some "LeagueOffice"), ml_m_LeagueOffice_Book_66, Or.inl ⟨rfl, (by decide +kernel), mx_npd (by decide +kernel), ml_st_786⟩⟩) <|
  mc_1 (mk_p (ms_iconst (n := 1) (by decide +kernel) (by decide +kernel)) rfl) <|
  mc_1 (mk_p (ms_icmp_ne (off := (7)) (by decide +kernel) (by decide)) rfl) <| mc_0
theorem mw_7_1 : ∀ e ∈ mt_7_1, mx_Ok mx_MT mq_7 e.1 e.2 := 
  mc_1 (mk_p (ms_iconst (n := 1) (by decide +kernel) (by decide +kernel)) rfl) <|
  mc_1 (mk_p (ms_goto (off := (4)) (by decide +kernel) (by decide)) rfl) <|
  mc_1 (mk_p (ms_iconst (n := 0) (by decide +kernel) (by decide +kernel)) rfl) <|
  mc_1 (mk_r (Or.inl ⟨rfl, by decide +kernel, _, rfl, mf_2⟩) rfl) <| mc_0
theorem mw_7 : ∀ ch ∈ mt_7, ∀ e ∈ ch, mx_Ok mx_MT mq_7 e.1 e.2 := mc_2 mw_7_0 <| mc_2 mw_7_1 <| mc_3
/- 8 LeagueOffice$Book.isLate(I)I -/
theorem mw_8_0 : ∀ e ∈ mt_8_0, mx_Ok mx_MT mq_8 e.1 e.2 := 
  mc_1 (mk_p (ms_aload_n (k := 0) (by decide +kernel) rfl) rfl) <|
  mc_1 (mk_p (ms_get (idx := 23) (w := 142) (host := none) mx_c0 (by decide) ml_f_LeagueOffice_Book_23 (by decide +kernel)) rfl) <|
  mc_1 (mk_p (ms_iload_n (k := 1) (by decide +kernel) rfl) rfl) <|
  mc_1 (mk_c (k := mq_68) rfl ⟨mo_68, 58, 766, none, ml_m_LeagueOffice_Book_58, Or.inr (Or.inr (Or.inl ⟨6, TX6, 2, by decide, rfl, rfl, (by decide +kernel), ⟨1, rfl, mx_npd (by decide +kernel)⟩, ml_in_591, ml_se_592⟩))⟩) <|
  mc_1 (mk_p (ms_iconst (n := 2) (by decide +kernel) (by decide +kernel)) rfl) <|
  mc_1 (mk_c (k := mq_162) rfl ⟨mo_162, 73, 889, (some "LeagueOffice"), ml_m_LeagueOffice_Book_73, Or.inl ⟨rfl, (by decide +kernel), mx_npd (by decide +kernel), ml_st_890⟩⟩) <|
  mc_1 (mk_p (ms_if_eq (off := (7)) (by decide +kernel) (by decide)) rfl) <|
  mc_1 (mk_p (ms_iconst (n := 1) (by decide +kernel) (by decide +kernel)) rfl) <| mc_0
theorem mw_8_1 : ∀ e ∈ mt_8_1, mx_Ok mx_MT mq_8 e.1 e.2 := 
  mc_1 (mk_p (ms_goto (off := (4)) (by decide +kernel) (by decide)) rfl) <|
  mc_1 (mk_p (ms_iconst (n := 0) (by decide +kernel) (by decide +kernel)) rfl) <|
  mc_1 (mk_r (Or.inl ⟨rfl, by decide +kernel, _, rfl, mf_0⟩) rfl) <| mc_0
theorem mw_8 : ∀ ch ∈ mt_8, ∀ e ∈ ch, mx_Ok mx_MT mq_8 e.1 e.2 := mc_2 mw_8_0 <| mc_2 mw_8_1 <| mc_3
/- 9 LeagueOffice$Book.addGame(IIII)I -/
theorem mw_9_0 : ∀ e ∈ mt_9_0, mx_Ok mx_MT mq_9 e.1 e.2 := 
  mc_1 (mk_p (ms_aload_n (k := 0) (by decide +kernel) rfl) rfl) <|
  mc_1 (mk_p (ms_get (idx := 23) (w := 142) (host := none) mx_c0 (by decide) ml_f_LeagueOffice_Book_23 (by decide +kernel)) rfl) <|
  mc_1 (mk_c (k := mq_65) rfl ⟨mo_65, 77, 765, none, ml_m_LeagueOffice_Book_77, Or.inr (Or.inr (Or.inl ⟨6, TX6, 2, by decide, rfl, rfl, (by decide +kernel), ⟨0, rfl, mx_npd (by decide +kernel)⟩, ml_in_587, ml_se_588⟩))⟩) <|
  mc_1 (mk_p (ms_istore (by decide +kernel) (by decide)) rfl) <|
  mc_1 (mk_p (ms_aload_n (k := 0) (by decide +kernel) rfl) rfl) <|
  mc_1 (mk_p (ms_get (idx := 35) (w := 169) (host := none) mx_c0 (by decide) ml_f_LeagueOffice_Book_35 (by decide +kernel)) rfl) <|
  mc_1 (mk_c (k := mq_65) rfl ⟨mo_65, 77, 765, none, ml_m_LeagueOffice_Book_77, Or.inr (Or.inr (Or.inl ⟨6, TX6, 2, by decide, rfl, rfl, (by decide +kernel), ⟨0, rfl, mx_npd (by decide +kernel)⟩, ml_in_587, ml_se_588⟩))⟩) <| mc_0
theorem mw_9_1 : ∀ e ∈ mt_9_1, mx_Ok mx_MT mq_9 e.1 e.2 := 
  mc_1 (mk_p (ms_istore (by decide +kernel) (by decide)) rfl) <|
  mc_1 (mk_p (ms_iconst (n := 0) (by decide +kernel) (by decide +kernel)) rfl) <|
  mc_1 (mk_p (ms_istore (by decide +kernel) (by decide)) rfl) <|
  mc_1 (mk_p (ms_iload (by decide +kernel)) rfl) <|
  mc_1 (mk_p (ms_aload_n (k := 0) (by decide +kernel) rfl) rfl) <|
  mc_1 (mk_p (ms_get (idx := 35) (w := 169) (host := none) mx_c0 (by decide) ml_f_LeagueOffice_Book_35 (by decide +kernel)) rfl) <|
  mc_1 (mk_c (k := mq_65) rfl ⟨mo_65, 77, 765, none, ml_m_LeagueOffice_Book_77, Or.inr (Or.inr (Or.inl ⟨6, TX6, 2, by decide, rfl, rfl, (by decide +kernel), ⟨0, rfl, mx_npd (by decide +kernel)⟩, ml_in_587, ml_se_588⟩))⟩) <|
  mc_1 (mk_p (ms_icmp_ge (off := (46)) (by decide +kernel) (by decide)) rfl) <| mc_0
theorem mw_9_2 : ∀ e ∈ mt_9_2, mx_Ok mx_MT mq_9 e.1 e.2 := 
  mc_1 (mk_p (ms_iload (by decide +kernel)) rfl) <|
  mc_1 (mk_p (ms_aload_n (k := 0) (by decide +kernel) rfl) rfl) <|
  mc_1 (mk_p (ms_get (idx := 35) (w := 169) (host := none) mx_c0 (by decide) ml_f_LeagueOffice_Book_35 (by decide +kernel)) rfl) <|
  mc_1 (mk_c (k := mq_65) rfl ⟨mo_65, 77, 765, none, ml_m_LeagueOffice_Book_77, Or.inr (Or.inr (Or.inl ⟨6, TX6, 2, by decide, rfl, rfl, (by decide +kernel), ⟨0, rfl, mx_npd (by decide +kernel)⟩, ml_in_587, ml_se_588⟩))⟩) <|
  mc_1 (mk_p (ms_icmp_ne (off := (34)) (by decide +kernel) (by decide)) rfl) <|
  mc_1 (mk_p (ms_aload_n (k := 0) (by decide +kernel) rfl) rfl) <|
  mc_1 (mk_p (ms_get (idx := 32) (w := 163) (host := none) mx_c0 (by decide) ml_f_LeagueOffice_Book_32 (by decide +kernel)) rfl) <| mc_0
theorem mw_9_3 : ∀ e ∈ mt_9_3, mx_Ok mx_MT mq_9 e.1 e.2 := 
  mc_1 (mk_p (ms_aload_n (k := 0) (by decide +kernel) rfl) rfl) <|
  mc_1 (mk_p (ms_get (idx := 35) (w := 169) (host := none) mx_c0 (by decide) ml_f_LeagueOffice_Book_35 (by decide +kernel)) rfl) <|
  mc_1 (mk_p (ms_iload (by decide +kernel)) rfl) <|
  mc_1 (mk_c (k := mq_68) rfl ⟨mo_68, 58, 766, none, ml_m_LeagueOffice_Book_58, Or.inr (Or.inr (Or.inl ⟨6, TX6, 2, by decide, rfl, rfl, (by decide +kernel), ⟨1, rfl, mx_npd (by decide +kernel)⟩, ml_in_591, ml_se_592⟩))⟩) <|
  mc_1 (mk_c (k := mq_68) rfl ⟨mo_68, 58, 766, none, ml_m_LeagueOffice_Book_58, Or.inr (Or.inr (Or.inl ⟨6, TX6, 2, by decide, rfl, rfl, (by decide +kernel), ⟨1, rfl, mx_npd (by decide +kernel)⟩, ml_in_591, ml_se_592⟩))⟩) <|
  mc_1 (mk_p (ms_iload (by decide +kernel)) rfl) <|
  mc_1 (mk_p (ms_icmp_le (off := (7)) (by decide +kernel) (by decide)) rfl) <| mc_0
theorem mw_9_4 : ∀ e ∈ mt_9_4, mx_Ok mx_MT mq_9 e.1 e.2 := 
  mc_1 (mk_p (ms_iload (by decide +kernel)) rfl) <|
  mc_1 (mk_p (ms_istore (by decide +kernel) (by decide)) rfl) <|
  mc_1 (mk_p (ms_iinc (n := (1)) (by decide +kernel) (by decide +kernel) (by decide)) rfl) <|
  mc_1 (mk_p (ms_goto (off := (-52)) (by decide +kernel) (by decide)) rfl) <|
  mc_1 (mk_p (ms_aload_n (k := 0) (by decide +kernel) rfl) rfl) <|
  mc_1 (mk_p (ms_get (idx := 35) (w := 169) (host := none) mx_c0 (by decide) ml_f_LeagueOffice_Book_35 (by decide +kernel)) rfl) <| mc_0
theorem mw_9_5 : ∀ e ∈ mt_9_5, mx_Ok mx_MT mq_9 e.1 e.2 := 
  mc_1 (mk_p (ms_iload (by decide +kernel)) rfl) <|
  mc_1 (mk_p (ms_iload (by decide +kernel)) rfl) <|
  mc_1 (mk_c (k := mq_73) rfl ⟨mo_73, 81, 767, none, ml_m_LeagueOffice_Book_81, Or.inr (Or.inr (Or.inl ⟨6, TX6, 2, by decide, rfl, rfl, (by decide +kernel), ⟨2, rfl, mx_npd (by decide +kernel)⟩, ml_in_768, ml_se_769⟩))⟩) <|
  mc_1 (mk_p (ms_aload_n (k := 0) (by decide +kernel) rfl) rfl) <|
  mc_1 (mk_p (ms_get (idx := 26) (w := 149) (host := none) mx_c0 (by decide) ml_f_LeagueOffice_Book_26 (by decide +kernel)) rfl) <|
  mc_1 (mk_p (ms_iload_n (k := 2) (by decide +kernel) rfl) rfl) <|
  mc_1 (mk_c (k := mq_71) rfl ⟨mo_71, 85, 774, none, ml_m_LeagueOffice_Book_85, Or.inr (Or.inr (Or.inl ⟨6, TX6, 2, by decide, rfl, rfl, (by decide +kernel), ⟨1, rfl, mx_npd (by decide +kernel)⟩, ml_in_567, ml_se_568⟩))⟩) <|
  mc_1 (mk_p (ms_pop (by decide +kernel)) rfl) <| mc_0
theorem mw_9_6 : ∀ e ∈ mt_9_6, mx_Ok mx_MT mq_9 e.1 e.2 := 
  mc_1 (mk_p (ms_aload_n (k := 0) (by decide +kernel) rfl) rfl) <|
  mc_1 (mk_p (ms_get (idx := 29) (w := 156) (host := none) mx_c0 (by decide) ml_f_LeagueOffice_Book_29 (by decide +kernel)) rfl) <|
  mc_1 (mk_p (ms_iload_n (k := 3) (by decide +kernel) rfl) rfl) <|
  mc_1 (mk_c (k := mq_71) rfl ⟨mo_71, 85, 774, none, ml_m_LeagueOffice_Book_85, Or.inr (Or.inr (Or.inl ⟨6, TX6, 2, by decide, rfl, rfl, (by decide +kernel), ⟨1, rfl, mx_npd (by decide +kernel)⟩, ml_in_567, ml_se_568⟩))⟩) <|
  mc_1 (mk_p (ms_pop (by decide +kernel)) rfl) <|
  mc_1 (mk_p (ms_aload_n (k := 0) (by decide +kernel) rfl) rfl) <|
  mc_1 (mk_p (ms_get (idx := 32) (w := 163) (host := none) mx_c0 (by decide) ml_f_LeagueOffice_Book_32 (by decide +kernel)) rfl) <|
  mc_1 (mk_p (ms_iload (by decide +kernel)) rfl) <|
  mc_1 (mk_c (k := mq_71) rfl ⟨mo_71, 85, 774, none, ml_m_LeagueOffice_Book_85, Or.inr (Or.inr (Or.inl ⟨6, TX6, 2, by decide, rfl, rfl, (by decide +kernel), ⟨1, rfl, mx_npd (by decide +kernel)⟩, ml_in_567, ml_se_568⟩))⟩) <| mc_0
theorem mw_9_7 : ∀ e ∈ mt_9_7, mx_Ok mx_MT mq_9 e.1 e.2 := 
  mc_1 (mk_p (ms_pop (by decide +kernel)) rfl) <|
  mc_1 (mk_p (ms_aload_n (k := 0) (by decide +kernel) rfl) rfl) <|
  mc_1 (mk_p (ms_get (idx := 23) (w := 142) (host := none) mx_c0 (by decide) ml_f_LeagueOffice_Book_23 (by decide +kernel)) rfl) <|
  mc_1 (mk_p (ms_iload_n (k := 1) (by decide +kernel) rfl) rfl) <|
  mc_1 (mk_c (k := mq_71) rfl ⟨mo_71, 85, 774, none, ml_m_LeagueOffice_Book_85, Or.inr (Or.inr (Or.inl ⟨6, TX6, 2, by decide, rfl, rfl, (by decide +kernel), ⟨1, rfl, mx_npd (by decide +kernel)⟩, ml_in_567, ml_se_568⟩))⟩) <|
  mc_1 (mk_p (ms_iconst (n := 1) (by decide +kernel) (by decide +kernel)) rfl) <|
  mc_1 (mk_p (ms_isub (by decide +kernel)) rfl) <|
  mc_1 (mk_r (Or.inl ⟨rfl, by decide +kernel, _, rfl, mf_0⟩) rfl) <| mc_0
theorem mw_9 : ∀ ch ∈ mt_9, ∀ e ∈ ch, mx_Ok mx_MT mq_9 e.1 e.2 := mc_2 mw_9_0 <| mc_2 mw_9_1 <| mc_2 mw_9_2 <| mc_2 mw_9_3 <| mc_2 mw_9_4 <| mc_2 mw_9_5 <| mc_2 mw_9_6 <| mc_2 mw_9_7 <| mc_3
/- 10 LeagueOffice$Book.addResult(III)I -/
theorem mw_10_0 : ∀ e ∈ mt_10_0, mx_Ok mx_MT mq_10 e.1 e.2 := 
  mc_1 (mk_p (ms_aload_n (k := 0) (by decide +kernel) rfl) rfl) <|
  mc_1 (mk_p (ms_get (idx := 41) (w := 174) (host := none) mx_c0 (by decide) ml_f_LeagueOffice_Book_41 (by decide +kernel)) rfl) <|
  mc_1 (mk_p (ms_bipush (n := 100) (by decide +kernel) (by decide +kernel)) rfl) <|
  mc_1 (mk_p (ms_iload_n (k := 2) (by decide +kernel) rfl) rfl) <|
  mc_1 (mk_p (ms_imul (by decide +kernel)) rfl) <|
  mc_1 (mk_p (ms_iload_n (k := 3) (by decide +kernel) rfl) rfl) <|
  mc_1 (mk_p (ms_iadd (by decide +kernel)) rfl) <|
  mc_1 (mk_c (k := mq_71) rfl ⟨mo_71, 85, 774, none, ml_m_LeagueOffice_Book_85, Or.inr (Or.inr (Or.inl ⟨6, TX6, 2, by decide, rfl, rfl, (by decide +kernel), ⟨1, rfl, mx_npd (by decide +kernel)⟩, ml_in_567, ml_se_568⟩))⟩) <|
  mc_1 (mk_p (ms_pop (by decide +kernel)) rfl) <|
  mc_1 (mk_p (ms_aload_n (k := 0) (by decide +kernel) rfl) rfl) <|
  mc_1 (mk_p (ms_get (idx := 44) (w := 175) (host := none) mx_c0 (by decide) ml_f_LeagueOffice_Book_44 (by decide +kernel)) rfl) <| mc_0
theorem mw_10_1 : ∀ e ∈ mt_10_1, mx_Ok mx_MT mq_10 e.1 e.2 := 
  mc_1 (mk_p (ms_aload_n (k := 0) (by decide +kernel) rfl) rfl) <|
  mc_1 (mk_p (ms_get (idx := 54) (w := 133) (host := none) mx_c0 (by decide) ml_f_LeagueOffice_Book_54 (by decide +kernel)) rfl) <|
  mc_1 (mk_c (k := mq_71) rfl ⟨mo_71, 85, 774, none, ml_m_LeagueOffice_Book_85, Or.inr (Or.inr (Or.inl ⟨6, TX6, 2, by decide, rfl, rfl, (by decide +kernel), ⟨1, rfl, mx_npd (by decide +kernel)⟩, ml_in_567, ml_se_568⟩))⟩) <|
  mc_1 (mk_p (ms_pop (by decide +kernel)) rfl) <|
  mc_1 (mk_p (ms_aload_n (k := 0) (by decide +kernel) rfl) rfl) <|
  mc_1 (mk_p (ms_get (idx := 38) (w := 172) (host := none) mx_c0 (by decide) ml_f_LeagueOffice_Book_38 (by decide +kernel)) rfl) <|
  mc_1 (mk_p (ms_iload_n (k := 1) (by decide +kernel) rfl) rfl) <|
  mc_1 (mk_c (k := mq_71) rfl ⟨mo_71, 85, 774, none, ml_m_LeagueOffice_Book_85, Or.inr (Or.inr (Or.inl ⟨6, TX6, 2, by decide, rfl, rfl, (by decide +kernel), ⟨1, rfl, mx_npd (by decide +kernel)⟩, ml_in_567, ml_se_568⟩))⟩) <| mc_0
theorem mw_10_2 : ∀ e ∈ mt_10_2, mx_Ok mx_MT mq_10 e.1 e.2 := 
  mc_1 (mk_r (Or.inl ⟨rfl, by decide +kernel, _, rfl, mf_0⟩) rfl) <| mc_0
theorem mw_10 : ∀ ch ∈ mt_10, ∀ e ∈ ch, mx_Ok mx_MT mq_10 e.1 e.2 := mc_2 mw_10_0 <| mc_2 mw_10_1 <| mc_2 mw_10_2 <| mc_3
/- 11 LeagueOffice$Book.learn(I)V -/
theorem mw_11_0 : ∀ e ∈ mt_11_0, mx_Ok mx_MT mq_11 e.1 e.2 := 
  mc_1 (mk_p (ms_iconst (n := 0) (by decide +kernel) (by decide +kernel)) rfl) <|
  mc_1 (mk_p (ms_istore_n (k := 2) (by decide +kernel) rfl (by decide)) rfl) <|
  mc_1 (mk_p (ms_iload_n (k := 2) (by decide +kernel) rfl) rfl) <|
  mc_1 (mk_p (ms_aload_n (k := 0) (by decide +kernel) rfl) rfl) <|
  mc_1 (mk_p (ms_get (idx := 23) (w := 142) (host := none) mx_c0 (by decide) ml_f_LeagueOffice_Book_23 (by decide +kernel)) rfl) <|
  mc_1 (mk_c (k := mq_65) rfl ⟨mo_65, 77, 765, none, ml_m_LeagueOffice_Book_77, Or.inr (Or.inr (Or.inl ⟨6, TX6, 2, by decide, rfl, rfl, (by decide +kernel), ⟨0, rfl, mx_npd (by decide +kernel)⟩, ml_in_587, ml_se_588⟩))⟩) <|
  mc_1 (mk_p (ms_icmp_ge (off := (36)) (by decide +kernel) (by decide)) rfl) <|
  mc_1 (mk_p (ms_aload_n (k := 0) (by decide +kernel) rfl) rfl) <|
  mc_1 (mk_p (ms_get (idx := 47) (w := 176) (host := none) mx_c0 (by decide) ml_f_LeagueOffice_Book_47 (by decide +kernel)) rfl) <| mc_0
theorem mw_11_1 : ∀ e ∈ mt_11_1, mx_Ok mx_MT mq_11 e.1 e.2 := 
  mc_1 (mk_p (ms_iload_n (k := 2) (by decide +kernel) rfl) rfl) <|
  mc_1 (mk_p (ms_aload_n (k := 0) (by decide +kernel) rfl) rfl) <|
  mc_1 (mk_p (ms_get (idx := 23) (w := 142) (host := none) mx_c0 (by decide) ml_f_LeagueOffice_Book_23 (by decide +kernel)) rfl) <|
  mc_1 (mk_p (ms_iload_n (k := 2) (by decide +kernel) rfl) rfl) <|
  mc_1 (mk_c (k := mq_68) rfl ⟨mo_68, 58, 766, none, ml_m_LeagueOffice_Book_58, Or.inr (Or.inr (Or.inl ⟨6, TX6, 2, by decide, rfl, rfl, (by decide +kernel), ⟨1, rfl, mx_npd (by decide +kernel)⟩, ml_in_591, ml_se_592⟩))⟩) <|
  mc_1 (mk_p (ms_iconst (n := 3) (by decide +kernel) (by decide +kernel)) rfl) <|
  mc_1 (mk_p (ms_icmp_ne (off := (9)) (by decide +kernel) (by decide)) rfl) <|
  mc_1 (mk_p (ms_sipush (n := 300) (by decide +kernel) (by decide +kernel)) rfl) <| mc_0
theorem mw_11_2 : ∀ e ∈ mt_11_2, mx_Ok mx_MT mq_11 e.1 e.2 := 
  mc_1 (mk_p (ms_goto (off := (4)) (by decide +kernel) (by decide)) rfl) <|
  mc_1 (mk_p (ms_iconst (n := (-1)) (by decide +kernel) (by decide +kernel)) rfl) <|
  mc_1 (mk_c (k := mq_69) rfl ⟨mo_69, 88, 818, none, ml_m_LeagueOffice_Book_88, Or.inr (Or.inr (Or.inl ⟨6, TX6, 2, by decide, rfl, rfl, (by decide +kernel), ⟨2, rfl, mx_npd (by decide +kernel)⟩, ml_in_665, ml_se_666⟩))⟩) <|
  mc_1 (mk_p (ms_iinc (n := (1)) (by decide +kernel) (by decide +kernel) (by decide)) rfl) <|
  mc_1 (mk_p (ms_goto (off := (-41)) (by decide +kernel) (by decide)) rfl) <|
  mc_1 (mk_p (ms_iconst (n := 0) (by decide +kernel) (by decide +kernel)) rfl) <|
  mc_1 (mk_p (ms_istore_n (k := 2) (by decide +kernel) rfl (by decide)) rfl) <| mc_0
theorem mw_11_3 : ∀ e ∈ mt_11_3, mx_Ok mx_MT mq_11 e.1 e.2 := 
  mc_1 (mk_p (ms_iload_n (k := 2) (by decide +kernel) rfl) rfl) <|
  mc_1 (mk_p (ms_aload_n (k := 0) (by decide +kernel) rfl) rfl) <|
  mc_1 (mk_p (ms_get (idx := 38) (w := 172) (host := none) mx_c0 (by decide) ml_f_LeagueOffice_Book_38 (by decide +kernel)) rfl) <|
  mc_1 (mk_c (k := mq_65) rfl ⟨mo_65, 77, 765, none, ml_m_LeagueOffice_Book_77, Or.inr (Or.inr (Or.inl ⟨6, TX6, 2, by decide, rfl, rfl, (by decide +kernel), ⟨0, rfl, mx_npd (by decide +kernel)⟩, ml_in_587, ml_se_588⟩))⟩) <|
  mc_1 (mk_p (ms_icmp_ge (off := (44)) (by decide +kernel) (by decide)) rfl) <|
  mc_1 (mk_p (ms_aload_n (k := 0) (by decide +kernel) rfl) rfl) <|
  mc_1 (mk_p (ms_get (idx := 44) (w := 175) (host := none) mx_c0 (by decide) ml_f_LeagueOffice_Book_44 (by decide +kernel)) rfl) <|
  mc_1 (mk_p (ms_iload_n (k := 2) (by decide +kernel) rfl) rfl) <| mc_0
theorem mw_11_4 : ∀ e ∈ mt_11_4, mx_Ok mx_MT mq_11 e.1 e.2 := 
  mc_1 (mk_c (k := mq_68) rfl ⟨mo_68, 58, 766, none, ml_m_LeagueOffice_Book_58, Or.inr (Or.inr (Or.inl ⟨6, TX6, 2, by decide, rfl, rfl, (by decide +kernel), ⟨1, rfl, mx_npd (by decide +kernel)⟩, ml_in_591, ml_se_592⟩))⟩) <|
  mc_1 (mk_p (ms_iload_n (k := 1) (by decide +kernel) rfl) rfl) <|
  mc_1 (mk_p (ms_icmp_gt (off := (26)) (by decide +kernel) (by decide)) rfl) <|
  mc_1 (mk_p (ms_aload_n (k := 0) (by decide +kernel) rfl) rfl) <|
  mc_1 (mk_p (ms_get (idx := 47) (w := 176) (host := none) mx_c0 (by decide) ml_f_LeagueOffice_Book_47 (by decide +kernel)) rfl) <|
  mc_1 (mk_p (ms_aload_n (k := 0) (by decide +kernel) rfl) rfl) <|
  mc_1 (mk_p (ms_get (idx := 38) (w := 172) (host := none) mx_c0 (by decide) ml_f_LeagueOffice_Book_38 (by decide +kernel)) rfl) <|
  mc_1 (mk_p (ms_iload_n (k := 2) (by decide +kernel) rfl) rfl) <| mc_0
theorem mw_11_5 : ∀ e ∈ mt_11_5, mx_Ok mx_MT mq_11 e.1 e.2 := 
  mc_1 (mk_c (k := mq_68) rfl ⟨mo_68, 58, 766, none, ml_m_LeagueOffice_Book_58, Or.inr (Or.inr (Or.inl ⟨6, TX6, 2, by decide, rfl, rfl, (by decide +kernel), ⟨1, rfl, mx_npd (by decide +kernel)⟩, ml_in_591, ml_se_592⟩))⟩) <|
  mc_1 (mk_p (ms_aload_n (k := 0) (by decide +kernel) rfl) rfl) <|
  mc_1 (mk_p (ms_get (idx := 41) (w := 174) (host := none) mx_c0 (by decide) ml_f_LeagueOffice_Book_41 (by decide +kernel)) rfl) <|
  mc_1 (mk_p (ms_iload_n (k := 2) (by decide +kernel) rfl) rfl) <|
  mc_1 (mk_c (k := mq_68) rfl ⟨mo_68, 58, 766, none, ml_m_LeagueOffice_Book_58, Or.inr (Or.inr (Or.inl ⟨6, TX6, 2, by decide, rfl, rfl, (by decide +kernel), ⟨1, rfl, mx_npd (by decide +kernel)⟩, ml_in_591, ml_se_592⟩))⟩) <|
  mc_1 (mk_c (k := mq_69) rfl ⟨mo_69, 88, 818, none, ml_m_LeagueOffice_Book_88, Or.inr (Or.inr (Or.inl ⟨6, TX6, 2, by decide, rfl, rfl, (by decide +kernel), ⟨2, rfl, mx_npd (by decide +kernel)⟩, ml_in_665, ml_se_666⟩))⟩) <|
  mc_1 (mk_p (ms_iinc (n := (1)) (by decide +kernel) (by decide +kernel) (by decide)) rfl) <| mc_0
theorem mw_11_6 : ∀ e ∈ mt_11_6, mx_Ok mx_MT mq_11 e.1 e.2 := 
  mc_1 (mk_p (ms_goto (off := (-49)) (by decide +kernel) (by decide)) rfl) <|
  mc_1 (mk_r (Or.inr (Or.inr (Or.inr ⟨rfl, by decide +kernel, rfl⟩))) rfl) <| mc_0
theorem mw_11 : ∀ ch ∈ mt_11, ∀ e ∈ ch, mx_Ok mx_MT mq_11 e.1 e.2 := mc_2 mw_11_0 <| mc_2 mw_11_1 <| mc_2 mw_11_2 <| mc_2 mw_11_3 <| mc_2 mw_11_4 <| mc_2 mw_11_5 <| mc_2 mw_11_6 <| mc_3
/- 12 LeagueOffice$Chances.<init>(LLeagueOffice$Book;LLeagueOffice$Texts;LLeagueOffice$Tables;)V -/
theorem mw_12_0 : ∀ e ∈ mt_12_0, mx_Ok mx_MT mq_12 e.1 e.2 := 
  mc_1 (mk_p (ms_aload_n (k := 0) (by decide +kernel) rfl) rfl) <|
  mc_1 (mk_p (ms_obj (idx := 3) 417 103 104 (by decide +kernel) (by decide +kernel) (by decide +kernel) (by decide +kernel)) rfl) <|
  mc_1 (mk_p (ms_aload_n (k := 0) (by decide +kernel) rfl) rfl) <|
  mc_1 (mk_p (mn_6 (idx := 9) 418 (by decide +kernel) (by decide +kernel)) rfl) <|
  mc_1 (mk_p (ms_dup (by decide +kernel)) rfl) <|
  mc_1 (mk_p (ms_bipush (n := 60) (by decide +kernel) (by decide +kernel)) rfl) <|
  mc_1 (mk_c (k := mq_64) rfl ⟨mo_64, 11, 419, none, ml_m_LeagueOffice_Chances_11, Or.inr (Or.inl ⟨rfl, (by decide +kernel), ⟨1, rfl, mx_npd (by decide +kernel)⟩, ml_in_114, rfl, rfl⟩)⟩) <|
  mc_1 (mk_p (ms_putF (idx := 14) (w := 423) mx_c1 (by decide) ml_f_LeagueOffice_Chances_14 rfl rfl rfl rfl (by decide +kernel)) rfl) <| mc_0
theorem mw_12_1 : ∀ e ∈ mt_12_1, mx_Ok mx_MT mq_12 e.1 e.2 := 
  mc_1 (mk_p (ms_aload_n (k := 0) (by decide +kernel) rfl) rfl) <|
  mc_1 (mk_p (mn_6 (idx := 9) 418 (by decide +kernel) (by decide +kernel)) rfl) <|
  mc_1 (mk_p (ms_dup (by decide +kernel)) rfl) <|
  mc_1 (mk_p (ms_bipush (n := 6) (by decide +kernel) (by decide +kernel)) rfl) <|
  mc_1 (mk_c (k := mq_64) rfl ⟨mo_64, 11, 419, none, ml_m_LeagueOffice_Chances_11, Or.inr (Or.inl ⟨rfl, (by decide +kernel), ⟨1, rfl, mx_npd (by decide +kernel)⟩, ml_in_114, rfl, rfl⟩)⟩) <|
  mc_1 (mk_p (ms_putF (idx := 20) (w := 424) mx_c1 (by decide) ml_f_LeagueOffice_Chances_20 rfl rfl rfl rfl (by decide +kernel)) rfl) <|
  mc_1 (mk_p (ms_aload_n (k := 0) (by decide +kernel) rfl) rfl) <|
  mc_1 (mk_p (mn_6 (idx := 9) 418 (by decide +kernel) (by decide +kernel)) rfl) <| mc_0
theorem mw_12_2 : ∀ e ∈ mt_12_2, mx_Ok mx_MT mq_12 e.1 e.2 := 
  mc_1 (mk_p (ms_dup (by decide +kernel)) rfl) <|
  mc_1 (mk_p (ms_bipush (n := 6) (by decide +kernel) (by decide +kernel)) rfl) <|
  mc_1 (mk_c (k := mq_64) rfl ⟨mo_64, 11, 419, none, ml_m_LeagueOffice_Chances_11, Or.inr (Or.inl ⟨rfl, (by decide +kernel), ⟨1, rfl, mx_npd (by decide +kernel)⟩, ml_in_114, rfl, rfl⟩)⟩) <|
  mc_1 (mk_p (ms_putF (idx := 23) (w := 425) mx_c1 (by decide) ml_f_LeagueOffice_Chances_23 rfl rfl rfl rfl (by decide +kernel)) rfl) <|
  mc_1 (mk_p (ms_aload_n (k := 0) (by decide +kernel) rfl) rfl) <|
  mc_1 (mk_p (mn_6 (idx := 9) 418 (by decide +kernel) (by decide +kernel)) rfl) <|
  mc_1 (mk_p (ms_dup (by decide +kernel)) rfl) <| mc_0
theorem mw_12_3 : ∀ e ∈ mt_12_3, mx_Ok mx_MT mq_12 e.1 e.2 := 
  mc_1 (mk_p (ms_bipush (n := 6) (by decide +kernel) (by decide +kernel)) rfl) <|
  mc_1 (mk_c (k := mq_64) rfl ⟨mo_64, 11, 419, none, ml_m_LeagueOffice_Chances_11, Or.inr (Or.inl ⟨rfl, (by decide +kernel), ⟨1, rfl, mx_npd (by decide +kernel)⟩, ml_in_114, rfl, rfl⟩)⟩) <|
  mc_1 (mk_p (ms_putF (idx := 26) (w := 426) mx_c1 (by decide) ml_f_LeagueOffice_Chances_26 rfl rfl rfl rfl (by decide +kernel)) rfl) <|
  mc_1 (mk_p (ms_aload_n (k := 0) (by decide +kernel) rfl) rfl) <|
  mc_1 (mk_p (mn_6 (idx := 9) 418 (by decide +kernel) (by decide +kernel)) rfl) <|
  mc_1 (mk_p (ms_dup (by decide +kernel)) rfl) <|
  mc_1 (mk_p (ms_sipush (n := 729) (by decide +kernel) (by decide +kernel)) rfl) <| mc_0
theorem mw_12_4 : ∀ e ∈ mt_12_4, mx_Ok mx_MT mq_12 e.1 e.2 := 
  mc_1 (mk_c (k := mq_64) rfl ⟨mo_64, 11, 419, none, ml_m_LeagueOffice_Chances_11, Or.inr (Or.inl ⟨rfl, (by decide +kernel), ⟨1, rfl, mx_npd (by decide +kernel)⟩, ml_in_114, rfl, rfl⟩)⟩) <|
  mc_1 (mk_p (ms_putF (idx := 29) (w := 427) mx_c1 (by decide) ml_f_LeagueOffice_Chances_29 rfl rfl rfl rfl (by decide +kernel)) rfl) <|
  mc_1 (mk_p (ms_aload_n (k := 0) (by decide +kernel) rfl) rfl) <|
  mc_1 (mk_p (ms_sipush (n := 729) (by decide +kernel) (by decide +kernel)) rfl) <|
  mc_1 (mk_p (ms_newa (at' := .long) 320 (by decide) rfl (by decide +kernel) (by decide) (by decide +kernel)) rfl) <|
  mc_1 (mk_p (ms_putF (idx := 32) (w := 428) mx_c1 (by decide) ml_f_LeagueOffice_Chances_32 rfl rfl rfl rfl (by decide +kernel)) rfl) <|
  mc_1 (mk_p (ms_aload_n (k := 0) (by decide +kernel) rfl) rfl) <| mc_0
theorem mw_12_5 : ∀ e ∈ mt_12_5, mx_Ok mx_MT mq_12 e.1 e.2 := 
  mc_1 (mk_p (ms_aload_n (k := 1) (by decide +kernel) rfl) rfl) <|
  mc_1 (mk_p (ms_putF (idx := 36) (w := 420) mx_c1 (by decide) ml_f_LeagueOffice_Chances_36 rfl rfl rfl rfl (by decide +kernel)) rfl) <|
  mc_1 (mk_p (ms_aload_n (k := 0) (by decide +kernel) rfl) rfl) <|
  mc_1 (mk_p (ms_aload_n (k := 2) (by decide +kernel) rfl) rfl) <|
  mc_1 (mk_p (ms_putF (idx := 40) (w := 421) mx_c1 (by decide) ml_f_LeagueOffice_Chances_40 rfl rfl rfl rfl (by decide +kernel)) rfl) <|
  mc_1 (mk_p (ms_aload_n (k := 0) (by decide +kernel) rfl) rfl) <|
  mc_1 (mk_p (ms_aload_n (k := 3) (by decide +kernel) rfl) rfl) <|
  mc_1 (mk_p (ms_putF (idx := 44) (w := 422) mx_c1 (by decide) ml_f_LeagueOffice_Chances_44 rfl rfl rfl rfl (by decide +kernel)) rfl) <|
  mc_1 (mk_r (Or.inr (Or.inr (Or.inr ⟨rfl, by decide +kernel, rfl⟩))) rfl) <| mc_0
theorem mw_12 : ∀ ch ∈ mt_12, ∀ e ∈ ch, mx_Ok mx_MT mq_12 e.1 e.2 := mc_2 mw_12_0 <| mc_2 mw_12_1 <| mc_2 mw_12_2 <| mc_2 mw_12_3 <| mc_2 mw_12_4 <| mc_2 mw_12_5 <| mc_3
/- 13 LeagueOffice$Chances.gather(I)I -/
theorem mw_13_0 : ∀ e ∈ mt_13_0, mx_Ok mx_MT mq_13 e.1 e.2 := 
  mc_1 (mk_p (ms_aload_n (k := 0) (by decide +kernel) rfl) rfl) <|
  mc_1 (mk_p (ms_get (idx := 36) (w := 420) (host := none) mx_c1 (by decide) ml_f_LeagueOffice_Chances_36 (by decide +kernel)) rfl) <|
  mc_1 (mk_p (ms_aload_n (k := 0) (by decide +kernel) rfl) rfl) <|
  mc_1 (mk_p (ms_get (idx := 36) (w := 420) (host := none) mx_c1 (by decide) ml_f_LeagueOffice_Chances_36 (by decide +kernel)) rfl) <|
  mc_1 (mk_p (ms_get (idx := 48) (w := 129) (host := (some "LeagueOffice")) mx_c0 (by decide) ml_f_LeagueOffice_Chances_48 (by decide +kernel)) rfl) <|
  mc_1 (mk_c (k := mq_11) rfl ⟨mo_11, 54, 1110, none, ml_m_LeagueOffice_Chances_54, Or.inr (Or.inr (Or.inl ⟨0, TX0, 12, by decide, rfl, rfl, (by decide +kernel), ⟨1, rfl, mx_npd (by decide +kernel)⟩, ml_in_815, ml_se_816⟩))⟩) <|
  mc_1 (mk_p (ms_aload_n (k := 0) (by decide +kernel) rfl) rfl) <|
  mc_1 (mk_p (ms_get (idx := 14) (w := 423) (host := none) mx_c1 (by decide) ml_f_LeagueOffice_Chances_14 (by decide +kernel)) rfl) <| mc_0
theorem mw_13_1 : ∀ e ∈ mt_13_1, mx_Ok mx_MT mq_13 e.1 e.2 := 
  mc_1 (mk_c (k := mq_75) rfl ⟨mo_75, 57, 1111, none, ml_m_LeagueOffice_Chances_57, Or.inr (Or.inr (Or.inl ⟨6, TX6, 2, by decide, rfl, rfl, (by decide +kernel), ⟨0, rfl, mx_npd (by decide +kernel)⟩, ml_in_579, ml_se_580⟩))⟩) <|
  mc_1 (mk_p (ms_iconst (n := 0) (by decide +kernel) (by decide +kernel)) rfl) <|
  mc_1 (mk_p (ms_istore_n (k := 2) (by decide +kernel) rfl (by decide)) rfl) <|
  mc_1 (mk_p (ms_iload_n (k := 2) (by decide +kernel) rfl) rfl) <|
  mc_1 (mk_p (ms_aload_n (k := 0) (by decide +kernel) rfl) rfl) <|
  mc_1 (mk_p (ms_get (idx := 36) (w := 420) (host := none) mx_c1 (by decide) ml_f_LeagueOffice_Chances_36 (by decide +kernel)) rfl) <|
  mc_1 (mk_p (ms_get (idx := 60) (w := 143) (host := (some "LeagueOffice")) mx_c0 (by decide) ml_f_LeagueOffice_Chances_60 (by decide +kernel)) rfl) <|
  mc_1 (mk_c (k := mq_65) rfl ⟨mo_65, 63, 1112, none, ml_m_LeagueOffice_Chances_63, Or.inr (Or.inr (Or.inl ⟨6, TX6, 2, by decide, rfl, rfl, (by decide +kernel), ⟨0, rfl, mx_npd (by decide +kernel)⟩, ml_in_587, ml_se_588⟩))⟩) <| mc_0
theorem mw_13_2 : ∀ e ∈ mt_13_2, mx_Ok mx_MT mq_13 e.1 e.2 := 
  mc_1 (mk_p (ms_icmp_ge (off := (97)) (by decide +kernel) (by decide)) rfl) <|
  mc_1 (mk_p (ms_aload_n (k := 0) (by decide +kernel) rfl) rfl) <|
  mc_1 (mk_p (ms_get (idx := 36) (w := 420) (host := none) mx_c1 (by decide) ml_f_LeagueOffice_Chances_36 (by decide +kernel)) rfl) <|
  mc_1 (mk_p (ms_iload_n (k := 1) (by decide +kernel) rfl) rfl) <|
  mc_1 (mk_p (ms_aload_n (k := 0) (by decide +kernel) rfl) rfl) <|
  mc_1 (mk_p (ms_get (idx := 36) (w := 420) (host := none) mx_c1 (by decide) ml_f_LeagueOffice_Chances_36 (by decide +kernel)) rfl) <|
  mc_1 (mk_p (ms_get (idx := 67) (w := 150) (host := (some "LeagueOffice")) mx_c0 (by decide) ml_f_LeagueOffice_Chances_67 (by decide +kernel)) rfl) <| mc_0
theorem mw_13_3 : ∀ e ∈ mt_13_3, mx_Ok mx_MT mq_13 e.1 e.2 := 
  mc_1 (mk_p (ms_iload_n (k := 2) (by decide +kernel) rfl) rfl) <|
  mc_1 (mk_c (k := mq_68) rfl ⟨mo_68, 70, 1113, none, ml_m_LeagueOffice_Chances_70, Or.inr (Or.inr (Or.inl ⟨6, TX6, 2, by decide, rfl, rfl, (by decide +kernel), ⟨1, rfl, mx_npd (by decide +kernel)⟩, ml_in_591, ml_se_592⟩))⟩) <|
  mc_1 (mk_c (k := mq_4) rfl ⟨mo_4, 74, 1114, none, ml_m_LeagueOffice_Chances_74, Or.inr (Or.inr (Or.inl ⟨0, TX0, 12, by decide, rfl, rfl, (by decide +kernel), ⟨2, rfl, mx_npd (by decide +kernel)⟩, ml_in_1115, ml_se_1116⟩))⟩) <|
  mc_1 (mk_p (ms_if_eq (off := (29)) (by decide +kernel) (by decide)) rfl) <|
  mc_1 (mk_p (ms_aload_n (k := 0) (by decide +kernel) rfl) rfl) <|
  mc_1 (mk_p (ms_get (idx := 36) (w := 420) (host := none) mx_c1 (by decide) ml_f_LeagueOffice_Chances_36 (by decide +kernel)) rfl) <|
  mc_1 (mk_p (ms_iload_n (k := 1) (by decide +kernel) rfl) rfl) <| mc_0
theorem mw_13_4 : ∀ e ∈ mt_13_4, mx_Ok mx_MT mq_13 e.1 e.2 := 
  mc_1 (mk_p (ms_aload_n (k := 0) (by decide +kernel) rfl) rfl) <|
  mc_1 (mk_p (ms_get (idx := 36) (w := 420) (host := none) mx_c1 (by decide) ml_f_LeagueOffice_Chances_36 (by decide +kernel)) rfl) <|
  mc_1 (mk_p (ms_get (idx := 78) (w := 157) (host := (some "LeagueOffice")) mx_c0 (by decide) ml_f_LeagueOffice_Chances_78 (by decide +kernel)) rfl) <|
  mc_1 (mk_p (ms_iload_n (k := 2) (by decide +kernel) rfl) rfl) <|
  mc_1 (mk_c (k := mq_68) rfl ⟨mo_68, 70, 1113, none, ml_m_LeagueOffice_Chances_70, Or.inr (Or.inr (Or.inl ⟨6, TX6, 2, by decide, rfl, rfl, (by decide +kernel), ⟨1, rfl, mx_npd (by decide +kernel)⟩, ml_in_591, ml_se_592⟩))⟩) <|
  mc_1 (mk_c (k := mq_4) rfl ⟨mo_4, 74, 1114, none, ml_m_LeagueOffice_Chances_74, Or.inr (Or.inr (Or.inl ⟨0, TX0, 12, by decide, rfl, rfl, (by decide +kernel), ⟨2, rfl, mx_npd (by decide +kernel)⟩, ml_in_1115, ml_se_1116⟩))⟩) <|
  mc_1 (mk_p (ms_if_eq (off := (7)) (by decide +kernel) (by decide)) rfl) <| mc_0
theorem mw_13_5 : ∀ e ∈ mt_13_5, mx_Ok mx_MT mq_13 e.1 e.2 := 
  mc_1 (mk_p (ms_iconst (n := 1) (by decide +kernel) (by decide +kernel)) rfl) <|
  mc_1 (mk_p (ms_goto (off := (4)) (by decide +kernel) (by decide)) rfl) <|
  mc_1 (mk_p (ms_iconst (n := 0) (by decide +kernel) (by decide +kernel)) rfl) <|
  mc_1 (mk_p (ms_istore_n (k := 3) (by decide +kernel) rfl (by decide)) rfl) <|
  mc_1 (mk_p (ms_iload_n (k := 3) (by decide +kernel) rfl) rfl) <|
  mc_1 (mk_p (ms_if_eq (off := (37)) (by decide +kernel) (by decide)) rfl) <|
  mc_1 (mk_p (ms_aload_n (k := 0) (by decide +kernel) rfl) rfl) <|
  mc_1 (mk_p (ms_get (idx := 36) (w := 420) (host := none) mx_c1 (by decide) ml_f_LeagueOffice_Chances_36 (by decide +kernel)) rfl) <|
  mc_1 (mk_p (ms_iload_n (k := 2) (by decide +kernel) rfl) rfl) <| mc_0
theorem mw_13_6 : ∀ e ∈ mt_13_6, mx_Ok mx_MT mq_13 e.1 e.2 := 
  mc_1 (mk_c (k := mq_6) rfl ⟨mo_6, 81, 1118, none, ml_m_LeagueOffice_Chances_81, Or.inr (Or.inr (Or.inl ⟨0, TX0, 12, by decide, rfl, rfl, (by decide +kernel), ⟨1, rfl, mx_npd (by decide +kernel)⟩, ml_in_867, ml_se_868⟩))⟩) <|
  mc_1 (mk_p (ms_if_eq (off := (26)) (by decide +kernel) (by decide)) rfl) <|
  mc_1 (mk_p (ms_aload_n (k := 0) (by decide +kernel) rfl) rfl) <|
  mc_1 (mk_p (ms_get (idx := 36) (w := 420) (host := none) mx_c1 (by decide) ml_f_LeagueOffice_Chances_36 (by decide +kernel)) rfl) <|
  mc_1 (mk_p (ms_get (idx := 85) (w := 178) (host := (some "LeagueOffice")) mx_c0 (by decide) ml_f_LeagueOffice_Chances_85 (by decide +kernel)) rfl) <|
  mc_1 (mk_p (ms_iload_n (k := 2) (by decide +kernel) rfl) rfl) <|
  mc_1 (mk_c (k := mq_68) rfl ⟨mo_68, 70, 1113, none, ml_m_LeagueOffice_Chances_70, Or.inr (Or.inr (Or.inl ⟨6, TX6, 2, by decide, rfl, rfl, (by decide +kernel), ⟨1, rfl, mx_npd (by decide +kernel)⟩, ml_in_591, ml_se_592⟩))⟩) <| mc_0
theorem mw_13_7 : ∀ e ∈ mt_13_7, mx_Ok mx_MT mq_13 e.1 e.2 := 
  mc_1 (mk_p (ms_if_ge (off := (12)) (by decide +kernel) (by decide)) rfl) <|
  mc_1 (mk_p (ms_aload_n (k := 0) (by decide +kernel) rfl) rfl) <|
  mc_1 (mk_p (ms_get (idx := 14) (w := 423) (host := none) mx_c1 (by decide) ml_f_LeagueOffice_Chances_14 (by decide +kernel)) rfl) <|
  mc_1 (mk_p (ms_iload_n (k := 2) (by decide +kernel) rfl) rfl) <|
  mc_1 (mk_c (k := mq_71) rfl ⟨mo_71, 88, 1119, none, ml_m_LeagueOffice_Chances_88, Or.inr (Or.inr (Or.inl ⟨6, TX6, 2, by decide, rfl, rfl, (by decide +kernel), ⟨1, rfl, mx_npd (by decide +kernel)⟩, ml_in_567, ml_se_568⟩))⟩) <|
  mc_1 (mk_p (ms_pop (by decide +kernel)) rfl) <|
  mc_1 (mk_p (ms_iinc (n := (1)) (by decide +kernel) (by decide +kernel) (by decide)) rfl) <| mc_0
theorem mw_13_8 : ∀ e ∈ mt_13_8, mx_Ok mx_MT mq_13 e.1 e.2 := 
  mc_1 (mk_p (ms_goto (off := (-105)) (by decide +kernel) (by decide)) rfl) <|
  mc_1 (mk_p (ms_aload_n (k := 0) (by decide +kernel) rfl) rfl) <|
  mc_1 (mk_p (ms_get (idx := 14) (w := 423) (host := none) mx_c1 (by decide) ml_f_LeagueOffice_Chances_14 (by decide +kernel)) rfl) <|
  mc_1 (mk_c (k := mq_65) rfl ⟨mo_65, 63, 1112, none, ml_m_LeagueOffice_Chances_63, Or.inr (Or.inr (Or.inl ⟨6, TX6, 2, by decide, rfl, rfl, (by decide +kernel), ⟨0, rfl, mx_npd (by decide +kernel)⟩, ml_in_587, ml_se_588⟩))⟩) <|
  mc_1 (mk_r (Or.inl ⟨rfl, by decide +kernel, _, rfl, mf_0⟩) rfl) <| mc_0
theorem mw_13 : ∀ ch ∈ mt_13, ∀ e ∈ ch, mx_Ok mx_MT mq_13 e.1 e.2 := mc_2 mw_13_0 <| mc_2 mw_13_1 <| mc_2 mw_13_2 <| mc_2 mw_13_3 <| mc_2 mw_13_4 <| mc_2 mw_13_5 <| mc_2 mw_13_6 <| mc_2 mw_13_7 <| mc_2 mw_13_8 <| mc_3
/- 14 LeagueOffice$Chances.tryAll(I)Z -/
theorem mw_14_0 : ∀ e ∈ mt_14_0, mx_Ok mx_MT mq_14 e.1 e.2 := 
  mc_1 (mk_p (ms_aload_n (k := 0) (by decide +kernel) rfl) rfl) <|
  mc_1 (mk_p (ms_aload_n (k := 0) (by decide +kernel) rfl) rfl) <|
  mc_1 (mk_p (ms_get (idx := 36) (w := 420) (host := none) mx_c1 (by decide) ml_f_LeagueOffice_Chances_36 (by decide +kernel)) rfl) <|
  mc_1 (mk_p (ms_get (idx := 91) (w := 136) (host := (some "LeagueOffice")) mx_c0 (by decide) ml_f_LeagueOffice_Chances_91 (by decide +kernel)) rfl) <|
  mc_1 (mk_p (ms_iload_n (k := 1) (by decide +kernel) rfl) rfl) <|
  mc_1 (mk_c (k := mq_68) rfl ⟨mo_68, 70, 1113, none, ml_m_LeagueOffice_Chances_70, Or.inr (Or.inr (Or.inl ⟨6, TX6, 2, by decide, rfl, rfl, (by decide +kernel), ⟨1, rfl, mx_npd (by decide +kernel)⟩, ml_in_591, ml_se_592⟩))⟩) <|
  mc_1 (mk_c (k := mq_13) rfl ⟨mo_13, 94, 1128, none, ml_m_LeagueOffice_Chances_94, Or.inr (Or.inr (Or.inl ⟨1, TX1, 10, by decide, rfl, rfl, (by decide +kernel), ⟨1, rfl, mx_npd (by decide +kernel)⟩, ml_in_1107, ml_se_1108⟩))⟩) <|
  mc_1 (mk_p (ms_bipush (n := 6) (by decide +kernel) (by decide +kernel)) rfl) <| mc_0
theorem mw_14_1 : ∀ e ∈ mt_14_1, mx_Ok mx_MT mq_14 e.1 e.2 := 
  mc_1 (mk_p (ms_icmp_le (off := (5)) (by decide +kernel) (by decide)) rfl) <|
  mc_1 (mk_p (ms_iconst (n := 0) (by decide +kernel) (by decide +kernel)) rfl) <|
  mc_1 (mk_r (Or.inl ⟨rfl, by decide +kernel, _, rfl, mf_2⟩) rfl) <|
  mc_1 (mk_p (ms_aload_n (k := 0) (by decide +kernel) rfl) rfl) <|
  mc_1 (mk_p (ms_get (idx := 44) (w := 422) (host := none) mx_c1 (by decide) ml_f_LeagueOffice_Chances_44 (by decide +kernel)) rfl) <|
  mc_1 (mk_p (ms_aload_n (k := 0) (by decide +kernel) rfl) rfl) <|
  mc_1 (mk_p (ms_get (idx := 36) (w := 420) (host := none) mx_c1 (by decide) ml_f_LeagueOffice_Chances_36 (by decide +kernel)) rfl) <|
  mc_1 (mk_p (ms_get (idx := 48) (w := 129) (host := (some "LeagueOffice")) mx_c0 (by decide) ml_f_LeagueOffice_Chances_48 (by decide +kernel)) rfl) <| mc_0
theorem mw_14_2 : ∀ e ∈ mt_14_2, mx_Ok mx_MT mq_14 e.1 e.2 := 
  mc_1 (mk_c (k := mq_98) rfl ⟨mo_98, 97, 1129, none, ml_m_LeagueOffice_Chances_97, Or.inr (Or.inr (Or.inl ⟨9, TX9, 12, by decide, rfl, rfl, (by decide +kernel), ⟨1, rfl, mx_npd (by decide +kernel)⟩, ml_in_850, ml_se_851⟩))⟩) <|
  mc_1 (mk_p (ms_aload_n (k := 0) (by decide +kernel) rfl) rfl) <|
  mc_1 (mk_p (ms_get (idx := 44) (w := 422) (host := none) mx_c1 (by decide) ml_f_LeagueOffice_Chances_44 (by decide +kernel)) rfl) <|
  mc_1 (mk_p (ms_iload_n (k := 1) (by decide +kernel) rfl) rfl) <|
  mc_1 (mk_c (k := mq_102) rfl ⟨mo_102, 102, 1130, none, ml_m_LeagueOffice_Chances_102, Or.inr (Or.inr (Or.inl ⟨9, TX9, 12, by decide, rfl, rfl, (by decide +kernel), ⟨1, rfl, mx_npd (by decide +kernel)⟩, ml_in_917, ml_se_918⟩))⟩) <|
  mc_1 (mk_p (ms_lstore_n (k := 2) (by decide +kernel) rfl (by decide)) rfl) <|
  mc_1 (mk_p (ms_aload_n (k := 0) (by decide +kernel) rfl) rfl) <|
  mc_1 (mk_p (ms_aload_n (k := 0) (by decide +kernel) rfl) rfl) <|
  mc_1 (mk_c (k := mq_15) rfl ⟨mo_15, 106, 1131, none, ml_m_LeagueOffice_Chances_106, Or.inr (Or.inr (Or.inl ⟨1, TX1, 10, by decide, rfl, rfl, (by decide +kernel), ⟨0, rfl, mx_npd (by decide +kernel)⟩, ml_in_1133, ml_se_21⟩))⟩) <| mc_0
theorem mw_14_3 : ∀ e ∈ mt_14_3, mx_Ok mx_MT mq_14 e.1 e.2 := 
  mc_1 (mk_p (ms_put (idx := 109) (w := 429) (host := none) mx_c1 (by decide) ml_f_LeagueOffice_Chances_109 rfl rfl (by decide +kernel)) rfl) <|
  mc_1 (mk_p (ms_iconst (n := 0) (by decide +kernel) (by decide +kernel)) rfl) <|
  mc_1 (mk_p (ms_istore (by decide +kernel) (by decide)) rfl) <|
  mc_1 (mk_p (ms_iload (by decide +kernel)) rfl) <|
  mc_1 (mk_p (ms_aload_n (k := 0) (by decide +kernel) rfl) rfl) <|
  mc_1 (mk_p (ms_get (idx := 109) (w := 429) (host := none) mx_c1 (by decide) ml_f_LeagueOffice_Chances_109 (by decide +kernel)) rfl) <|
  mc_1 (mk_p (ms_icmp_ge (off := (57)) (by decide +kernel) (by decide)) rfl) <| mc_0
theorem mw_14_4 : ∀ e ∈ mt_14_4, mx_Ok mx_MT mq_14 e.1 e.2 := 
  mc_1 (mk_p (ms_iload (by decide +kernel)) rfl) <|
  mc_1 (mk_p (ms_aload_n (k := 0) (by decide +kernel) rfl) rfl) <|
  mc_1 (mk_p (ms_get (idx := 32) (w := 428) (host := none) mx_c1 (by decide) ml_f_LeagueOffice_Chances_32 (by decide +kernel)) rfl) <|
  mc_1 (mk_p (ms_alen (by decide +kernel)) rfl) <|
  mc_1 (mk_p (ms_icmp_ge (off := (47)) (by decide +kernel) (by decide)) rfl) <|
  mc_1 (mk_p (ms_aload_n (k := 0) (by decide +kernel) rfl) rfl) <|
  mc_1 (mk_p (ms_get (idx := 29) (w := 427) (host := none) mx_c1 (by decide) ml_f_LeagueOffice_Chances_29 (by decide +kernel)) rfl) <|
  mc_1 (mk_p (ms_iload (by decide +kernel)) rfl) <| mc_0
theorem mw_14_5 : ∀ e ∈ mt_14_5, mx_Ok mx_MT mq_14 e.1 e.2 := 
  mc_1 (mk_p (ms_aload_n (k := 0) (by decide +kernel) rfl) rfl) <|
  mc_1 (mk_p (ms_get (idx := 44) (w := 422) (host := none) mx_c1 (by decide) ml_f_LeagueOffice_Chances_44 (by decide +kernel)) rfl) <|
  mc_1 (mk_p (ms_iload_n (k := 1) (by decide +kernel) rfl) rfl) <|
  mc_1 (mk_c (k := mq_104) rfl ⟨mo_104, 112, 1152, none, ml_m_LeagueOffice_Chances_112, Or.inr (Or.inr (Or.inl ⟨9, TX9, 12, by decide, rfl, rfl, (by decide +kernel), ⟨1, rfl, mx_npd (by decide +kernel)⟩, ml_in_941, ml_se_942⟩))⟩) <|
  mc_1 (mk_c (k := mq_69) rfl ⟨mo_69, 115, 1137, none, ml_m_LeagueOffice_Chances_115, Or.inr (Or.inr (Or.inl ⟨6, TX6, 2, by decide, rfl, rfl, (by decide +kernel), ⟨2, rfl, mx_npd (by decide +kernel)⟩, ml_in_665, ml_se_666⟩))⟩) <|
  mc_1 (mk_p (ms_aload_n (k := 0) (by decide +kernel) rfl) rfl) <|
  mc_1 (mk_p (ms_get (idx := 32) (w := 428) (host := none) mx_c1 (by decide) ml_f_LeagueOffice_Chances_32 (by decide +kernel)) rfl) <| mc_0
theorem mw_14_6 : ∀ e ∈ mt_14_6, mx_Ok mx_MT mq_14 e.1 e.2 := 
  mc_1 (mk_p (ms_iload (by decide +kernel)) rfl) <|
  mc_1 (mk_p (ms_aload_n (k := 0) (by decide +kernel) rfl) rfl) <|
  mc_1 (mk_p (ms_get (idx := 44) (w := 422) (host := none) mx_c1 (by decide) ml_f_LeagueOffice_Chances_44 (by decide +kernel)) rfl) <|
  mc_1 (mk_p (ms_iload_n (k := 1) (by decide +kernel) rfl) rfl) <|
  mc_1 (mk_c (k := mq_102) rfl ⟨mo_102, 102, 1130, none, ml_m_LeagueOffice_Chances_102, Or.inr (Or.inr (Or.inl ⟨9, TX9, 12, by decide, rfl, rfl, (by decide +kernel), ⟨1, rfl, mx_npd (by decide +kernel)⟩, ml_in_917, ml_se_918⟩))⟩) <|
  mc_1 (mk_p (ms_lload_n (k := 2) (by decide +kernel) rfl) rfl) <|
  mc_1 (mk_p (ms_lsub (by decide +kernel)) rfl) <|
  mc_1 (mk_p (ms_last (by decide +kernel)) rfl) <|
  mc_1 (mk_p (ms_aload_n (k := 0) (by decide +kernel) rfl) rfl) <|
  mc_1 (mk_c (k := mq_16) rfl ⟨mo_16, 119, 1153, none, ml_m_LeagueOffice_Chances_119, Or.inr (Or.inr (Or.inl ⟨1, TX1, 10, by decide, rfl, rfl, (by decide +kernel), ⟨0, rfl, mx_npd (by decide +kernel)⟩, ml_in_1155, ml_se_25⟩))⟩) <| mc_0
theorem mw_14_7 : ∀ e ∈ mt_14_7, mx_Ok mx_MT mq_14 e.1 e.2 := 
  mc_1 (mk_p (ms_iinc (n := (1)) (by decide +kernel) (by decide +kernel) (by decide)) rfl) <|
  mc_1 (mk_p (ms_goto (off := (-60)) (by decide +kernel) (by decide)) rfl) <|
  mc_1 (mk_p (ms_iconst (n := 1) (by decide +kernel) (by decide +kernel)) rfl) <|
  mc_1 (mk_r (Or.inl ⟨rfl, by decide +kernel, _, rfl, mf_2⟩) rfl) <| mc_0
theorem mw_14 : ∀ ch ∈ mt_14, ∀ e ∈ ch, mx_Ok mx_MT mq_14 e.1 e.2 := mc_2 mw_14_0 <| mc_2 mw_14_1 <| mc_2 mw_14_2 <| mc_2 mw_14_3 <| mc_2 mw_14_4 <| mc_2 mw_14_5 <| mc_2 mw_14_6 <| mc_2 mw_14_7 <| mc_3
/- 15 LeagueOffice$Chances.enterFirst()I -/
theorem mw_15_0 : ∀ e ∈ mt_15_0, mx_Ok mx_MT mq_15 e.1 e.2 := 
  mc_1 (mk_p (ms_iconst (n := 1) (by decide +kernel) (by decide +kernel)) rfl) <|
  mc_1 (mk_p (ms_istore_n (k := 1) (by decide +kernel) rfl (by decide)) rfl) <|
  mc_1 (mk_p (ms_iconst (n := 0) (by decide +kernel) (by decide +kernel)) rfl) <|
  mc_1 (mk_p (ms_istore_n (k := 2) (by decide +kernel) rfl (by decide)) rfl) <|
  mc_1 (mk_p (ms_iload_n (k := 2) (by decide +kernel) rfl) rfl) <|
  mc_1 (mk_p (ms_aload_n (k := 0) (by decide +kernel) rfl) rfl) <|
  mc_1 (mk_p (ms_get (idx := 14) (w := 423) (host := none) mx_c1 (by decide) ml_f_LeagueOffice_Chances_14 (by decide +kernel)) rfl) <|
  mc_1 (mk_c (k := mq_65) rfl ⟨mo_65, 63, 1112, none, ml_m_LeagueOffice_Chances_63, Or.inr (Or.inr (Or.inl ⟨6, TX6, 2, by decide, rfl, rfl, (by decide +kernel), ⟨0, rfl, mx_npd (by decide +kernel)⟩, ml_in_587, ml_se_588⟩))⟩) <|
  mc_1 (mk_p (ms_icmp_ge (off := (123)) (by decide +kernel) (by decide)) rfl) <|
  mc_1 (mk_p (ms_aload_n (k := 0) (by decide +kernel) rfl) rfl) <| mc_0
theorem mw_15_1 : ∀ e ∈ mt_15_1, mx_Ok mx_MT mq_15 e.1 e.2 := 
  mc_1 (mk_p (ms_get (idx := 14) (w := 423) (host := none) mx_c1 (by decide) ml_f_LeagueOffice_Chances_14 (by decide +kernel)) rfl) <|
  mc_1 (mk_p (ms_iload_n (k := 2) (by decide +kernel) rfl) rfl) <|
  mc_1 (mk_c (k := mq_68) rfl ⟨mo_68, 70, 1113, none, ml_m_LeagueOffice_Chances_70, Or.inr (Or.inr (Or.inl ⟨6, TX6, 2, by decide, rfl, rfl, (by decide +kernel), ⟨1, rfl, mx_npd (by decide +kernel)⟩, ml_in_591, ml_se_592⟩))⟩) <|
  mc_1 (mk_p (ms_istore_n (k := 3) (by decide +kernel) rfl (by decide)) rfl) <|
  mc_1 (mk_p (ms_aload_n (k := 0) (by decide +kernel) rfl) rfl) <|
  mc_1 (mk_p (ms_get (idx := 36) (w := 420) (host := none) mx_c1 (by decide) ml_f_LeagueOffice_Chances_36 (by decide +kernel)) rfl) <|
  mc_1 (mk_p (ms_get (idx := 122) (w := 165) (host := (some "LeagueOffice")) mx_c0 (by decide) ml_f_LeagueOffice_Chances_122 (by decide +kernel)) rfl) <|
  mc_1 (mk_p (ms_iload_n (k := 3) (by decide +kernel) rfl) rfl) <| mc_0
theorem mw_15_2 : ∀ e ∈ mt_15_2, mx_Ok mx_MT mq_15 e.1 e.2 := 
  mc_1 (mk_c (k := mq_68) rfl ⟨mo_68, 70, 1113, none, ml_m_LeagueOffice_Chances_70, Or.inr (Or.inr (Or.inl ⟨6, TX6, 2, by decide, rfl, rfl, (by decide +kernel), ⟨1, rfl, mx_npd (by decide +kernel)⟩, ml_in_591, ml_se_592⟩))⟩) <|
  mc_1 (mk_p (ms_istore (by decide +kernel) (by decide)) rfl) <|
  mc_1 (mk_p (ms_aload_n (k := 0) (by decide +kernel) rfl) rfl) <|
  mc_1 (mk_p (ms_get (idx := 36) (w := 420) (host := none) mx_c1 (by decide) ml_f_LeagueOffice_Chances_36 (by decide +kernel)) rfl) <|
  mc_1 (mk_p (ms_get (idx := 60) (w := 143) (host := (some "LeagueOffice")) mx_c0 (by decide) ml_f_LeagueOffice_Chances_60 (by decide +kernel)) rfl) <|
  mc_1 (mk_p (ms_iload_n (k := 3) (by decide +kernel) rfl) rfl) <|
  mc_1 (mk_c (k := mq_68) rfl ⟨mo_68, 70, 1113, none, ml_m_LeagueOffice_Chances_70, Or.inr (Or.inr (Or.inl ⟨6, TX6, 2, by decide, rfl, rfl, (by decide +kernel), ⟨1, rfl, mx_npd (by decide +kernel)⟩, ml_in_591, ml_se_592⟩))⟩) <| mc_0
theorem mw_15_3 : ∀ e ∈ mt_15_3, mx_Ok mx_MT mq_15 e.1 e.2 := 
  mc_1 (mk_p (ms_istore (by decide +kernel) (by decide)) rfl) <|
  mc_1 (mk_p (ms_aload_n (k := 0) (by decide +kernel) rfl) rfl) <|
  mc_1 (mk_p (ms_get (idx := 20) (w := 424) (host := none) mx_c1 (by decide) ml_f_LeagueOffice_Chances_20 (by decide +kernel)) rfl) <|
  mc_1 (mk_p (ms_iload_n (k := 2) (by decide +kernel) rfl) rfl) <|
  mc_1 (mk_p (ms_aload_n (k := 0) (by decide +kernel) rfl) rfl) <|
  mc_1 (mk_p (ms_get (idx := 40) (w := 421) (host := none) mx_c1 (by decide) ml_f_LeagueOffice_Chances_40 (by decide +kernel)) rfl) <|
  mc_1 (mk_p (ms_iconst (n := 0) (by decide +kernel) (by decide +kernel)) rfl) <|
  mc_1 (mk_p (ms_iload (by decide +kernel)) rfl) <|
  mc_1 (mk_p (ms_iconst (n := 1) (by decide +kernel) (by decide +kernel)) rfl) <|
  mc_1 (mk_p (ms_iconst (n := 1) (by decide +kernel) (by decide +kernel)) rfl) <| mc_0
theorem mw_15_4 : ∀ e ∈ mt_15_4, mx_Ok mx_MT mq_15 e.1 e.2 := 
  mc_1 (mk_p (ms_iload (by decide +kernel)) rfl) <|
  mc_1 (mk_p (ms_aload_n (k := 0) (by decide +kernel) rfl) rfl) <|
  mc_1 (mk_p (ms_get (idx := 36) (w := 420) (host := none) mx_c1 (by decide) ml_f_LeagueOffice_Chances_36 (by decide +kernel)) rfl) <|
  mc_1 (mk_p (ms_iload_n (k := 3) (by decide +kernel) rfl) rfl) <|
  mc_1 (mk_c (k := mq_8) rfl ⟨mo_8, 125, 1135, none, ml_m_LeagueOffice_Chances_125, Or.inr (Or.inr (Or.inl ⟨0, TX0, 12, by decide, rfl, rfl, (by decide +kernel), ⟨1, rfl, mx_npd (by decide +kernel)⟩, ml_in_886, ml_se_887⟩))⟩) <|
  mc_1 (mk_c (k := mq_113) rfl ⟨mo_113, 128, 1136, none, ml_m_LeagueOffice_Chances_128, Or.inr (Or.inr (Or.inl ⟨10, TX10, 8, by decide, rfl, rfl, (by decide +kernel), ⟨6, rfl, mx_npd (by decide +kernel)⟩, ml_in_895, ml_se_896⟩))⟩) <|
  mc_1 (mk_c (k := mq_69) rfl ⟨mo_69, 115, 1137, none, ml_m_LeagueOffice_Chances_115, Or.inr (Or.inr (Or.inl ⟨6, TX6, 2, by decide, rfl, rfl, (by decide +kernel), ⟨2, rfl, mx_npd (by decide +kernel)⟩, ml_in_665, ml_se_666⟩))⟩) <| mc_0
theorem mw_15_5 : ∀ e ∈ mt_15_5, mx_Ok mx_MT mq_15 e.1 e.2 := 
  mc_1 (mk_p (ms_aload_n (k := 0) (by decide +kernel) rfl) rfl) <|
  mc_1 (mk_p (ms_get (idx := 23) (w := 425) (host := none) mx_c1 (by decide) ml_f_LeagueOffice_Chances_23 (by decide +kernel)) rfl) <|
  mc_1 (mk_p (ms_iload_n (k := 2) (by decide +kernel) rfl) rfl) <|
  mc_1 (mk_p (ms_aload_n (k := 0) (by decide +kernel) rfl) rfl) <|
  mc_1 (mk_p (ms_get (idx := 40) (w := 421) (host := none) mx_c1 (by decide) ml_f_LeagueOffice_Chances_40 (by decide +kernel)) rfl) <|
  mc_1 (mk_p (ms_iconst (n := 1) (by decide +kernel) (by decide +kernel)) rfl) <|
  mc_1 (mk_p (ms_iload (by decide +kernel)) rfl) <|
  mc_1 (mk_p (ms_iconst (n := 0) (by decide +kernel) (by decide +kernel)) rfl) <|
  mc_1 (mk_p (ms_iconst (n := 0) (by decide +kernel) (by decide +kernel)) rfl) <|
  mc_1 (mk_p (ms_iload (by decide +kernel)) rfl) <| mc_0
theorem mw_15_6 : ∀ e ∈ mt_15_6, mx_Ok mx_MT mq_15 e.1 e.2 := 
  mc_1 (mk_p (ms_aload_n (k := 0) (by decide +kernel) rfl) rfl) <|
  mc_1 (mk_p (ms_get (idx := 36) (w := 420) (host := none) mx_c1 (by decide) ml_f_LeagueOffice_Chances_36 (by decide +kernel)) rfl) <|
  mc_1 (mk_p (ms_iload_n (k := 3) (by decide +kernel) rfl) rfl) <|
  mc_1 (mk_c (k := mq_8) rfl ⟨mo_8, 125, 1135, none, ml_m_LeagueOffice_Chances_125, Or.inr (Or.inr (Or.inl ⟨0, TX0, 12, by decide, rfl, rfl, (by decide +kernel), ⟨1, rfl, mx_npd (by decide +kernel)⟩, ml_in_886, ml_se_887⟩))⟩) <|
  mc_1 (mk_c (k := mq_113) rfl ⟨mo_113, 128, 1136, none, ml_m_LeagueOffice_Chances_128, Or.inr (Or.inr (Or.inl ⟨10, TX10, 8, by decide, rfl, rfl, (by decide +kernel), ⟨6, rfl, mx_npd (by decide +kernel)⟩, ml_in_895, ml_se_896⟩))⟩) <|
  mc_1 (mk_c (k := mq_69) rfl ⟨mo_69, 115, 1137, none, ml_m_LeagueOffice_Chances_115, Or.inr (Or.inr (Or.inl ⟨6, TX6, 2, by decide, rfl, rfl, (by decide +kernel), ⟨2, rfl, mx_npd (by decide +kernel)⟩, ml_in_665, ml_se_666⟩))⟩) <|
  mc_1 (mk_p (ms_aload_n (k := 0) (by decide +kernel) rfl) rfl) <|
  mc_1 (mk_p (ms_get (idx := 26) (w := 426) (host := none) mx_c1 (by decide) ml_f_LeagueOffice_Chances_26 (by decide +kernel)) rfl) <| mc_0
theorem mw_15_7 : ∀ e ∈ mt_15_7, mx_Ok mx_MT mq_15 e.1 e.2 := 
  mc_1 (mk_p (ms_iload_n (k := 2) (by decide +kernel) rfl) rfl) <|
  mc_1 (mk_p (ms_iconst (n := 0) (by decide +kernel) (by decide +kernel)) rfl) <|
  mc_1 (mk_c (k := mq_69) rfl ⟨mo_69, 115, 1137, none, ml_m_LeagueOffice_Chances_115, Or.inr (Or.inr (Or.inl ⟨6, TX6, 2, by decide, rfl, rfl, (by decide +kernel), ⟨2, rfl, mx_npd (by decide +kernel)⟩, ml_in_665, ml_se_666⟩))⟩) <|
  mc_1 (mk_p (ms_aload_n (k := 0) (by decide +kernel) rfl) rfl) <|
  mc_1 (mk_p (ms_iload_n (k := 2) (by decide +kernel) rfl) rfl) <|
  mc_1 (mk_p (ms_iconst (n := 1) (by decide +kernel) (by decide +kernel)) rfl) <|
  mc_1 (mk_c (k := mq_17) rfl ⟨mo_17, 134, 1138, none, ml_m_LeagueOffice_Chances_134, Or.inr (Or.inr (Or.inl ⟨1, TX1, 10, by decide, rfl, rfl, (by decide +kernel), ⟨2, rfl, mx_npd (by decide +kernel)⟩, ml_in_1140, ml_se_22⟩))⟩) <|
  mc_1 (mk_p (ms_iload_n (k := 1) (by decide +kernel) rfl) rfl) <|
  mc_1 (mk_p (ms_iconst (n := 3) (by decide +kernel) (by decide +kernel)) rfl) <|
  mc_1 (mk_p (ms_imul (by decide +kernel)) rfl) <| mc_0
theorem mw_15_8 : ∀ e ∈ mt_15_8, mx_Ok mx_MT mq_15 e.1 e.2 := 
  mc_1 (mk_p (ms_istore_n (k := 1) (by decide +kernel) rfl (by decide)) rfl) <|
  mc_1 (mk_p (ms_iinc (n := (1)) (by decide +kernel) (by decide +kernel) (by decide)) rfl) <|
  mc_1 (mk_p (ms_goto (off := (-128)) (by decide +kernel) (by decide)) rfl) <|
  mc_1 (mk_p (ms_iload_n (k := 1) (by decide +kernel) rfl) rfl) <|
  mc_1 (mk_r (Or.inl ⟨rfl, by decide +kernel, _, rfl, mf_0⟩) rfl) <| mc_0
theorem mw_15 : ∀ ch ∈ mt_15, ∀ e ∈ ch, mx_Ok mx_MT mq_15 e.1 e.2 := mc_2 mw_15_0 <| mc_2 mw_15_1 <| mc_2 mw_15_2 <| mc_2 mw_15_3 <| mc_2 mw_15_4 <| mc_2 mw_15_5 <| mc_2 mw_15_6 <| mc_2 mw_15_7 <| mc_2 mw_15_8 <| mc_3
/- 16 LeagueOffice$Chances.enterNext()V -/
theorem mw_16_0 : ∀ e ∈ mt_16_0, mx_Ok mx_MT mq_16 e.1 e.2 := 
  mc_1 (mk_p (ms_iconst (n := 1) (by decide +kernel) (by decide +kernel)) rfl) <|
  mc_1 (mk_p (ms_istore_n (k := 1) (by decide +kernel) rfl (by decide)) rfl) <|
  mc_1 (mk_p (ms_aload_n (k := 0) (by decide +kernel) rfl) rfl) <|
  mc_1 (mk_p (ms_get (idx := 14) (w := 423) (host := none) mx_c1 (by decide) ml_f_LeagueOffice_Chances_14 (by decide +kernel)) rfl) <|
  mc_1 (mk_c (k := mq_65) rfl ⟨mo_65, 63, 1112, none, ml_m_LeagueOffice_Chances_63, Or.inr (Or.inr (Or.inl ⟨6, TX6, 2, by decide, rfl, rfl, (by decide +kernel), ⟨0, rfl, mx_npd (by decide +kernel)⟩, ml_in_587, ml_se_588⟩))⟩) <|
  mc_1 (mk_p (ms_iconst (n := 1) (by decide +kernel) (by decide +kernel)) rfl) <|
  mc_1 (mk_p (ms_isub (by decide +kernel)) rfl) <|
  mc_1 (mk_p (ms_istore_n (k := 2) (by decide +kernel) rfl (by decide)) rfl) <|
  mc_1 (mk_p (ms_iload_n (k := 2) (by decide +kernel) rfl) rfl) <|
  mc_1 (mk_p (ms_if_lt (off := (69)) (by decide +kernel) (by decide)) rfl) <| mc_0
theorem mw_16_1 : ∀ e ∈ mt_16_1, mx_Ok mx_MT mq_16 e.1 e.2 := 
  mc_1 (mk_p (ms_iload_n (k := 1) (by decide +kernel) rfl) rfl) <|
  mc_1 (mk_p (ms_if_eq (off := (65)) (by decide +kernel) (by decide)) rfl) <|
  mc_1 (mk_p (ms_aload_n (k := 0) (by decide +kernel) rfl) rfl) <|
  mc_1 (mk_p (ms_iload_n (k := 2) (by decide +kernel) rfl) rfl) <|
  mc_1 (mk_p (ms_iconst (n := (-1)) (by decide +kernel) (by decide +kernel)) rfl) <|
  mc_1 (mk_c (k := mq_17) rfl ⟨mo_17, 134, 1138, none, ml_m_LeagueOffice_Chances_134, Or.inr (Or.inr (Or.inl ⟨1, TX1, 10, by decide, rfl, rfl, (by decide +kernel), ⟨2, rfl, mx_npd (by decide +kernel)⟩, ml_in_1140, ml_se_22⟩))⟩) <|
  mc_1 (mk_p (ms_aload_n (k := 0) (by decide +kernel) rfl) rfl) <|
  mc_1 (mk_p (ms_get (idx := 26) (w := 426) (host := none) mx_c1 (by decide) ml_f_LeagueOffice_Chances_26 (by decide +kernel)) rfl) <|
  mc_1 (mk_p (ms_iload_n (k := 2) (by decide +kernel) rfl) rfl) <|
  mc_1 (mk_c (k := mq_68) rfl ⟨mo_68, 70, 1113, none, ml_m_LeagueOffice_Chances_70, Or.inr (Or.inr (Or.inl ⟨6, TX6, 2, by decide, rfl, rfl, (by decide +kernel), ⟨1, rfl, mx_npd (by decide +kernel)⟩, ml_in_591, ml_se_592⟩))⟩) <| mc_0
theorem mw_16_2 : ∀ e ∈ mt_16_2, mx_Ok mx_MT mq_16 e.1 e.2 := 
  mc_1 (mk_p (ms_iconst (n := 2) (by decide +kernel) (by decide +kernel)) rfl) <|
  mc_1 (mk_p (ms_icmp_ne (off := (7)) (by decide +kernel) (by decide)) rfl) <|
  mc_1 (mk_p (ms_iconst (n := 1) (by decide +kernel) (by decide +kernel)) rfl) <|
  mc_1 (mk_p (ms_goto (off := (4)) (by decide +kernel) (by decide)) rfl) <|
  mc_1 (mk_p (ms_iconst (n := 0) (by decide +kernel) (by decide +kernel)) rfl) <|
  mc_1 (mk_p (ms_istore_n (k := 1) (by decide +kernel) rfl (by decide)) rfl) <|
  mc_1 (mk_p (ms_aload_n (k := 0) (by decide +kernel) rfl) rfl) <|
  mc_1 (mk_p (ms_get (idx := 26) (w := 426) (host := none) mx_c1 (by decide) ml_f_LeagueOffice_Chances_26 (by decide +kernel)) rfl) <| mc_0
theorem mw_16_3 : ∀ e ∈ mt_16_3, mx_Ok mx_MT mq_16 e.1 e.2 := 
  mc_1 (mk_p (ms_iload_n (k := 2) (by decide +kernel) rfl) rfl) <|
  mc_1 (mk_p (ms_iload_n (k := 1) (by decide +kernel) rfl) rfl) <|
  mc_1 (mk_p (ms_if_eq (off := (7)) (by decide +kernel) (by decide)) rfl) <|
  mc_1 (mk_p (ms_iconst (n := 0) (by decide +kernel) (by decide +kernel)) rfl) <|
  mc_1 (mk_p (ms_goto (off := (13)) (by decide +kernel) (by decide)) rfl) <|
  mc_1 (mk_p (ms_aload_n (k := 0) (by decide +kernel) rfl) rfl) <|
  mc_1 (mk_p (ms_get (idx := 26) (w := 426) (host := none) mx_c1 (by decide) ml_f_LeagueOffice_Chances_26 (by decide +kernel)) rfl) <|
  mc_1 (mk_p (ms_iload_n (k := 2) (by decide +kernel) rfl) rfl) <|
  mc_1 (mk_c (k := mq_68) rfl ⟨mo_68, 70, 1113, none, ml_m_LeagueOffice_Chances_70, Or.inr (Or.inr (Or.inl ⟨6, TX6, 2, by decide, rfl, rfl, (by decide +kernel), ⟨1, rfl, mx_npd (by decide +kernel)⟩, ml_in_591, ml_se_592⟩))⟩) <| mc_0
theorem mw_16_4 : ∀ e ∈ mt_16_4, mx_Ok mx_MT mq_16 e.1 e.2 := 
  mc_1 (mk_p (ms_iconst (n := 1) (by decide +kernel) (by decide +kernel)) rfl) <|
  mc_1 (mk_p (ms_iadd (by decide +kernel)) rfl) <|
  mc_1 (mk_c (k := mq_69) rfl ⟨mo_69, 115, 1137, none, ml_m_LeagueOffice_Chances_115, Or.inr (Or.inr (Or.inl ⟨6, TX6, 2, by decide, rfl, rfl, (by decide +kernel), ⟨2, rfl, mx_npd (by decide +kernel)⟩, ml_in_665, ml_se_666⟩))⟩) <|
  mc_1 (mk_p (ms_aload_n (k := 0) (by decide +kernel) rfl) rfl) <|
  mc_1 (mk_p (ms_iload_n (k := 2) (by decide +kernel) rfl) rfl) <|
  mc_1 (mk_p (ms_iconst (n := 1) (by decide +kernel) (by decide +kernel)) rfl) <|
  mc_1 (mk_c (k := mq_17) rfl ⟨mo_17, 134, 1138, none, ml_m_LeagueOffice_Chances_134, Or.inr (Or.inr (Or.inl ⟨1, TX1, 10, by decide, rfl, rfl, (by decide +kernel), ⟨2, rfl, mx_npd (by decide +kernel)⟩, ml_in_1140, ml_se_22⟩))⟩) <|
  mc_1 (mk_p (ms_iinc (n := (-1)) (by decide +kernel) (by decide +kernel) (by decide)) rfl) <|
  mc_1 (mk_p (ms_goto (off := (-67)) (by decide +kernel) (by decide)) rfl) <| mc_0
theorem mw_16_5 : ∀ e ∈ mt_16_5, mx_Ok mx_MT mq_16 e.1 e.2 := 
  mc_1 (mk_r (Or.inr (Or.inr (Or.inr ⟨rfl, by decide +kernel, rfl⟩))) rfl) <| mc_0
theorem mw_16 : ∀ ch ∈ mt_16, ∀ e ∈ ch, mx_Ok mx_MT mq_16 e.1 e.2 := mc_2 mw_16_0 <| mc_2 mw_16_1 <| mc_2 mw_16_2 <| mc_2 mw_16_3 <| mc_2 mw_16_4 <| mc_2 mw_16_5 <| mc_3
/- 17 LeagueOffice$Chances.enter(II)V -/
theorem mw_17_0 : ∀ e ∈ mt_17_0, mx_Ok mx_MT mq_17 e.1 e.2 := 
  mc_1 (mk_p (ms_aload_n (k := 0) (by decide +kernel) rfl) rfl) <|
  mc_1 (mk_p (ms_get (idx := 36) (w := 420) (host := none) mx_c1 (by decide) ml_f_LeagueOffice_Chances_36 (by decide +kernel)) rfl) <|
  mc_1 (mk_p (ms_get (idx := 67) (w := 150) (host := (some "LeagueOffice")) mx_c0 (by decide) ml_f_LeagueOffice_Chances_67 (by decide +kernel)) rfl) <|
  mc_1 (mk_p (ms_aload_n (k := 0) (by decide +kernel) rfl) rfl) <|
  mc_1 (mk_p (ms_get (idx := 14) (w := 423) (host := none) mx_c1 (by decide) ml_f_LeagueOffice_Chances_14 (by decide +kernel)) rfl) <|
  mc_1 (mk_p (ms_iload_n (k := 1) (by decide +kernel) rfl) rfl) <|
  mc_1 (mk_c (k := mq_68) rfl ⟨mo_68, 70, 1113, none, ml_m_LeagueOffice_Chances_70, Or.inr (Or.inr (Or.inl ⟨6, TX6, 2, by decide, rfl, rfl, (by decide +kernel), ⟨1, rfl, mx_npd (by decide +kernel)⟩, ml_in_591, ml_se_592⟩))⟩) <|
  mc_1 (mk_c (k := mq_68) rfl ⟨mo_68, 70, 1113, none, ml_m_LeagueOffice_Chances_70, Or.inr (Or.inr (Or.inl ⟨6, TX6, 2, by decide, rfl, rfl, (by decide +kernel), ⟨1, rfl, mx_npd (by decide +kernel)⟩, ml_in_591, ml_se_592⟩))⟩) <| mc_0
theorem mw_17_1 : ∀ e ∈ mt_17_1, mx_Ok mx_MT mq_17 e.1 e.2 := 
  mc_1 (mk_p (ms_istore_n (k := 3) (by decide +kernel) rfl (by decide)) rfl) <|
  mc_1 (mk_p (ms_aload_n (k := 0) (by decide +kernel) rfl) rfl) <|
  mc_1 (mk_p (ms_get (idx := 36) (w := 420) (host := none) mx_c1 (by decide) ml_f_LeagueOffice_Chances_36 (by decide +kernel)) rfl) <|
  mc_1 (mk_p (ms_get (idx := 78) (w := 157) (host := (some "LeagueOffice")) mx_c0 (by decide) ml_f_LeagueOffice_Chances_78 (by decide +kernel)) rfl) <|
  mc_1 (mk_p (ms_aload_n (k := 0) (by decide +kernel) rfl) rfl) <|
  mc_1 (mk_p (ms_get (idx := 14) (w := 423) (host := none) mx_c1 (by decide) ml_f_LeagueOffice_Chances_14 (by decide +kernel)) rfl) <|
  mc_1 (mk_p (ms_iload_n (k := 1) (by decide +kernel) rfl) rfl) <|
  mc_1 (mk_c (k := mq_68) rfl ⟨mo_68, 70, 1113, none, ml_m_LeagueOffice_Chances_70, Or.inr (Or.inr (Or.inl ⟨6, TX6, 2, by decide, rfl, rfl, (by decide +kernel), ⟨1, rfl, mx_npd (by decide +kernel)⟩, ml_in_591, ml_se_592⟩))⟩) <| mc_0
theorem mw_17_2 : ∀ e ∈ mt_17_2, mx_Ok mx_MT mq_17 e.1 e.2 := 
  mc_1 (mk_c (k := mq_68) rfl ⟨mo_68, 70, 1113, none, ml_m_LeagueOffice_Chances_70, Or.inr (Or.inr (Or.inl ⟨6, TX6, 2, by decide, rfl, rfl, (by decide +kernel), ⟨1, rfl, mx_npd (by decide +kernel)⟩, ml_in_591, ml_se_592⟩))⟩) <|
  mc_1 (mk_p (ms_istore (by decide +kernel) (by decide)) rfl) <|
  mc_1 (mk_p (ms_aload_n (k := 0) (by decide +kernel) rfl) rfl) <|
  mc_1 (mk_p (ms_get (idx := 26) (w := 426) (host := none) mx_c1 (by decide) ml_f_LeagueOffice_Chances_26 (by decide +kernel)) rfl) <|
  mc_1 (mk_p (ms_iload_n (k := 1) (by decide +kernel) rfl) rfl) <|
  mc_1 (mk_c (k := mq_68) rfl ⟨mo_68, 70, 1113, none, ml_m_LeagueOffice_Chances_70, Or.inr (Or.inr (Or.inl ⟨6, TX6, 2, by decide, rfl, rfl, (by decide +kernel), ⟨1, rfl, mx_npd (by decide +kernel)⟩, ml_in_591, ml_se_592⟩))⟩) <|
  mc_1 (mk_p (ms_if_ne (off := (15)) (by decide +kernel) (by decide)) rfl) <| mc_0
theorem mw_17_3 : ∀ e ∈ mt_17_3, mx_Ok mx_MT mq_17 e.1 e.2 := 
  mc_1 (mk_p (ms_aload_n (k := 0) (by decide +kernel) rfl) rfl) <|
  mc_1 (mk_p (ms_iload_n (k := 1) (by decide +kernel) rfl) rfl) <|
  mc_1 (mk_p (ms_iload_n (k := 3) (by decide +kernel) rfl) rfl) <|
  mc_1 (mk_p (ms_iload (by decide +kernel)) rfl) <|
  mc_1 (mk_p (ms_iload_n (k := 2) (by decide +kernel) rfl) rfl) <|
  mc_1 (mk_c (k := mq_18) rfl ⟨mo_18, 137, 1142, none, ml_m_LeagueOffice_Chances_137, Or.inr (Or.inr (Or.inl ⟨1, TX1, 10, by decide, rfl, rfl, (by decide +kernel), ⟨4, rfl, mx_npd (by decide +kernel)⟩, ml_in_1144, ml_se_23⟩))⟩) <|
  mc_1 (mk_p (ms_goto (off := (36)) (by decide +kernel) (by decide)) rfl) <|
  mc_1 (mk_p (ms_aload_n (k := 0) (by decide +kernel) rfl) rfl) <|
  mc_1 (mk_p (ms_get (idx := 26) (w := 426) (host := none) mx_c1 (by decide) ml_f_LeagueOffice_Chances_26 (by decide +kernel)) rfl) <| mc_0
theorem mw_17_4 : ∀ e ∈ mt_17_4, mx_Ok mx_MT mq_17 e.1 e.2 := 
  mc_1 (mk_p (ms_iload_n (k := 1) (by decide +kernel) rfl) rfl) <|
  mc_1 (mk_c (k := mq_68) rfl ⟨mo_68, 70, 1113, none, ml_m_LeagueOffice_Chances_70, Or.inr (Or.inr (Or.inl ⟨6, TX6, 2, by decide, rfl, rfl, (by decide +kernel), ⟨1, rfl, mx_npd (by decide +kernel)⟩, ml_in_591, ml_se_592⟩))⟩) <|
  mc_1 (mk_p (ms_iconst (n := 1) (by decide +kernel) (by decide +kernel)) rfl) <|
  mc_1 (mk_p (ms_icmp_ne (off := (15)) (by decide +kernel) (by decide)) rfl) <|
  mc_1 (mk_p (ms_aload_n (k := 0) (by decide +kernel) rfl) rfl) <|
  mc_1 (mk_p (ms_iload_n (k := 1) (by decide +kernel) rfl) rfl) <|
  mc_1 (mk_p (ms_iload_n (k := 3) (by decide +kernel) rfl) rfl) <|
  mc_1 (mk_p (ms_iload (by decide +kernel)) rfl) <|
  mc_1 (mk_p (ms_iload_n (k := 2) (by decide +kernel) rfl) rfl) <| mc_0
theorem mw_17_5 : ∀ e ∈ mt_17_5, mx_Ok mx_MT mq_17 e.1 e.2 := 
  mc_1 (mk_c (k := mq_19) rfl ⟨mo_19, 141, 1148, none, ml_m_LeagueOffice_Chances_141, Or.inr (Or.inr (Or.inl ⟨1, TX1, 10, by decide, rfl, rfl, (by decide +kernel), ⟨4, rfl, mx_npd (by decide +kernel)⟩, ml_in_1150, ml_se_24⟩))⟩) <|
  mc_1 (mk_p (ms_goto (off := (12)) (by decide +kernel) (by decide)) rfl) <|
  mc_1 (mk_p (ms_aload_n (k := 0) (by decide +kernel) rfl) rfl) <|
  mc_1 (mk_p (ms_iload_n (k := 1) (by decide +kernel) rfl) rfl) <|
  mc_1 (mk_p (ms_iload (by decide +kernel)) rfl) <|
  mc_1 (mk_p (ms_iload_n (k := 3) (by decide +kernel) rfl) rfl) <|
  mc_1 (mk_p (ms_iload_n (k := 2) (by decide +kernel) rfl) rfl) <|
  mc_1 (mk_c (k := mq_18) rfl ⟨mo_18, 137, 1142, none, ml_m_LeagueOffice_Chances_137, Or.inr (Or.inr (Or.inl ⟨1, TX1, 10, by decide, rfl, rfl, (by decide +kernel), ⟨4, rfl, mx_npd (by decide +kernel)⟩, ml_in_1144, ml_se_23⟩))⟩) <|
  mc_1 (mk_r (Or.inr (Or.inr (Or.inr ⟨rfl, by decide +kernel, rfl⟩))) rfl) <| mc_0
theorem mw_17 : ∀ ch ∈ mt_17, ∀ e ∈ ch, mx_Ok mx_MT mq_17 e.1 e.2 := mc_2 mw_17_0 <| mc_2 mw_17_1 <| mc_2 mw_17_2 <| mc_2 mw_17_3 <| mc_2 mw_17_4 <| mc_2 mw_17_5 <| mc_3
/- 18 LeagueOffice$Chances.enterWin(IIII)V -/
theorem mw_18_0 : ∀ e ∈ mt_18_0, mx_Ok mx_MT mq_18 e.1 e.2 := 
  mc_1 (mk_p (ms_aload_n (k := 0) (by decide +kernel) rfl) rfl) <|
  mc_1 (mk_p (ms_get (idx := 44) (w := 422) (host := none) mx_c1 (by decide) ml_f_LeagueOffice_Chances_44 (by decide +kernel)) rfl) <|
  mc_1 (mk_p (ms_iload_n (k := 2) (by decide +kernel) rfl) rfl) <|
  mc_1 (mk_p (ms_iload (by decide +kernel)) rfl) <|
  mc_1 (mk_p (ms_i2l (by decide +kernel)) rfl) <|
  mc_1 (mk_p (ms_aload_n (k := 0) (by decide +kernel) rfl) rfl) <|
  mc_1 (mk_p (ms_get (idx := 20) (w := 424) (host := none) mx_c1 (by decide) ml_f_LeagueOffice_Chances_20 (by decide +kernel)) rfl) <|
  mc_1 (mk_p (ms_iload_n (k := 1) (by decide +kernel) rfl) rfl) <|
  mc_1 (mk_c (k := mq_68) rfl ⟨mo_68, 70, 1113, none, ml_m_LeagueOffice_Chances_70, Or.inr (Or.inr (Or.inl ⟨6, TX6, 2, by decide, rfl, rfl, (by decide +kernel), ⟨1, rfl, mx_npd (by decide +kernel)⟩, ml_in_591, ml_se_592⟩))⟩) <| mc_0
theorem mw_18_1 : ∀ e ∈ mt_18_1, mx_Ok mx_MT mq_18 e.1 e.2 := 
  mc_1 (mk_p (ms_i2l (by decide +kernel)) rfl) <|
  mc_1 (mk_p (ms_lmul (by decide +kernel)) rfl) <|
  mc_1 (mk_c (k := mq_100) rfl ⟨mo_100, 144, 1146, none, ml_m_LeagueOffice_Chances_144, Or.inr (Or.inr (Or.inl ⟨9, TX9, 12, by decide, rfl, rfl, (by decide +kernel), ⟨2, rfl, mx_npd (by decide +kernel)⟩, ml_in_913, ml_se_914⟩))⟩) <|
  mc_1 (mk_p (ms_aload_n (k := 0) (by decide +kernel) rfl) rfl) <|
  mc_1 (mk_p (ms_get (idx := 44) (w := 422) (host := none) mx_c1 (by decide) ml_f_LeagueOffice_Chances_44 (by decide +kernel)) rfl) <|
  mc_1 (mk_p (ms_iload_n (k := 2) (by decide +kernel) rfl) rfl) <|
  mc_1 (mk_p (ms_iload (by decide +kernel)) rfl) <|
  mc_1 (mk_p (ms_iload (by decide +kernel)) rfl) <|
  mc_1 (mk_p (ms_iload (by decide +kernel)) rfl) <| mc_0
theorem mw_18_2 : ∀ e ∈ mt_18_2, mx_Ok mx_MT mq_18 e.1 e.2 := 
  mc_1 (mk_c (k := mq_101) rfl ⟨mo_101, 148, 1147, none, ml_m_LeagueOffice_Chances_148, Or.inr (Or.inr (Or.inl ⟨9, TX9, 12, by decide, rfl, rfl, (by decide +kernel), ⟨4, rfl, mx_npd (by decide +kernel)⟩, ml_in_877, ml_se_878⟩))⟩) <|
  mc_1 (mk_p (ms_aload_n (k := 0) (by decide +kernel) rfl) rfl) <|
  mc_1 (mk_p (ms_get (idx := 44) (w := 422) (host := none) mx_c1 (by decide) ml_f_LeagueOffice_Chances_44 (by decide +kernel)) rfl) <|
  mc_1 (mk_p (ms_iload_n (k := 3) (by decide +kernel) rfl) rfl) <|
  mc_1 (mk_p (ms_iload (by decide +kernel)) rfl) <|
  mc_1 (mk_p (ms_ineg (by decide +kernel)) rfl) <|
  mc_1 (mk_p (ms_iconst (n := 0) (by decide +kernel) (by decide +kernel)) rfl) <|
  mc_1 (mk_p (ms_iconst (n := 0) (by decide +kernel) (by decide +kernel)) rfl) <|
  mc_1 (mk_c (k := mq_101) rfl ⟨mo_101, 148, 1147, none, ml_m_LeagueOffice_Chances_148, Or.inr (Or.inr (Or.inl ⟨9, TX9, 12, by decide, rfl, rfl, (by decide +kernel), ⟨4, rfl, mx_npd (by decide +kernel)⟩, ml_in_877, ml_se_878⟩))⟩) <| mc_0
theorem mw_18_3 : ∀ e ∈ mt_18_3, mx_Ok mx_MT mq_18 e.1 e.2 := 
  mc_1 (mk_r (Or.inr (Or.inr (Or.inr ⟨rfl, by decide +kernel, rfl⟩))) rfl) <| mc_0
theorem mw_18 : ∀ ch ∈ mt_18, ∀ e ∈ ch, mx_Ok mx_MT mq_18 e.1 e.2 := mc_2 mw_18_0 <| mc_2 mw_18_1 <| mc_2 mw_18_2 <| mc_2 mw_18_3 <| mc_3
/- 19 LeagueOffice$Chances.enterDraw(IIII)V -/
theorem mw_19_0 : ∀ e ∈ mt_19_0, mx_Ok mx_MT mq_19 e.1 e.2 := 
  mc_1 (mk_p (ms_aload_n (k := 0) (by decide +kernel) rfl) rfl) <|
  mc_1 (mk_p (ms_get (idx := 44) (w := 422) (host := none) mx_c1 (by decide) ml_f_LeagueOffice_Chances_44 (by decide +kernel)) rfl) <|
  mc_1 (mk_p (ms_iload_n (k := 2) (by decide +kernel) rfl) rfl) <|
  mc_1 (mk_p (ms_iload (by decide +kernel)) rfl) <|
  mc_1 (mk_p (ms_i2l (by decide +kernel)) rfl) <|
  mc_1 (mk_p (ms_aload_n (k := 0) (by decide +kernel) rfl) rfl) <|
  mc_1 (mk_p (ms_get (idx := 23) (w := 425) (host := none) mx_c1 (by decide) ml_f_LeagueOffice_Chances_23 (by decide +kernel)) rfl) <|
  mc_1 (mk_p (ms_iload_n (k := 1) (by decide +kernel) rfl) rfl) <|
  mc_1 (mk_c (k := mq_68) rfl ⟨mo_68, 70, 1113, none, ml_m_LeagueOffice_Chances_70, Or.inr (Or.inr (Or.inl ⟨6, TX6, 2, by decide, rfl, rfl, (by decide +kernel), ⟨1, rfl, mx_npd (by decide +kernel)⟩, ml_in_591, ml_se_592⟩))⟩) <| mc_0
theorem mw_19_1 : ∀ e ∈ mt_19_1, mx_Ok mx_MT mq_19 e.1 e.2 := 
  mc_1 (mk_p (ms_i2l (by decide +kernel)) rfl) <|
  mc_1 (mk_p (ms_lmul (by decide +kernel)) rfl) <|
  mc_1 (mk_c (k := mq_100) rfl ⟨mo_100, 144, 1146, none, ml_m_LeagueOffice_Chances_144, Or.inr (Or.inr (Or.inl ⟨9, TX9, 12, by decide, rfl, rfl, (by decide +kernel), ⟨2, rfl, mx_npd (by decide +kernel)⟩, ml_in_913, ml_se_914⟩))⟩) <|
  mc_1 (mk_p (ms_aload_n (k := 0) (by decide +kernel) rfl) rfl) <|
  mc_1 (mk_p (ms_get (idx := 44) (w := 422) (host := none) mx_c1 (by decide) ml_f_LeagueOffice_Chances_44 (by decide +kernel)) rfl) <|
  mc_1 (mk_p (ms_iload_n (k := 3) (by decide +kernel) rfl) rfl) <|
  mc_1 (mk_p (ms_iload (by decide +kernel)) rfl) <|
  mc_1 (mk_p (ms_i2l (by decide +kernel)) rfl) <|
  mc_1 (mk_p (ms_aload_n (k := 0) (by decide +kernel) rfl) rfl) <|
  mc_1 (mk_p (ms_get (idx := 23) (w := 425) (host := none) mx_c1 (by decide) ml_f_LeagueOffice_Chances_23 (by decide +kernel)) rfl) <| mc_0
theorem mw_19_2 : ∀ e ∈ mt_19_2, mx_Ok mx_MT mq_19 e.1 e.2 := 
  mc_1 (mk_p (ms_iload_n (k := 1) (by decide +kernel) rfl) rfl) <|
  mc_1 (mk_c (k := mq_68) rfl ⟨mo_68, 70, 1113, none, ml_m_LeagueOffice_Chances_70, Or.inr (Or.inr (Or.inl ⟨6, TX6, 2, by decide, rfl, rfl, (by decide +kernel), ⟨1, rfl, mx_npd (by decide +kernel)⟩, ml_in_591, ml_se_592⟩))⟩) <|
  mc_1 (mk_p (ms_i2l (by decide +kernel)) rfl) <|
  mc_1 (mk_p (ms_lmul (by decide +kernel)) rfl) <|
  mc_1 (mk_c (k := mq_100) rfl ⟨mo_100, 144, 1146, none, ml_m_LeagueOffice_Chances_144, Or.inr (Or.inr (Or.inl ⟨9, TX9, 12, by decide, rfl, rfl, (by decide +kernel), ⟨2, rfl, mx_npd (by decide +kernel)⟩, ml_in_913, ml_se_914⟩))⟩) <|
  mc_1 (mk_r (Or.inr (Or.inr (Or.inr ⟨rfl, by decide +kernel, rfl⟩))) rfl) <| mc_0
theorem mw_19 : ∀ ch ∈ mt_19, ∀ e ∈ ch, mx_Ok mx_MT mq_19 e.1 e.2 := mc_2 mw_19_0 <| mc_2 mw_19_1 <| mc_2 mw_19_2 <| mc_3
/- 20 LeagueOffice$Chances.bestPlace()I -/
theorem mw_20_0 : ∀ e ∈ mt_20_0, mx_Ok mx_MT mq_20 e.1 e.2 := 
  mc_1 (mk_p (ms_bipush (n := 12) (by decide +kernel) (by decide +kernel)) rfl) <|
  mc_1 (mk_p (ms_istore_n (k := 1) (by decide +kernel) rfl (by decide)) rfl) <|
  mc_1 (mk_p (ms_iconst (n := 0) (by decide +kernel) (by decide +kernel)) rfl) <|
  mc_1 (mk_p (ms_istore_n (k := 2) (by decide +kernel) rfl (by decide)) rfl) <|
  mc_1 (mk_p (ms_iload_n (k := 2) (by decide +kernel) rfl) rfl) <|
  mc_1 (mk_p (ms_aload_n (k := 0) (by decide +kernel) rfl) rfl) <|
  mc_1 (mk_p (ms_get (idx := 109) (w := 429) (host := none) mx_c1 (by decide) ml_f_LeagueOffice_Chances_109 (by decide +kernel)) rfl) <|
  mc_1 (mk_p (ms_icmp_ge (off := (22)) (by decide +kernel) (by decide)) rfl) <|
  mc_1 (mk_p (ms_iload_n (k := 1) (by decide +kernel) rfl) rfl) <|
  mc_1 (mk_p (ms_aload_n (k := 0) (by decide +kernel) rfl) rfl) <|
  mc_1 (mk_p (ms_get (idx := 29) (w := 427) (host := none) mx_c1 (by decide) ml_f_LeagueOffice_Chances_29 (by decide +kernel)) rfl) <| mc_0
theorem mw_20_1 : ∀ e ∈ mt_20_1, mx_Ok mx_MT mq_20 e.1 e.2 := 
  mc_1 (mk_p (ms_iload_n (k := 2) (by decide +kernel) rfl) rfl) <|
  mc_1 (mk_c (k := mq_68) rfl ⟨mo_68, 70, 1113, none, ml_m_LeagueOffice_Chances_70, Or.inr (Or.inr (Or.inl ⟨6, TX6, 2, by decide, rfl, rfl, (by decide +kernel), ⟨1, rfl, mx_npd (by decide +kernel)⟩, ml_in_591, ml_se_592⟩))⟩) <|
  mc_1 (mk_p (ms_min (idx := 151) 1161 995 80 996 (by decide +kernel) (by decide +kernel) (by decide +kernel) (by decide +kernel) (by decide +kernel)) rfl) <|
  mc_1 (mk_p (ms_istore_n (k := 1) (by decide +kernel) rfl (by decide)) rfl) <|
  mc_1 (mk_p (ms_iinc (n := (1)) (by decide +kernel) (by decide +kernel) (by decide)) rfl) <|
  mc_1 (mk_p (ms_goto (off := (-24)) (by decide +kernel) (by decide)) rfl) <| mc_0
theorem mw_20_2 : ∀ e ∈ mt_20_2, mx_Ok mx_MT mq_20 e.1 e.2 := 
  mc_1 (mk_p (ms_iload_n (k := 1) (by decide +kernel) rfl) rfl) <|
  mc_1 (mk_r (Or.inl ⟨rfl, by decide +kernel, _, rfl, mf_0⟩) rfl) <| mc_0
theorem mw_20 : ∀ ch ∈ mt_20, ∀ e ∈ ch, mx_Ok mx_MT mq_20 e.1 e.2 := mc_2 mw_20_0 <| mc_2 mw_20_1 <| mc_2 mw_20_2 <| mc_3
/- 21 LeagueOffice$Chances.worstPlace()I -/
theorem mw_21_0 : ∀ e ∈ mt_21_0, mx_Ok mx_MT mq_21 e.1 e.2 := 
  mc_1 (mk_p (ms_iconst (n := 0) (by decide +kernel) (by decide +kernel)) rfl) <|
  mc_1 (mk_p (ms_istore_n (k := 1) (by decide +kernel) rfl (by decide)) rfl) <|
  mc_1 (mk_p (ms_iconst (n := 0) (by decide +kernel) (by decide +kernel)) rfl) <|
  mc_1 (mk_p (ms_istore_n (k := 2) (by decide +kernel) rfl (by decide)) rfl) <|
  mc_1 (mk_p (ms_iload_n (k := 2) (by decide +kernel) rfl) rfl) <|
  mc_1 (mk_p (ms_aload_n (k := 0) (by decide +kernel) rfl) rfl) <|
  mc_1 (mk_p (ms_get (idx := 109) (w := 429) (host := none) mx_c1 (by decide) ml_f_LeagueOffice_Chances_109 (by decide +kernel)) rfl) <|
  mc_1 (mk_p (ms_icmp_ge (off := (22)) (by decide +kernel) (by decide)) rfl) <|
  mc_1 (mk_p (ms_iload_n (k := 1) (by decide +kernel) rfl) rfl) <|
  mc_1 (mk_p (ms_aload_n (k := 0) (by decide +kernel) rfl) rfl) <|
  mc_1 (mk_p (ms_get (idx := 29) (w := 427) (host := none) mx_c1 (by decide) ml_f_LeagueOffice_Chances_29 (by decide +kernel)) rfl) <| mc_0
theorem mw_21_1 : ∀ e ∈ mt_21_1, mx_Ok mx_MT mq_21 e.1 e.2 := 
  mc_1 (mk_p (ms_iload_n (k := 2) (by decide +kernel) rfl) rfl) <|
  mc_1 (mk_c (k := mq_68) rfl ⟨mo_68, 70, 1113, none, ml_m_LeagueOffice_Chances_70, Or.inr (Or.inr (Or.inl ⟨6, TX6, 2, by decide, rfl, rfl, (by decide +kernel), ⟨1, rfl, mx_npd (by decide +kernel)⟩, ml_in_591, ml_se_592⟩))⟩) <|
  mc_1 (mk_p (ms_max (idx := 157) 1166 118 80 119 (by decide +kernel) (by decide +kernel) (by decide +kernel) (by decide +kernel) (by decide +kernel)) rfl) <|
  mc_1 (mk_p (ms_istore_n (k := 1) (by decide +kernel) rfl (by decide)) rfl) <|
  mc_1 (mk_p (ms_iinc (n := (1)) (by decide +kernel) (by decide +kernel) (by decide)) rfl) <|
  mc_1 (mk_p (ms_goto (off := (-24)) (by decide +kernel) (by decide)) rfl) <|
  mc_1 (mk_p (ms_iload_n (k := 1) (by decide +kernel) rfl) rfl) <| mc_0
theorem mw_21_2 : ∀ e ∈ mt_21_2, mx_Ok mx_MT mq_21 e.1 e.2 := 
  mc_1 (mk_r (Or.inl ⟨rfl, by decide +kernel, _, rfl, mf_0⟩) rfl) <| mc_0
theorem mw_21 : ∀ ch ∈ mt_21, ∀ e ∈ ch, mx_Ok mx_MT mq_21 e.1 e.2 := mc_2 mw_21_0 <| mc_2 mw_21_1 <| mc_2 mw_21_2 <| mc_3
/- 22 LeagueOffice$Chances.leastFor(I)I -/
theorem mw_22_0 : ∀ e ∈ mt_22_0, mx_Ok mx_MT mq_22 e.1 e.2 := 
  mc_1 (mk_p (ms_iconst (n := (-1)) (by decide +kernel) (by decide +kernel)) rfl) <|
  mc_1 (mk_p (ms_istore_n (k := 2) (by decide +kernel) rfl (by decide)) rfl) <|
  mc_1 (mk_p (ms_iconst (n := 0) (by decide +kernel) (by decide +kernel)) rfl) <|
  mc_1 (mk_p (ms_istore_n (k := 3) (by decide +kernel) rfl (by decide)) rfl) <|
  mc_1 (mk_p (ms_iload_n (k := 3) (by decide +kernel) rfl) rfl) <|
  mc_1 (mk_p (ms_aload_n (k := 0) (by decide +kernel) rfl) rfl) <|
  mc_1 (mk_p (ms_get (idx := 109) (w := 429) (host := none) mx_c1 (by decide) ml_f_LeagueOffice_Chances_109 (by decide +kernel)) rfl) <|
  mc_1 (mk_p (ms_icmp_ge (off := (41)) (by decide +kernel) (by decide)) rfl) <|
  mc_1 (mk_p (ms_aload_n (k := 0) (by decide +kernel) rfl) rfl) <|
  mc_1 (mk_p (ms_get (idx := 29) (w := 427) (host := none) mx_c1 (by decide) ml_f_LeagueOffice_Chances_29 (by decide +kernel)) rfl) <| mc_0
theorem mw_22_1 : ∀ e ∈ mt_22_1, mx_Ok mx_MT mq_22 e.1 e.2 := 
  mc_1 (mk_p (ms_iload_n (k := 3) (by decide +kernel) rfl) rfl) <|
  mc_1 (mk_c (k := mq_68) rfl ⟨mo_68, 70, 1113, none, ml_m_LeagueOffice_Chances_70, Or.inr (Or.inr (Or.inl ⟨6, TX6, 2, by decide, rfl, rfl, (by decide +kernel), ⟨1, rfl, mx_npd (by decide +kernel)⟩, ml_in_591, ml_se_592⟩))⟩) <|
  mc_1 (mk_p (ms_iload_n (k := 1) (by decide +kernel) rfl) rfl) <|
  mc_1 (mk_p (ms_icmp_le (off := (23)) (by decide +kernel) (by decide)) rfl) <|
  mc_1 (mk_p (ms_iload_n (k := 2) (by decide +kernel) rfl) rfl) <|
  mc_1 (mk_p (ms_if_lt (off := (17)) (by decide +kernel) (by decide)) rfl) <|
  mc_1 (mk_p (ms_aload_n (k := 0) (by decide +kernel) rfl) rfl) <|
  mc_1 (mk_p (ms_iload_n (k := 3) (by decide +kernel) rfl) rfl) <|
  mc_1 (mk_c (k := mq_23) rfl ⟨mo_23, 160, 1179, none, ml_m_LeagueOffice_Chances_160, Or.inr (Or.inr (Or.inl ⟨1, TX1, 10, by decide, rfl, rfl, (by decide +kernel), ⟨1, rfl, mx_npd (by decide +kernel)⟩, ml_in_1181, ml_se_26⟩))⟩) <| mc_0
theorem mw_22_2 : ∀ e ∈ mt_22_2, mx_Ok mx_MT mq_22 e.1 e.2 := 
  mc_1 (mk_p (ms_aload_n (k := 0) (by decide +kernel) rfl) rfl) <|
  mc_1 (mk_p (ms_iload_n (k := 2) (by decide +kernel) rfl) rfl) <|
  mc_1 (mk_c (k := mq_23) rfl ⟨mo_23, 160, 1179, none, ml_m_LeagueOffice_Chances_160, Or.inr (Or.inr (Or.inl ⟨1, TX1, 10, by decide, rfl, rfl, (by decide +kernel), ⟨1, rfl, mx_npd (by decide +kernel)⟩, ml_in_1181, ml_se_26⟩))⟩) <|
  mc_1 (mk_p (ms_lcmp (by decide +kernel)) rfl) <|
  mc_1 (mk_p (ms_if_le (off := (5)) (by decide +kernel) (by decide)) rfl) <|
  mc_1 (mk_p (ms_iload_n (k := 3) (by decide +kernel) rfl) rfl) <|
  mc_1 (mk_p (ms_istore_n (k := 2) (by decide +kernel) rfl (by decide)) rfl) <|
  mc_1 (mk_p (ms_iinc (n := (1)) (by decide +kernel) (by decide +kernel) (by decide)) rfl) <|
  mc_1 (mk_p (ms_goto (off := (-43)) (by decide +kernel) (by decide)) rfl) <| mc_0
theorem mw_22_3 : ∀ e ∈ mt_22_3, mx_Ok mx_MT mq_22 e.1 e.2 := 
  mc_1 (mk_p (ms_iconst (n := (-1)) (by decide +kernel) (by decide +kernel)) rfl) <|
  mc_1 (mk_p (ms_istore_n (k := 3) (by decide +kernel) rfl (by decide)) rfl) <|
  mc_1 (mk_p (ms_iconst (n := 0) (by decide +kernel) (by decide +kernel)) rfl) <|
  mc_1 (mk_p (ms_istore (by decide +kernel) (by decide)) rfl) <|
  mc_1 (mk_p (ms_iload (by decide +kernel)) rfl) <|
  mc_1 (mk_p (ms_aload_n (k := 0) (by decide +kernel) rfl) rfl) <|
  mc_1 (mk_p (ms_get (idx := 109) (w := 429) (host := none) mx_c1 (by decide) ml_f_LeagueOffice_Chances_109 (by decide +kernel)) rfl) <|
  mc_1 (mk_p (ms_icmp_ge (off := (62)) (by decide +kernel) (by decide)) rfl) <| mc_0
theorem mw_22_4 : ∀ e ∈ mt_22_4, mx_Ok mx_MT mq_22 e.1 e.2 := 
  mc_1 (mk_p (ms_iload_n (k := 2) (by decide +kernel) rfl) rfl) <|
  mc_1 (mk_p (ms_if_lt (off := (18)) (by decide +kernel) (by decide)) rfl) <|
  mc_1 (mk_p (ms_aload_n (k := 0) (by decide +kernel) rfl) rfl) <|
  mc_1 (mk_p (ms_iload (by decide +kernel)) rfl) <|
  mc_1 (mk_c (k := mq_23) rfl ⟨mo_23, 160, 1179, none, ml_m_LeagueOffice_Chances_160, Or.inr (Or.inr (Or.inl ⟨1, TX1, 10, by decide, rfl, rfl, (by decide +kernel), ⟨1, rfl, mx_npd (by decide +kernel)⟩, ml_in_1181, ml_se_26⟩))⟩) <|
  mc_1 (mk_p (ms_aload_n (k := 0) (by decide +kernel) rfl) rfl) <|
  mc_1 (mk_p (ms_iload_n (k := 2) (by decide +kernel) rfl) rfl) <|
  mc_1 (mk_c (k := mq_23) rfl ⟨mo_23, 160, 1179, none, ml_m_LeagueOffice_Chances_160, Or.inr (Or.inr (Or.inl ⟨1, TX1, 10, by decide, rfl, rfl, (by decide +kernel), ⟨1, rfl, mx_npd (by decide +kernel)⟩, ml_in_1181, ml_se_26⟩))⟩) <|
  mc_1 (mk_p (ms_lcmp (by decide +kernel)) rfl) <| mc_0
theorem mw_22_5 : ∀ e ∈ mt_22_5, mx_Ok mx_MT mq_22 e.1 e.2 := 
  mc_1 (mk_p (ms_if_le (off := (7)) (by decide +kernel) (by decide)) rfl) <|
  mc_1 (mk_p (ms_iconst (n := 1) (by decide +kernel) (by decide +kernel)) rfl) <|
  mc_1 (mk_p (ms_goto (off := (4)) (by decide +kernel) (by decide)) rfl) <|
  mc_1 (mk_p (ms_iconst (n := 0) (by decide +kernel) (by decide +kernel)) rfl) <|
  mc_1 (mk_p (ms_istore (by decide +kernel) (by decide)) rfl) <|
  mc_1 (mk_p (ms_iload (by decide +kernel)) rfl) <|
  mc_1 (mk_p (ms_if_eq (off := (25)) (by decide +kernel) (by decide)) rfl) <|
  mc_1 (mk_p (ms_iload_n (k := 3) (by decide +kernel) rfl) rfl) <| mc_0
theorem mw_22_6 : ∀ e ∈ mt_22_6, mx_Ok mx_MT mq_22 e.1 e.2 := 
  mc_1 (mk_p (ms_if_lt (off := (18)) (by decide +kernel) (by decide)) rfl) <|
  mc_1 (mk_p (ms_aload_n (k := 0) (by decide +kernel) rfl) rfl) <|
  mc_1 (mk_p (ms_iload (by decide +kernel)) rfl) <|
  mc_1 (mk_c (k := mq_23) rfl ⟨mo_23, 160, 1179, none, ml_m_LeagueOffice_Chances_160, Or.inr (Or.inr (Or.inl ⟨1, TX1, 10, by decide, rfl, rfl, (by decide +kernel), ⟨1, rfl, mx_npd (by decide +kernel)⟩, ml_in_1181, ml_se_26⟩))⟩) <|
  mc_1 (mk_p (ms_aload_n (k := 0) (by decide +kernel) rfl) rfl) <|
  mc_1 (mk_p (ms_iload_n (k := 3) (by decide +kernel) rfl) rfl) <|
  mc_1 (mk_c (k := mq_23) rfl ⟨mo_23, 160, 1179, none, ml_m_LeagueOffice_Chances_160, Or.inr (Or.inr (Or.inl ⟨1, TX1, 10, by decide, rfl, rfl, (by decide +kernel), ⟨1, rfl, mx_npd (by decide +kernel)⟩, ml_in_1181, ml_se_26⟩))⟩) <|
  mc_1 (mk_p (ms_lcmp (by decide +kernel)) rfl) <|
  mc_1 (mk_p (ms_if_ge (off := (6)) (by decide +kernel) (by decide)) rfl) <| mc_0
theorem mw_22_7 : ∀ e ∈ mt_22_7, mx_Ok mx_MT mq_22 e.1 e.2 := 
  mc_1 (mk_p (ms_iload (by decide +kernel)) rfl) <|
  mc_1 (mk_p (ms_istore_n (k := 3) (by decide +kernel) rfl (by decide)) rfl) <|
  mc_1 (mk_p (ms_iinc (n := (1)) (by decide +kernel) (by decide +kernel) (by decide)) rfl) <|
  mc_1 (mk_p (ms_goto (off := (-65)) (by decide +kernel) (by decide)) rfl) <|
  mc_1 (mk_p (ms_iload_n (k := 3) (by decide +kernel) rfl) rfl) <|
  mc_1 (mk_p (ms_if_ge (off := (7)) (by decide +kernel) (by decide)) rfl) <|
  mc_1 (mk_p (ms_iconst (n := (-1)) (by decide +kernel) (by decide +kernel)) rfl) <| mc_0
theorem mw_22_8 : ∀ e ∈ mt_22_8, mx_Ok mx_MT mq_22 e.1 e.2 := 
  mc_1 (mk_p (ms_goto (off := (9)) (by decide +kernel) (by decide)) rfl) <|
  mc_1 (mk_p (ms_aload_n (k := 0) (by decide +kernel) rfl) rfl) <|
  mc_1 (mk_p (ms_iload_n (k := 3) (by decide +kernel) rfl) rfl) <|
  mc_1 (mk_c (k := mq_23) rfl ⟨mo_23, 160, 1179, none, ml_m_LeagueOffice_Chances_160, Or.inr (Or.inr (Or.inl ⟨1, TX1, 10, by decide, rfl, rfl, (by decide +kernel), ⟨1, rfl, mx_npd (by decide +kernel)⟩, ml_in_1181, ml_se_26⟩))⟩) <|
  mc_1 (mk_p (ms_l2i (by decide +kernel)) rfl) <|
  mc_1 (mk_r (Or.inl ⟨rfl, by decide +kernel, _, rfl, mf_0⟩) rfl) <| mc_0
theorem mw_22 : ∀ ch ∈ mt_22, ∀ e ∈ ch, mx_Ok mx_MT mq_22 e.1 e.2 := mc_2 mw_22_0 <| mc_2 mw_22_1 <| mc_2 mw_22_2 <| mc_2 mw_22_3 <| mc_2 mw_22_4 <| mc_2 mw_22_5 <| mc_2 mw_22_6 <| mc_2 mw_22_7 <| mc_2 mw_22_8 <| mc_3
/- 23 LeagueOffice$Chances.sumOf(I)J -/
theorem mw_23_0 : ∀ e ∈ mt_23_0, mx_Ok mx_MT mq_23 e.1 e.2 := 
  mc_1 (mk_p (ms_iload_n (k := 1) (by decide +kernel) rfl) rfl) <|
  mc_1 (mk_p (ms_if_lt (off := (21)) (by decide +kernel) (by decide)) rfl) <|
  mc_1 (mk_p (ms_iload_n (k := 1) (by decide +kernel) rfl) rfl) <|
  mc_1 (mk_p (ms_aload_n (k := 0) (by decide +kernel) rfl) rfl) <|
  mc_1 (mk_p (ms_get (idx := 32) (w := 428) (host := none) mx_c1 (by decide) ml_f_LeagueOffice_Chances_32 (by decide +kernel)) rfl) <|
  mc_1 (mk_p (ms_alen (by decide +kernel)) rfl) <|
  mc_1 (mk_p (ms_icmp_ge (off := (12)) (by decide +kernel) (by decide)) rfl) <|
  mc_1 (mk_p (ms_aload_n (k := 0) (by decide +kernel) rfl) rfl) <|
  mc_1 (mk_p (ms_get (idx := 32) (w := 428) (host := none) mx_c1 (by decide) ml_f_LeagueOffice_Chances_32 (by decide +kernel)) rfl) <| mc_0
theorem mw_23_1 : ∀ e ∈ mt_23_1, mx_Ok mx_MT mq_23 e.1 e.2 := 
  mc_1 (mk_p (ms_iload_n (k := 1) (by decide +kernel) rfl) rfl) <|
  mc_1 (mk_p (ms_ald (Or.inr (Or.inr (Or.inr ⟨rfl, by decide +kernel⟩)))) rfl) <|
  mc_1 (mk_p (ms_goto (off := (4)) (by decide +kernel) (by decide)) rfl) <|
  mc_1 (mk_p (ms_lconst (n := 0) (by decide +kernel) rfl) rfl) <|
  mc_1 (mk_r (Or.inr (Or.inl ⟨rfl, by decide +kernel, rfl⟩)) rfl) <| mc_0
theorem mw_23 : ∀ ch ∈ mt_23, ∀ e ∈ ch, mx_Ok mx_MT mq_23 e.1 e.2 := mc_2 mw_23_0 <| mc_2 mw_23_1 <| mc_3
/- 24 LeagueOffice$Failures.<init>(LLeagueOffice$Book;)V -/
theorem mw_24_0 : ∀ e ∈ mt_24_0, mx_Ok mx_MT mq_24 e.1 e.2 := 
  mc_1 (mk_p (ms_aload_n (k := 0) (by decide +kernel) rfl) rfl) <|
  mc_1 (mk_p (ms_obj (idx := 3) 387 103 104 (by decide +kernel) (by decide +kernel) (by decide +kernel) (by decide +kernel)) rfl) <|
  mc_1 (mk_p (ms_aload_n (k := 0) (by decide +kernel) rfl) rfl) <|
  mc_1 (mk_p (mn_6 (idx := 9) 388 (by decide +kernel) (by decide +kernel)) rfl) <|
  mc_1 (mk_p (ms_dup (by decide +kernel)) rfl) <|
  mc_1 (mk_p (ms_bipush (n := 12) (by decide +kernel) (by decide +kernel)) rfl) <|
  mc_1 (mk_c (k := mq_64) rfl ⟨mo_64, 11, 389, none, ml_m_LeagueOffice_Failures_11, Or.inr (Or.inl ⟨rfl, (by decide +kernel), ⟨1, rfl, mx_npd (by decide +kernel)⟩, ml_in_114, rfl, rfl⟩)⟩) <|
  mc_1 (mk_p (ms_putF (idx := 14) (w := 392) mx_c2 (by decide) ml_f_LeagueOffice_Failures_14 rfl rfl rfl rfl (by decide +kernel)) rfl) <| mc_0
theorem mw_24_1 : ∀ e ∈ mt_24_1, mx_Ok mx_MT mq_24 e.1 e.2 := 
  mc_1 (mk_p (ms_aload_n (k := 0) (by decide +kernel) rfl) rfl) <|
  mc_1 (mk_p (mn_6 (idx := 9) 388 (by decide +kernel) (by decide +kernel)) rfl) <|
  mc_1 (mk_p (ms_dup (by decide +kernel)) rfl) <|
  mc_1 (mk_p (ms_bipush (n := 60) (by decide +kernel) (by decide +kernel)) rfl) <|
  mc_1 (mk_c (k := mq_64) rfl ⟨mo_64, 11, 389, none, ml_m_LeagueOffice_Failures_11, Or.inr (Or.inl ⟨rfl, (by decide +kernel), ⟨1, rfl, mx_npd (by decide +kernel)⟩, ml_in_114, rfl, rfl⟩)⟩) <|
  mc_1 (mk_p (ms_putF (idx := 20) (w := 393) mx_c2 (by decide) ml_f_LeagueOffice_Failures_20 rfl rfl rfl rfl (by decide +kernel)) rfl) <|
  mc_1 (mk_p (ms_aload_n (k := 0) (by decide +kernel) rfl) rfl) <|
  mc_1 (mk_p (mn_6 (idx := 9) 388 (by decide +kernel) (by decide +kernel)) rfl) <| mc_0
theorem mw_24_2 : ∀ e ∈ mt_24_2, mx_Ok mx_MT mq_24 e.1 e.2 := 
  mc_1 (mk_p (ms_dup (by decide +kernel)) rfl) <|
  mc_1 (mk_p (ms_sipush (n := 720) (by decide +kernel) (by decide +kernel)) rfl) <|
  mc_1 (mk_c (k := mq_64) rfl ⟨mo_64, 11, 389, none, ml_m_LeagueOffice_Failures_11, Or.inr (Or.inl ⟨rfl, (by decide +kernel), ⟨1, rfl, mx_npd (by decide +kernel)⟩, ml_in_114, rfl, rfl⟩)⟩) <|
  mc_1 (mk_p (ms_putF (idx := 23) (w := 394) mx_c2 (by decide) ml_f_LeagueOffice_Failures_23 rfl rfl rfl rfl (by decide +kernel)) rfl) <|
  mc_1 (mk_p (ms_aload_n (k := 0) (by decide +kernel) rfl) rfl) <|
  mc_1 (mk_p (mn_6 (idx := 9) 388 (by decide +kernel) (by decide +kernel)) rfl) <| mc_0
theorem mw_24_3 : ∀ e ∈ mt_24_3, mx_Ok mx_MT mq_24 e.1 e.2 := 
  mc_1 (mk_p (ms_dup (by decide +kernel)) rfl) <|
  mc_1 (mk_p (ms_sipush (n := 720) (by decide +kernel) (by decide +kernel)) rfl) <|
  mc_1 (mk_c (k := mq_64) rfl ⟨mo_64, 11, 389, none, ml_m_LeagueOffice_Failures_11, Or.inr (Or.inl ⟨rfl, (by decide +kernel), ⟨1, rfl, mx_npd (by decide +kernel)⟩, ml_in_114, rfl, rfl⟩)⟩) <|
  mc_1 (mk_p (ms_putF (idx := 26) (w := 395) mx_c2 (by decide) ml_f_LeagueOffice_Failures_26 rfl rfl rfl rfl (by decide +kernel)) rfl) <|
  mc_1 (mk_p (ms_aload_n (k := 0) (by decide +kernel) rfl) rfl) <|
  mc_1 (mk_p (mn_6 (idx := 9) 388 (by decide +kernel) (by decide +kernel)) rfl) <|
  mc_1 (mk_p (ms_dup (by decide +kernel)) rfl) <|
  mc_1 (mk_p (ms_sipush (n := 720) (by decide +kernel) (by decide +kernel)) rfl) <| mc_0
theorem mw_24_4 : ∀ e ∈ mt_24_4, mx_Ok mx_MT mq_24 e.1 e.2 := 
  mc_1 (mk_c (k := mq_64) rfl ⟨mo_64, 11, 389, none, ml_m_LeagueOffice_Failures_11, Or.inr (Or.inl ⟨rfl, (by decide +kernel), ⟨1, rfl, mx_npd (by decide +kernel)⟩, ml_in_114, rfl, rfl⟩)⟩) <|
  mc_1 (mk_p (ms_putF (idx := 29) (w := 396) mx_c2 (by decide) ml_f_LeagueOffice_Failures_29 rfl rfl rfl rfl (by decide +kernel)) rfl) <|
  mc_1 (mk_p (ms_aload_n (k := 0) (by decide +kernel) rfl) rfl) <|
  mc_1 (mk_p (ms_aload_n (k := 1) (by decide +kernel) rfl) rfl) <|
  mc_1 (mk_p (ms_putF (idx := 32) (w := 390) mx_c2 (by decide) ml_f_LeagueOffice_Failures_32 rfl rfl rfl rfl (by decide +kernel)) rfl) <|
  mc_1 (mk_r (Or.inr (Or.inr (Or.inr ⟨rfl, by decide +kernel, rfl⟩))) rfl) <| mc_0
theorem mw_24 : ∀ ch ∈ mt_24, ∀ e ∈ ch, mx_Ok mx_MT mq_24 e.1 e.2 := mc_2 mw_24_0 <| mc_2 mw_24_1 <| mc_2 mw_24_2 <| mc_2 mw_24_3 <| mc_2 mw_24_4 <| mc_3
/- 25 LeagueOffice$Failures.hasFailed(I)Z -/
theorem mw_25_0 : ∀ e ∈ mt_25_0, mx_Ok mx_MT mq_25 e.1 e.2 := 
  mc_1 (mk_p (ms_aload_n (k := 0) (by decide +kernel) rfl) rfl) <|
  mc_1 (mk_p (ms_get (idx := 14) (w := 392) (host := none) mx_c2 (by decide) ml_f_LeagueOffice_Failures_14 (by decide +kernel)) rfl) <|
  mc_1 (mk_p (ms_iload_n (k := 1) (by decide +kernel) rfl) rfl) <|
  mc_1 (mk_c (k := mq_68) rfl ⟨mo_68, 36, 1063, none, ml_m_LeagueOffice_Failures_36, Or.inr (Or.inr (Or.inl ⟨6, TX6, 2, by decide, rfl, rfl, (by decide +kernel), ⟨1, rfl, mx_npd (by decide +kernel)⟩, ml_in_591, ml_se_592⟩))⟩) <|
  mc_1 (mk_p (ms_if_le (off := (7)) (by decide +kernel) (by decide)) rfl) <|
  mc_1 (mk_p (ms_iconst (n := 1) (by decide +kernel) (by decide +kernel)) rfl) <|
  mc_1 (mk_p (ms_goto (off := (4)) (by decide +kernel) (by decide)) rfl) <|
  mc_1 (mk_p (ms_iconst (n := 0) (by decide +kernel) (by decide +kernel)) rfl) <| mc_0
theorem mw_25_1 : ∀ e ∈ mt_25_1, mx_Ok mx_MT mq_25 e.1 e.2 := 
  mc_1 (mk_r (Or.inl ⟨rfl, by decide +kernel, _, rfl, mf_2⟩) rfl) <| mc_0
theorem mw_25 : ∀ ch ∈ mt_25, ∀ e ∈ ch, mx_Ok mx_MT mq_25 e.1 e.2 := mc_2 mw_25_0 <| mc_2 mw_25_1 <| mc_3
/- 26 LeagueOffice$Failures.enter(I)I -/
theorem mw_26_0 : ∀ e ∈ mt_26_0, mx_Ok mx_MT mq_26 e.1 e.2 := 
  mc_1 (mk_p (ms_aload_n (k := 0) (by decide +kernel) rfl) rfl) <|
  mc_1 (mk_p (ms_dup (by decide +kernel)) rfl) <|
  mc_1 (mk_p (ms_get (idx := 40) (w := 391) (host := none) mx_c2 (by decide) ml_f_LeagueOffice_Failures_40 (by decide +kernel)) rfl) <|
  mc_1 (mk_p (ms_iconst (n := 1) (by decide +kernel) (by decide +kernel)) rfl) <|
  mc_1 (mk_p (ms_iadd (by decide +kernel)) rfl) <|
  mc_1 (mk_p (ms_put (idx := 40) (w := 391) (host := none) mx_c2 (by decide) ml_f_LeagueOffice_Failures_40 rfl rfl (by decide +kernel)) rfl) <|
  mc_1 (mk_p (ms_aload_n (k := 0) (by decide +kernel) rfl) rfl) <|
  mc_1 (mk_p (ms_get (idx := 14) (w := 392) (host := none) mx_c2 (by decide) ml_f_LeagueOffice_Failures_14 (by decide +kernel)) rfl) <|
  mc_1 (mk_p (ms_iload_n (k := 1) (by decide +kernel) rfl) rfl) <|
  mc_1 (mk_p (ms_aload_n (k := 0) (by decide +kernel) rfl) rfl) <| mc_0
theorem mw_26_1 : ∀ e ∈ mt_26_1, mx_Ok mx_MT mq_26 e.1 e.2 := 
  mc_1 (mk_p (ms_get (idx := 40) (w := 391) (host := none) mx_c2 (by decide) ml_f_LeagueOffice_Failures_40 (by decide +kernel)) rfl) <|
  mc_1 (mk_c (k := mq_69) rfl ⟨mo_69, 44, 1068, none, ml_m_LeagueOffice_Failures_44, Or.inr (Or.inr (Or.inl ⟨6, TX6, 2, by decide, rfl, rfl, (by decide +kernel), ⟨2, rfl, mx_npd (by decide +kernel)⟩, ml_in_665, ml_se_666⟩))⟩) <|
  mc_1 (mk_p (ms_aload_n (k := 0) (by decide +kernel) rfl) rfl) <|
  mc_1 (mk_p (ms_get (idx := 32) (w := 390) (host := none) mx_c2 (by decide) ml_f_LeagueOffice_Failures_32 (by decide +kernel)) rfl) <|
  mc_1 (mk_p (ms_aload_n (k := 0) (by decide +kernel) rfl) rfl) <|
  mc_1 (mk_p (ms_get (idx := 32) (w := 390) (host := none) mx_c2 (by decide) ml_f_LeagueOffice_Failures_32 (by decide +kernel)) rfl) <|
  mc_1 (mk_p (ms_get (idx := 48) (w := 132) (host := (some "LeagueOffice")) mx_c0 (by decide) ml_f_LeagueOffice_Failures_48 (by decide +kernel)) rfl) <| mc_0
theorem mw_26_2 : ∀ e ∈ mt_26_2, mx_Ok mx_MT mq_26 e.1 e.2 := 
  mc_1 (mk_c (k := mq_11) rfl ⟨mo_11, 53, 1069, none, ml_m_LeagueOffice_Failures_53, Or.inr (Or.inr (Or.inl ⟨0, TX0, 12, by decide, rfl, rfl, (by decide +kernel), ⟨1, rfl, mx_npd (by decide +kernel)⟩, ml_in_815, ml_se_816⟩))⟩) <|
  mc_1 (mk_p (ms_iconst (n := 0) (by decide +kernel) (by decide +kernel)) rfl) <|
  mc_1 (mk_p (ms_istore_n (k := 2) (by decide +kernel) rfl (by decide)) rfl) <|
  mc_1 (mk_p (ms_iload_n (k := 2) (by decide +kernel) rfl) rfl) <|
  mc_1 (mk_p (ms_bipush (n := 60) (by decide +kernel) (by decide +kernel)) rfl) <|
  mc_1 (mk_p (ms_icmp_ge (off := (23)) (by decide +kernel) (by decide)) rfl) <|
  mc_1 (mk_p (ms_aload_n (k := 0) (by decide +kernel) rfl) rfl) <|
  mc_1 (mk_p (ms_get (idx := 23) (w := 394) (host := none) mx_c2 (by decide) ml_f_LeagueOffice_Failures_23 (by decide +kernel)) rfl) <| mc_0
theorem mw_26_3 : ∀ e ∈ mt_26_3, mx_Ok mx_MT mq_26 e.1 e.2 := 
  mc_1 (mk_p (ms_iload_n (k := 1) (by decide +kernel) rfl) rfl) <|
  mc_1 (mk_p (ms_bipush (n := 60) (by decide +kernel) (by decide +kernel)) rfl) <|
  mc_1 (mk_p (ms_imul (by decide +kernel)) rfl) <|
  mc_1 (mk_p (ms_iload_n (k := 2) (by decide +kernel) rfl) rfl) <|
  mc_1 (mk_p (ms_iadd (by decide +kernel)) rfl) <|
  mc_1 (mk_p (ms_iconst (n := (-1)) (by decide +kernel) (by decide +kernel)) rfl) <|
  mc_1 (mk_c (k := mq_69) rfl ⟨mo_69, 44, 1068, none, ml_m_LeagueOffice_Failures_44, Or.inr (Or.inr (Or.inl ⟨6, TX6, 2, by decide, rfl, rfl, (by decide +kernel), ⟨2, rfl, mx_npd (by decide +kernel)⟩, ml_in_665, ml_se_666⟩))⟩) <|
  mc_1 (mk_p (ms_iinc (n := (1)) (by decide +kernel) (by decide +kernel) (by decide)) rfl) <|
  mc_1 (mk_p (ms_goto (off := (-23)) (by decide +kernel) (by decide)) rfl) <| mc_0
theorem mw_26_4 : ∀ e ∈ mt_26_4, mx_Ok mx_MT mq_26 e.1 e.2 := 
  mc_1 (mk_p (ms_iconst (n := 0) (by decide +kernel) (by decide +kernel)) rfl) <|
  mc_1 (mk_p (ms_istore_n (k := 2) (by decide +kernel) rfl (by decide)) rfl) <|
  mc_1 (mk_p (ms_iconst (n := 0) (by decide +kernel) (by decide +kernel)) rfl) <|
  mc_1 (mk_p (ms_istore_n (k := 3) (by decide +kernel) rfl (by decide)) rfl) <|
  mc_1 (mk_p (ms_iconst (n := 0) (by decide +kernel) (by decide +kernel)) rfl) <|
  mc_1 (mk_p (ms_istore (by decide +kernel) (by decide)) rfl) <|
  mc_1 (mk_p (ms_iload (by decide +kernel)) rfl) <|
  mc_1 (mk_p (ms_aload_n (k := 0) (by decide +kernel) rfl) rfl) <|
  mc_1 (mk_p (ms_get (idx := 32) (w := 390) (host := none) mx_c2 (by decide) ml_f_LeagueOffice_Failures_32 (by decide +kernel)) rfl) <|
  mc_1 (mk_p (ms_get (idx := 56) (w := 145) (host := (some "LeagueOffice")) mx_c0 (by decide) ml_f_LeagueOffice_Failures_56 (by decide +kernel)) rfl) <| mc_0
theorem mw_26_5 : ∀ e ∈ mt_26_5, mx_Ok mx_MT mq_26 e.1 e.2 := 
  mc_1 (mk_c (k := mq_65) rfl ⟨mo_65, 59, 1070, none, ml_m_LeagueOffice_Failures_59, Or.inr (Or.inr (Or.inl ⟨6, TX6, 2, by decide, rfl, rfl, (by decide +kernel), ⟨0, rfl, mx_npd (by decide +kernel)⟩, ml_in_587, ml_se_588⟩))⟩) <|
  mc_1 (mk_p (ms_icmp_ge (off := (58)) (by decide +kernel) (by decide)) rfl) <|
  mc_1 (mk_p (ms_aload_n (k := 0) (by decide +kernel) rfl) rfl) <|
  mc_1 (mk_p (ms_get (idx := 32) (w := 390) (host := none) mx_c2 (by decide) ml_f_LeagueOffice_Failures_32 (by decide +kernel)) rfl) <|
  mc_1 (mk_p (ms_iload (by decide +kernel)) rfl) <|
  mc_1 (mk_p (ms_iload_n (k := 1) (by decide +kernel) rfl) rfl) <|
  mc_1 (mk_c (k := mq_5) rfl ⟨mo_5, 63, 1071, none, ml_m_LeagueOffice_Failures_63, Or.inr (Or.inr (Or.inl ⟨0, TX0, 12, by decide, rfl, rfl, (by decide +kernel), ⟨2, rfl, mx_npd (by decide +kernel)⟩, ml_in_1018, ml_se_1019⟩))⟩) <| mc_0
theorem mw_26_6 : ∀ e ∈ mt_26_6, mx_Ok mx_MT mq_26 e.1 e.2 := 
  mc_1 (mk_p (ms_if_eq (off := (39)) (by decide +kernel) (by decide)) rfl) <|
  mc_1 (mk_p (ms_aload_n (k := 0) (by decide +kernel) rfl) rfl) <|
  mc_1 (mk_p (ms_get (idx := 32) (w := 390) (host := none) mx_c2 (by decide) ml_f_LeagueOffice_Failures_32 (by decide +kernel)) rfl) <|
  mc_1 (mk_p (ms_iload (by decide +kernel)) rfl) <|
  mc_1 (mk_c (k := mq_6) rfl ⟨mo_6, 67, 1072, none, ml_m_LeagueOffice_Failures_67, Or.inr (Or.inr (Or.inl ⟨0, TX0, 12, by decide, rfl, rfl, (by decide +kernel), ⟨1, rfl, mx_npd (by decide +kernel)⟩, ml_in_867, ml_se_868⟩))⟩) <|
  mc_1 (mk_p (ms_if_ne (off := (6)) (by decide +kernel) (by decide)) rfl) <|
  mc_1 (mk_p (ms_goto (off := (24)) (by decide +kernel) (by decide)) rfl) <| mc_0
theorem mw_26_7 : ∀ e ∈ mt_26_7, mx_Ok mx_MT mq_26 e.1 e.2 := 
  mc_1 (mk_p (ms_iinc (n := (1)) (by decide +kernel) (by decide +kernel) (by decide)) rfl) <|
  mc_1 (mk_p (ms_aload_n (k := 0) (by decide +kernel) rfl) rfl) <|
  mc_1 (mk_p (ms_get (idx := 32) (w := 390) (host := none) mx_c2 (by decide) ml_f_LeagueOffice_Failures_32 (by decide +kernel)) rfl) <|
  mc_1 (mk_p (ms_get (idx := 71) (w := 179) (host := (some "LeagueOffice")) mx_c0 (by decide) ml_f_LeagueOffice_Failures_71 (by decide +kernel)) rfl) <|
  mc_1 (mk_p (ms_iload (by decide +kernel)) rfl) <|
  mc_1 (mk_c (k := mq_68) rfl ⟨mo_68, 36, 1063, none, ml_m_LeagueOffice_Failures_36, Or.inr (Or.inr (Or.inl ⟨6, TX6, 2, by decide, rfl, rfl, (by decide +kernel), ⟨1, rfl, mx_npd (by decide +kernel)⟩, ml_in_591, ml_se_592⟩))⟩) <| mc_0
theorem mw_26_8 : ∀ e ∈ mt_26_8, mx_Ok mx_MT mq_26 e.1 e.2 := 
  mc_1 (mk_p (ms_if_lt (off := (6)) (by decide +kernel) (by decide)) rfl) <|
  mc_1 (mk_p (ms_iinc (n := (1)) (by decide +kernel) (by decide +kernel) (by decide)) rfl) <|
  mc_1 (mk_p (ms_iinc (n := (1)) (by decide +kernel) (by decide +kernel) (by decide)) rfl) <|
  mc_1 (mk_p (ms_goto (off := (-67)) (by decide +kernel) (by decide)) rfl) <|
  mc_1 (mk_p (ms_aload_n (k := 0) (by decide +kernel) rfl) rfl) <|
  mc_1 (mk_p (ms_iload_n (k := 1) (by decide +kernel) rfl) rfl) <|
  mc_1 (mk_p (ms_iconst (n := 2) (by decide +kernel) (by decide +kernel)) rfl) <| mc_0
theorem mw_26_9 : ∀ e ∈ mt_26_9, mx_Ok mx_MT mq_26 e.1 e.2 := 
  mc_1 (mk_p (ms_iload_n (k := 3) (by decide +kernel) rfl) rfl) <|
  mc_1 (mk_p (ms_imul (by decide +kernel)) rfl) <|
  mc_1 (mk_p (ms_iload_n (k := 2) (by decide +kernel) rfl) rfl) <|
  mc_1 (mk_p (ms_icmp_ge (off := (7)) (by decide +kernel) (by decide)) rfl) <|
  mc_1 (mk_p (ms_iconst (n := 1) (by decide +kernel) (by decide +kernel)) rfl) <|
  mc_1 (mk_p (ms_goto (off := (4)) (by decide +kernel) (by decide)) rfl) <|
  mc_1 (mk_p (ms_iconst (n := 0) (by decide +kernel) (by decide +kernel)) rfl) <|
  mc_1 (mk_c (k := mq_27) rfl ⟨mo_27, 74, 1073, none, ml_m_LeagueOffice_Failures_74, Or.inr (Or.inr (Or.inl ⟨2, TX2, 7, by decide, rfl, rfl, (by decide +kernel), ⟨2, rfl, mx_npd (by decide +kernel)⟩, ml_in_1075, ml_se_17⟩))⟩) <|
  mc_1 (mk_r (Or.inl ⟨rfl, by decide +kernel, _, rfl, mf_0⟩) rfl) <| mc_0
theorem mw_26 : ∀ ch ∈ mt_26, ∀ e ∈ ch, mx_Ok mx_MT mq_26 e.1 e.2 := mc_2 mw_26_0 <| mc_2 mw_26_1 <| mc_2 mw_26_2 <| mc_2 mw_26_3 <| mc_2 mw_26_4 <| mc_2 mw_26_5 <| mc_2 mw_26_6 <| mc_2 mw_26_7 <| mc_2 mw_26_8 <| mc_2 mw_26_9 <| mc_3
/- 27 LeagueOffice$Failures.changeGames(IZ)I -/
theorem mw_27_0 : ∀ e ∈ mt_27_0, mx_Ok mx_MT mq_27 e.1 e.2 := 
  mc_1 (mk_p (ms_iconst (n := 0) (by decide +kernel) (by decide +kernel)) rfl) <|
  mc_1 (mk_p (ms_istore_n (k := 3) (by decide +kernel) rfl (by decide)) rfl) <|
  mc_1 (mk_p (ms_iconst (n := 0) (by decide +kernel) (by decide +kernel)) rfl) <|
  mc_1 (mk_p (ms_istore (by decide +kernel) (by decide)) rfl) <|
  mc_1 (mk_p (ms_iload (by decide +kernel)) rfl) <|
  mc_1 (mk_p (ms_aload_n (k := 0) (by decide +kernel) rfl) rfl) <|
  mc_1 (mk_p (ms_get (idx := 32) (w := 390) (host := none) mx_c2 (by decide) ml_f_LeagueOffice_Failures_32 (by decide +kernel)) rfl) <|
  mc_1 (mk_p (ms_get (idx := 56) (w := 145) (host := (some "LeagueOffice")) mx_c0 (by decide) ml_f_LeagueOffice_Failures_56 (by decide +kernel)) rfl) <|
  mc_1 (mk_c (k := mq_65) rfl ⟨mo_65, 59, 1070, none, ml_m_LeagueOffice_Failures_59, Or.inr (Or.inr (Or.inl ⟨6, TX6, 2, by decide, rfl, rfl, (by decide +kernel), ⟨0, rfl, mx_npd (by decide +kernel)⟩, ml_in_587, ml_se_588⟩))⟩) <| mc_0
theorem mw_27_1 : ∀ e ∈ mt_27_1, mx_Ok mx_MT mq_27 e.1 e.2 := 
  mc_1 (mk_p (ms_icmp_ge (off := (96)) (by decide +kernel) (by decide)) rfl) <|
  mc_1 (mk_p (ms_aload_n (k := 0) (by decide +kernel) rfl) rfl) <|
  mc_1 (mk_p (ms_get (idx := 32) (w := 390) (host := none) mx_c2 (by decide) ml_f_LeagueOffice_Failures_32 (by decide +kernel)) rfl) <|
  mc_1 (mk_p (ms_iload (by decide +kernel)) rfl) <|
  mc_1 (mk_p (ms_iload_n (k := 1) (by decide +kernel) rfl) rfl) <|
  mc_1 (mk_c (k := mq_5) rfl ⟨mo_5, 63, 1071, none, ml_m_LeagueOffice_Failures_63, Or.inr (Or.inr (Or.inl ⟨0, TX0, 12, by decide, rfl, rfl, (by decide +kernel), ⟨2, rfl, mx_npd (by decide +kernel)⟩, ml_in_1018, ml_se_1019⟩))⟩) <|
  mc_1 (mk_p (ms_if_eq (off := (77)) (by decide +kernel) (by decide)) rfl) <| mc_0
theorem mw_27_2 : ∀ e ∈ mt_27_2, mx_Ok mx_MT mq_27 e.1 e.2 := 
  mc_1 (mk_p (ms_aload_n (k := 0) (by decide +kernel) rfl) rfl) <|
  mc_1 (mk_p (ms_get (idx := 32) (w := 390) (host := none) mx_c2 (by decide) ml_f_LeagueOffice_Failures_32 (by decide +kernel)) rfl) <|
  mc_1 (mk_p (ms_iload (by decide +kernel)) rfl) <|
  mc_1 (mk_c (k := mq_6) rfl ⟨mo_6, 67, 1072, none, ml_m_LeagueOffice_Failures_67, Or.inr (Or.inr (Or.inl ⟨0, TX0, 12, by decide, rfl, rfl, (by decide +kernel), ⟨1, rfl, mx_npd (by decide +kernel)⟩, ml_in_867, ml_se_868⟩))⟩) <|
  mc_1 (mk_p (ms_if_ne (off := (6)) (by decide +kernel) (by decide)) rfl) <|
  mc_1 (mk_p (ms_goto (off := (62)) (by decide +kernel) (by decide)) rfl) <| mc_0
theorem mw_27_3 : ∀ e ∈ mt_27_3, mx_Ok mx_MT mq_27 e.1 e.2 := 
  mc_1 (mk_p (ms_iload_n (k := 2) (by decide +kernel) rfl) rfl) <|
  mc_1 (mk_p (ms_if_ne (off := (21)) (by decide +kernel) (by decide)) rfl) <|
  mc_1 (mk_p (ms_aload_n (k := 0) (by decide +kernel) rfl) rfl) <|
  mc_1 (mk_p (ms_get (idx := 32) (w := 390) (host := none) mx_c2 (by decide) ml_f_LeagueOffice_Failures_32 (by decide +kernel)) rfl) <|
  mc_1 (mk_p (ms_get (idx := 71) (w := 179) (host := (some "LeagueOffice")) mx_c0 (by decide) ml_f_LeagueOffice_Failures_71 (by decide +kernel)) rfl) <|
  mc_1 (mk_p (ms_iload (by decide +kernel)) rfl) <|
  mc_1 (mk_c (k := mq_68) rfl ⟨mo_68, 36, 1063, none, ml_m_LeagueOffice_Failures_36, Or.inr (Or.inr (Or.inl ⟨6, TX6, 2, by decide, rfl, rfl, (by decide +kernel), ⟨1, rfl, mx_npd (by decide +kernel)⟩, ml_in_591, ml_se_592⟩))⟩) <| mc_0
theorem mw_27_4 : ∀ e ∈ mt_27_4, mx_Ok mx_MT mq_27 e.1 e.2 := 
  mc_1 (mk_p (ms_if_lt (off := (6)) (by decide +kernel) (by decide)) rfl) <|
  mc_1 (mk_p (ms_goto (off := (40)) (by decide +kernel) (by decide)) rfl) <|
  mc_1 (mk_p (ms_aload_n (k := 0) (by decide +kernel) rfl) rfl) <|
  mc_1 (mk_p (ms_iload_n (k := 1) (by decide +kernel) rfl) rfl) <|
  mc_1 (mk_p (ms_iload (by decide +kernel)) rfl) <|
  mc_1 (mk_c (k := mq_28) rfl ⟨mo_28, 78, 1077, none, ml_m_LeagueOffice_Failures_78, Or.inr (Or.inr (Or.inl ⟨2, TX2, 7, by decide, rfl, rfl, (by decide +kernel), ⟨2, rfl, mx_npd (by decide +kernel)⟩, ml_in_1079, ml_se_18⟩))⟩) <|
  mc_1 (mk_p (ms_iload_n (k := 2) (by decide +kernel) rfl) rfl) <|
  mc_1 (mk_p (ms_if_eq (off := (19)) (by decide +kernel) (by decide)) rfl) <| mc_0
theorem mw_27_5 : ∀ e ∈ mt_27_5, mx_Ok mx_MT mq_27 e.1 e.2 := 
  mc_1 (mk_p (ms_aload_n (k := 0) (by decide +kernel) rfl) rfl) <|
  mc_1 (mk_p (ms_get (idx := 32) (w := 390) (host := none) mx_c2 (by decide) ml_f_LeagueOffice_Failures_32 (by decide +kernel)) rfl) <|
  mc_1 (mk_p (ms_get (idx := 56) (w := 145) (host := (some "LeagueOffice")) mx_c0 (by decide) ml_f_LeagueOffice_Failures_56 (by decide +kernel)) rfl) <|
  mc_1 (mk_p (ms_iload (by decide +kernel)) rfl) <|
  mc_1 (mk_p (ms_iconst (n := 5) (by decide +kernel) (by decide +kernel)) rfl) <|
  mc_1 (mk_c (k := mq_69) rfl ⟨mo_69, 44, 1068, none, ml_m_LeagueOffice_Failures_44, Or.inr (Or.inr (Or.inl ⟨6, TX6, 2, by decide, rfl, rfl, (by decide +kernel), ⟨2, rfl, mx_npd (by decide +kernel)⟩, ml_in_665, ml_se_666⟩))⟩) <|
  mc_1 (mk_p (ms_goto (off := (10)) (by decide +kernel) (by decide)) rfl) <| mc_0
theorem mw_27_6 : ∀ e ∈ mt_27_6, mx_Ok mx_MT mq_27 e.1 e.2 := 
  mc_1 (mk_p (ms_aload_n (k := 0) (by decide +kernel) rfl) rfl) <|
  mc_1 (mk_p (ms_iload (by decide +kernel)) rfl) <|
  mc_1 (mk_p (ms_iload_n (k := 1) (by decide +kernel) rfl) rfl) <|
  mc_1 (mk_c (k := mq_29) rfl ⟨mo_29, 81, 1081, none, ml_m_LeagueOffice_Failures_81, Or.inr (Or.inr (Or.inl ⟨2, TX2, 7, by decide, rfl, rfl, (by decide +kernel), ⟨2, rfl, mx_npd (by decide +kernel)⟩, ml_in_1083, ml_se_19⟩))⟩) <|
  mc_1 (mk_p (ms_iinc (n := (1)) (by decide +kernel) (by decide +kernel) (by decide)) rfl) <|
  mc_1 (mk_p (ms_iinc (n := (1)) (by decide +kernel) (by decide +kernel) (by decide)) rfl) <|
  mc_1 (mk_p (ms_goto (off := (-105)) (by decide +kernel) (by decide)) rfl) <| mc_0
theorem mw_27_7 : ∀ e ∈ mt_27_7, mx_Ok mx_MT mq_27 e.1 e.2 := 
  mc_1 (mk_p (ms_iload_n (k := 3) (by decide +kernel) rfl) rfl) <|
  mc_1 (mk_r (Or.inl ⟨rfl, by decide +kernel, _, rfl, mf_0⟩) rfl) <| mc_0
theorem mw_27 : ∀ ch ∈ mt_27, ∀ e ∈ ch, mx_Ok mx_MT mq_27 e.1 e.2 := mc_2 mw_27_0 <| mc_2 mw_27_1 <| mc_2 mw_27_2 <| mc_2 mw_27_3 <| mc_2 mw_27_4 <| mc_2 mw_27_5 <| mc_2 mw_27_6 <| mc_2 mw_27_7 <| mc_3
/- 28 LeagueOffice$Failures.keep(II)V -/
theorem mw_28_0 : ∀ e ∈ mt_28_0, mx_Ok mx_MT mq_28 e.1 e.2 := 
  mc_1 (mk_p (ms_aload_n (k := 0) (by decide +kernel) rfl) rfl) <|
  mc_1 (mk_p (ms_get (idx := 23) (w := 394) (host := none) mx_c2 (by decide) ml_f_LeagueOffice_Failures_23 (by decide +kernel)) rfl) <|
  mc_1 (mk_p (ms_iload_n (k := 1) (by decide +kernel) rfl) rfl) <|
  mc_1 (mk_p (ms_bipush (n := 60) (by decide +kernel) (by decide +kernel)) rfl) <|
  mc_1 (mk_p (ms_imul (by decide +kernel)) rfl) <|
  mc_1 (mk_p (ms_iload_n (k := 2) (by decide +kernel) rfl) rfl) <|
  mc_1 (mk_p (ms_iadd (by decide +kernel)) rfl) <|
  mc_1 (mk_p (ms_aload_n (k := 0) (by decide +kernel) rfl) rfl) <|
  mc_1 (mk_p (ms_get (idx := 32) (w := 390) (host := none) mx_c2 (by decide) ml_f_LeagueOffice_Failures_32 (by decide +kernel)) rfl) <|
  mc_1 (mk_p (ms_get (idx := 56) (w := 145) (host := (some "LeagueOffice")) mx_c0 (by decide) ml_f_LeagueOffice_Failures_56 (by decide +kernel)) rfl) <| mc_0
theorem mw_28_1 : ∀ e ∈ mt_28_1, mx_Ok mx_MT mq_28 e.1 e.2 := 
  mc_1 (mk_p (ms_iload_n (k := 2) (by decide +kernel) rfl) rfl) <|
  mc_1 (mk_c (k := mq_68) rfl ⟨mo_68, 36, 1063, none, ml_m_LeagueOffice_Failures_36, Or.inr (Or.inr (Or.inl ⟨6, TX6, 2, by decide, rfl, rfl, (by decide +kernel), ⟨1, rfl, mx_npd (by decide +kernel)⟩, ml_in_591, ml_se_592⟩))⟩) <|
  mc_1 (mk_c (k := mq_69) rfl ⟨mo_69, 44, 1068, none, ml_m_LeagueOffice_Failures_44, Or.inr (Or.inr (Or.inl ⟨6, TX6, 2, by decide, rfl, rfl, (by decide +kernel), ⟨2, rfl, mx_npd (by decide +kernel)⟩, ml_in_665, ml_se_666⟩))⟩) <|
  mc_1 (mk_p (ms_aload_n (k := 0) (by decide +kernel) rfl) rfl) <|
  mc_1 (mk_p (ms_get (idx := 26) (w := 395) (host := none) mx_c2 (by decide) ml_f_LeagueOffice_Failures_26 (by decide +kernel)) rfl) <|
  mc_1 (mk_p (ms_iload_n (k := 1) (by decide +kernel) rfl) rfl) <|
  mc_1 (mk_p (ms_bipush (n := 60) (by decide +kernel) (by decide +kernel)) rfl) <|
  mc_1 (mk_p (ms_imul (by decide +kernel)) rfl) <| mc_0
theorem mw_28_2 : ∀ e ∈ mt_28_2, mx_Ok mx_MT mq_28 e.1 e.2 := 
  mc_1 (mk_p (ms_iload_n (k := 2) (by decide +kernel) rfl) rfl) <|
  mc_1 (mk_p (ms_iadd (by decide +kernel)) rfl) <|
  mc_1 (mk_p (ms_aload_n (k := 0) (by decide +kernel) rfl) rfl) <|
  mc_1 (mk_p (ms_get (idx := 32) (w := 390) (host := none) mx_c2 (by decide) ml_f_LeagueOffice_Failures_32 (by decide +kernel)) rfl) <|
  mc_1 (mk_p (ms_get (idx := 84) (w := 153) (host := (some "LeagueOffice")) mx_c0 (by decide) ml_f_LeagueOffice_Failures_84 (by decide +kernel)) rfl) <|
  mc_1 (mk_p (ms_iload_n (k := 2) (by decide +kernel) rfl) rfl) <|
  mc_1 (mk_c (k := mq_68) rfl ⟨mo_68, 36, 1063, none, ml_m_LeagueOffice_Failures_36, Or.inr (Or.inr (Or.inl ⟨6, TX6, 2, by decide, rfl, rfl, (by decide +kernel), ⟨1, rfl, mx_npd (by decide +kernel)⟩, ml_in_591, ml_se_592⟩))⟩) <|
  mc_1 (mk_c (k := mq_69) rfl ⟨mo_69, 44, 1068, none, ml_m_LeagueOffice_Failures_44, Or.inr (Or.inr (Or.inl ⟨6, TX6, 2, by decide, rfl, rfl, (by decide +kernel), ⟨2, rfl, mx_npd (by decide +kernel)⟩, ml_in_665, ml_se_666⟩))⟩) <| mc_0
theorem mw_28_3 : ∀ e ∈ mt_28_3, mx_Ok mx_MT mq_28 e.1 e.2 := 
  mc_1 (mk_p (ms_aload_n (k := 0) (by decide +kernel) rfl) rfl) <|
  mc_1 (mk_p (ms_get (idx := 29) (w := 396) (host := none) mx_c2 (by decide) ml_f_LeagueOffice_Failures_29 (by decide +kernel)) rfl) <|
  mc_1 (mk_p (ms_iload_n (k := 1) (by decide +kernel) rfl) rfl) <|
  mc_1 (mk_p (ms_bipush (n := 60) (by decide +kernel) (by decide +kernel)) rfl) <|
  mc_1 (mk_p (ms_imul (by decide +kernel)) rfl) <|
  mc_1 (mk_p (ms_iload_n (k := 2) (by decide +kernel) rfl) rfl) <|
  mc_1 (mk_p (ms_iadd (by decide +kernel)) rfl) <|
  mc_1 (mk_p (ms_aload_n (k := 0) (by decide +kernel) rfl) rfl) <|
  mc_1 (mk_p (ms_get (idx := 32) (w := 390) (host := none) mx_c2 (by decide) ml_f_LeagueOffice_Failures_32 (by decide +kernel)) rfl) <|
  mc_1 (mk_p (ms_get (idx := 87) (w := 160) (host := (some "LeagueOffice")) mx_c0 (by decide) ml_f_LeagueOffice_Failures_87 (by decide +kernel)) rfl) <| mc_0
theorem mw_28_4 : ∀ e ∈ mt_28_4, mx_Ok mx_MT mq_28 e.1 e.2 := 
  mc_1 (mk_p (ms_iload_n (k := 2) (by decide +kernel) rfl) rfl) <|
  mc_1 (mk_c (k := mq_68) rfl ⟨mo_68, 36, 1063, none, ml_m_LeagueOffice_Failures_36, Or.inr (Or.inr (Or.inl ⟨6, TX6, 2, by decide, rfl, rfl, (by decide +kernel), ⟨1, rfl, mx_npd (by decide +kernel)⟩, ml_in_591, ml_se_592⟩))⟩) <|
  mc_1 (mk_c (k := mq_69) rfl ⟨mo_69, 44, 1068, none, ml_m_LeagueOffice_Failures_44, Or.inr (Or.inr (Or.inl ⟨6, TX6, 2, by decide, rfl, rfl, (by decide +kernel), ⟨2, rfl, mx_npd (by decide +kernel)⟩, ml_in_665, ml_se_666⟩))⟩) <|
  mc_1 (mk_p (ms_aload_n (k := 0) (by decide +kernel) rfl) rfl) <|
  mc_1 (mk_p (ms_get (idx := 20) (w := 393) (host := none) mx_c2 (by decide) ml_f_LeagueOffice_Failures_20 (by decide +kernel)) rfl) <|
  mc_1 (mk_p (ms_iload_n (k := 2) (by decide +kernel) rfl) rfl) <|
  mc_1 (mk_p (ms_aload_n (k := 0) (by decide +kernel) rfl) rfl) <|
  mc_1 (mk_p (ms_get (idx := 40) (w := 391) (host := none) mx_c2 (by decide) ml_f_LeagueOffice_Failures_40 (by decide +kernel)) rfl) <| mc_0
theorem mw_28_5 : ∀ e ∈ mt_28_5, mx_Ok mx_MT mq_28 e.1 e.2 := 
  mc_1 (mk_c (k := mq_69) rfl ⟨mo_69, 44, 1068, none, ml_m_LeagueOffice_Failures_44, Or.inr (Or.inr (Or.inl ⟨6, TX6, 2, by decide, rfl, rfl, (by decide +kernel), ⟨2, rfl, mx_npd (by decide +kernel)⟩, ml_in_665, ml_se_666⟩))⟩) <|
  mc_1 (mk_r (Or.inr (Or.inr (Or.inr ⟨rfl, by decide +kernel, rfl⟩))) rfl) <| mc_0
theorem mw_28 : ∀ ch ∈ mt_28, ∀ e ∈ ch, mx_Ok mx_MT mq_28 e.1 e.2 := mc_2 mw_28_0 <| mc_2 mw_28_1 <| mc_2 mw_28_2 <| mc_2 mw_28_3 <| mc_2 mw_28_4 <| mc_2 mw_28_5 <| mc_3
/- 29 LeagueOffice$Failures.give(II)V -/
theorem mw_29_0 : ∀ e ∈ mt_29_0, mx_Ok mx_MT mq_29 e.1 e.2 := 
  mc_1 (mk_p (ms_aload_n (k := 0) (by decide +kernel) rfl) rfl) <|
  mc_1 (mk_p (ms_get (idx := 32) (w := 390) (host := none) mx_c2 (by decide) ml_f_LeagueOffice_Failures_32 (by decide +kernel)) rfl) <|
  mc_1 (mk_p (ms_get (idx := 84) (w := 153) (host := (some "LeagueOffice")) mx_c0 (by decide) ml_f_LeagueOffice_Failures_84 (by decide +kernel)) rfl) <|
  mc_1 (mk_p (ms_iload_n (k := 1) (by decide +kernel) rfl) rfl) <|
  mc_1 (mk_c (k := mq_68) rfl ⟨mo_68, 36, 1063, none, ml_m_LeagueOffice_Failures_36, Or.inr (Or.inr (Or.inl ⟨6, TX6, 2, by decide, rfl, rfl, (by decide +kernel), ⟨1, rfl, mx_npd (by decide +kernel)⟩, ml_in_591, ml_se_592⟩))⟩) <|
  mc_1 (mk_p (ms_iload_n (k := 2) (by decide +kernel) rfl) rfl) <|
  mc_1 (mk_p (ms_icmp_ne (off := (17)) (by decide +kernel) (by decide)) rfl) <|
  mc_1 (mk_p (ms_aload_n (k := 0) (by decide +kernel) rfl) rfl) <| mc_0
theorem mw_29_1 : ∀ e ∈ mt_29_1, mx_Ok mx_MT mq_29 e.1 e.2 := 
  mc_1 (mk_p (ms_get (idx := 32) (w := 390) (host := none) mx_c2 (by decide) ml_f_LeagueOffice_Failures_32 (by decide +kernel)) rfl) <|
  mc_1 (mk_p (ms_get (idx := 87) (w := 160) (host := (some "LeagueOffice")) mx_c0 (by decide) ml_f_LeagueOffice_Failures_87 (by decide +kernel)) rfl) <|
  mc_1 (mk_p (ms_iload_n (k := 1) (by decide +kernel) rfl) rfl) <|
  mc_1 (mk_c (k := mq_68) rfl ⟨mo_68, 36, 1063, none, ml_m_LeagueOffice_Failures_36, Or.inr (Or.inr (Or.inl ⟨6, TX6, 2, by decide, rfl, rfl, (by decide +kernel), ⟨1, rfl, mx_npd (by decide +kernel)⟩, ml_in_591, ml_se_592⟩))⟩) <|
  mc_1 (mk_p (ms_goto (off := (14)) (by decide +kernel) (by decide)) rfl) <|
  mc_1 (mk_p (ms_aload_n (k := 0) (by decide +kernel) rfl) rfl) <|
  mc_1 (mk_p (ms_get (idx := 32) (w := 390) (host := none) mx_c2 (by decide) ml_f_LeagueOffice_Failures_32 (by decide +kernel)) rfl) <| mc_0
theorem mw_29_2 : ∀ e ∈ mt_29_2, mx_Ok mx_MT mq_29 e.1 e.2 := 
  mc_1 (mk_p (ms_get (idx := 84) (w := 153) (host := (some "LeagueOffice")) mx_c0 (by decide) ml_f_LeagueOffice_Failures_84 (by decide +kernel)) rfl) <|
  mc_1 (mk_p (ms_iload_n (k := 1) (by decide +kernel) rfl) rfl) <|
  mc_1 (mk_c (k := mq_68) rfl ⟨mo_68, 36, 1063, none, ml_m_LeagueOffice_Failures_36, Or.inr (Or.inr (Or.inl ⟨6, TX6, 2, by decide, rfl, rfl, (by decide +kernel), ⟨1, rfl, mx_npd (by decide +kernel)⟩, ml_in_591, ml_se_592⟩))⟩) <|
  mc_1 (mk_p (ms_istore_n (k := 3) (by decide +kernel) rfl (by decide)) rfl) <|
  mc_1 (mk_p (ms_aload_n (k := 0) (by decide +kernel) rfl) rfl) <|
  mc_1 (mk_p (ms_get (idx := 32) (w := 390) (host := none) mx_c2 (by decide) ml_f_LeagueOffice_Failures_32 (by decide +kernel)) rfl) <|
  mc_1 (mk_p (ms_get (idx := 56) (w := 145) (host := (some "LeagueOffice")) mx_c0 (by decide) ml_f_LeagueOffice_Failures_56 (by decide +kernel)) rfl) <| mc_0
theorem mw_29_3 : ∀ e ∈ mt_29_3, mx_Ok mx_MT mq_29 e.1 e.2 := 
  mc_1 (mk_p (ms_iload_n (k := 1) (by decide +kernel) rfl) rfl) <|
  mc_1 (mk_p (ms_iconst (n := 3) (by decide +kernel) (by decide +kernel)) rfl) <|
  mc_1 (mk_c (k := mq_69) rfl ⟨mo_69, 44, 1068, none, ml_m_LeagueOffice_Failures_44, Or.inr (Or.inr (Or.inl ⟨6, TX6, 2, by decide, rfl, rfl, (by decide +kernel), ⟨2, rfl, mx_npd (by decide +kernel)⟩, ml_in_665, ml_se_666⟩))⟩) <|
  mc_1 (mk_p (ms_aload_n (k := 0) (by decide +kernel) rfl) rfl) <|
  mc_1 (mk_p (ms_get (idx := 32) (w := 390) (host := none) mx_c2 (by decide) ml_f_LeagueOffice_Failures_32 (by decide +kernel)) rfl) <|
  mc_1 (mk_p (ms_get (idx := 84) (w := 153) (host := (some "LeagueOffice")) mx_c0 (by decide) ml_f_LeagueOffice_Failures_84 (by decide +kernel)) rfl) <|
  mc_1 (mk_p (ms_iload_n (k := 1) (by decide +kernel) rfl) rfl) <|
  mc_1 (mk_p (ms_iload_n (k := 3) (by decide +kernel) rfl) rfl) <|
  mc_1 (mk_c (k := mq_69) rfl ⟨mo_69, 44, 1068, none, ml_m_LeagueOffice_Failures_44, Or.inr (Or.inr (Or.inl ⟨6, TX6, 2, by decide, rfl, rfl, (by decide +kernel), ⟨2, rfl, mx_npd (by decide +kernel)⟩, ml_in_665, ml_se_666⟩))⟩) <| mc_0
theorem mw_29_4 : ∀ e ∈ mt_29_4, mx_Ok mx_MT mq_29 e.1 e.2 := 
  mc_1 (mk_p (ms_aload_n (k := 0) (by decide +kernel) rfl) rfl) <|
  mc_1 (mk_p (ms_get (idx := 32) (w := 390) (host := none) mx_c2 (by decide) ml_f_LeagueOffice_Failures_32 (by decide +kernel)) rfl) <|
  mc_1 (mk_p (ms_get (idx := 87) (w := 160) (host := (some "LeagueOffice")) mx_c0 (by decide) ml_f_LeagueOffice_Failures_87 (by decide +kernel)) rfl) <|
  mc_1 (mk_p (ms_iload_n (k := 1) (by decide +kernel) rfl) rfl) <|
  mc_1 (mk_p (ms_iload_n (k := 2) (by decide +kernel) rfl) rfl) <|
  mc_1 (mk_c (k := mq_69) rfl ⟨mo_69, 44, 1068, none, ml_m_LeagueOffice_Failures_44, Or.inr (Or.inr (Or.inl ⟨6, TX6, 2, by decide, rfl, rfl, (by decide +kernel), ⟨2, rfl, mx_npd (by decide +kernel)⟩, ml_in_665, ml_se_666⟩))⟩) <|
  mc_1 (mk_r (Or.inr (Or.inr (Or.inr ⟨rfl, by decide +kernel, rfl⟩))) rfl) <| mc_0
theorem mw_29 : ∀ ch ∈ mt_29, ∀ e ∈ ch, mx_Ok mx_MT mq_29 e.1 e.2 := mc_2 mw_29_0 <| mc_2 mw_29_1 <| mc_2 mw_29_2 <| mc_2 mw_29_3 <| mc_2 mw_29_4 <| mc_3
/- 30 LeagueOffice$Failures.hasChanged(II)Z -/
theorem mw_30_0 : ∀ e ∈ mt_30_0, mx_Ok mx_MT mq_30 e.1 e.2 := 
  mc_1 (mk_p (ms_aload_n (k := 0) (by decide +kernel) rfl) rfl) <|
  mc_1 (mk_p (ms_get (idx := 23) (w := 394) (host := none) mx_c2 (by decide) ml_f_LeagueOffice_Failures_23 (by decide +kernel)) rfl) <|
  mc_1 (mk_p (ms_iload_n (k := 1) (by decide +kernel) rfl) rfl) <|
  mc_1 (mk_p (ms_bipush (n := 60) (by decide +kernel) (by decide +kernel)) rfl) <|
  mc_1 (mk_p (ms_imul (by decide +kernel)) rfl) <|
  mc_1 (mk_p (ms_iload_n (k := 2) (by decide +kernel) rfl) rfl) <|
  mc_1 (mk_p (ms_iadd (by decide +kernel)) rfl) <|
  mc_1 (mk_c (k := mq_68) rfl ⟨mo_68, 36, 1063, none, ml_m_LeagueOffice_Failures_36, Or.inr (Or.inr (Or.inl ⟨6, TX6, 2, by decide, rfl, rfl, (by decide +kernel), ⟨1, rfl, mx_npd (by decide +kernel)⟩, ml_in_591, ml_se_592⟩))⟩) <|
  mc_1 (mk_p (ms_iconst (n := (-1)) (by decide +kernel) (by decide +kernel)) rfl) <|
  mc_1 (mk_p (ms_icmp_eq (off := (7)) (by decide +kernel) (by decide)) rfl) <| mc_0
theorem mw_30_1 : ∀ e ∈ mt_30_1, mx_Ok mx_MT mq_30 e.1 e.2 := 
  mc_1 (mk_p (ms_iconst (n := 1) (by decide +kernel) (by decide +kernel)) rfl) <|
  mc_1 (mk_p (ms_goto (off := (4)) (by decide +kernel) (by decide)) rfl) <|
  mc_1 (mk_p (ms_iconst (n := 0) (by decide +kernel) (by decide +kernel)) rfl) <|
  mc_1 (mk_r (Or.inl ⟨rfl, by decide +kernel, _, rfl, mf_2⟩) rfl) <| mc_0
theorem mw_30 : ∀ ch ∈ mt_30, ∀ e ∈ ch, mx_Ok mx_MT mq_30 e.1 e.2 := mc_2 mw_30_0 <| mc_2 mw_30_1 <| mc_3
/- 31 LeagueOffice$Failures.canGoBack(I)Z -/
theorem mw_31_0 : ∀ e ∈ mt_31_0, mx_Ok mx_MT mq_31 e.1 e.2 := 
  mc_1 (mk_p (ms_aload_n (k := 0) (by decide +kernel) rfl) rfl) <|
  mc_1 (mk_p (ms_iload_n (k := 1) (by decide +kernel) rfl) rfl) <|
  mc_1 (mk_c (k := mq_25) rfl ⟨mo_25, 90, 1093, none, ml_m_LeagueOffice_Failures_90, Or.inr (Or.inr (Or.inl ⟨2, TX2, 7, by decide, rfl, rfl, (by decide +kernel), ⟨1, rfl, mx_npd (by decide +kernel)⟩, ml_in_1060, ml_se_1061⟩))⟩) <|
  mc_1 (mk_p (ms_if_ne (off := (5)) (by decide +kernel) (by decide)) rfl) <|
  mc_1 (mk_p (ms_iconst (n := 0) (by decide +kernel) (by decide +kernel)) rfl) <|
  mc_1 (mk_r (Or.inl ⟨rfl, by decide +kernel, _, rfl, mf_2⟩) rfl) <|
  mc_1 (mk_p (ms_iconst (n := 0) (by decide +kernel) (by decide +kernel)) rfl) <|
  mc_1 (mk_p (ms_istore_n (k := 2) (by decide +kernel) rfl (by decide)) rfl) <|
  mc_1 (mk_p (ms_iload_n (k := 2) (by decide +kernel) rfl) rfl) <|
  mc_1 (mk_p (ms_aload_n (k := 0) (by decide +kernel) rfl) rfl) <|
  mc_1 (mk_p (ms_get (idx := 32) (w := 390) (host := none) mx_c2 (by decide) ml_f_LeagueOffice_Failures_32 (by decide +kernel)) rfl) <| mc_0
theorem mw_31_1 : ∀ e ∈ mt_31_1, mx_Ok mx_MT mq_31 e.1 e.2 := 
  mc_1 (mk_p (ms_get (idx := 56) (w := 145) (host := (some "LeagueOffice")) mx_c0 (by decide) ml_f_LeagueOffice_Failures_56 (by decide +kernel)) rfl) <|
  mc_1 (mk_c (k := mq_65) rfl ⟨mo_65, 59, 1070, none, ml_m_LeagueOffice_Failures_59, Or.inr (Or.inr (Or.inl ⟨6, TX6, 2, by decide, rfl, rfl, (by decide +kernel), ⟨0, rfl, mx_npd (by decide +kernel)⟩, ml_in_587, ml_se_588⟩))⟩) <|
  mc_1 (mk_p (ms_icmp_ge (off := (39)) (by decide +kernel) (by decide)) rfl) <|
  mc_1 (mk_p (ms_aload_n (k := 0) (by decide +kernel) rfl) rfl) <|
  mc_1 (mk_p (ms_iload_n (k := 1) (by decide +kernel) rfl) rfl) <|
  mc_1 (mk_p (ms_iload_n (k := 2) (by decide +kernel) rfl) rfl) <|
  mc_1 (mk_c (k := mq_30) rfl ⟨mo_30, 93, 1094, none, ml_m_LeagueOffice_Failures_93, Or.inr (Or.inr (Or.inl ⟨2, TX2, 7, by decide, rfl, rfl, (by decide +kernel), ⟨2, rfl, mx_npd (by decide +kernel)⟩, ml_in_1096, ml_se_20⟩))⟩) <| mc_0
theorem mw_31_2 : ∀ e ∈ mt_31_2, mx_Ok mx_MT mq_31 e.1 e.2 := 
  mc_1 (mk_p (ms_if_eq (off := (24)) (by decide +kernel) (by decide)) rfl) <|
  mc_1 (mk_p (ms_aload_n (k := 0) (by decide +kernel) rfl) rfl) <|
  mc_1 (mk_p (ms_get (idx := 20) (w := 393) (host := none) mx_c2 (by decide) ml_f_LeagueOffice_Failures_20 (by decide +kernel)) rfl) <|
  mc_1 (mk_p (ms_iload_n (k := 2) (by decide +kernel) rfl) rfl) <|
  mc_1 (mk_c (k := mq_68) rfl ⟨mo_68, 36, 1063, none, ml_m_LeagueOffice_Failures_36, Or.inr (Or.inr (Or.inl ⟨6, TX6, 2, by decide, rfl, rfl, (by decide +kernel), ⟨1, rfl, mx_npd (by decide +kernel)⟩, ml_in_591, ml_se_592⟩))⟩) <|
  mc_1 (mk_p (ms_aload_n (k := 0) (by decide +kernel) rfl) rfl) <|
  mc_1 (mk_p (ms_get (idx := 14) (w := 392) (host := none) mx_c2 (by decide) ml_f_LeagueOffice_Failures_14 (by decide +kernel)) rfl) <|
  mc_1 (mk_p (ms_iload_n (k := 1) (by decide +kernel) rfl) rfl) <| mc_0
theorem mw_31_3 : ∀ e ∈ mt_31_3, mx_Ok mx_MT mq_31 e.1 e.2 := 
  mc_1 (mk_c (k := mq_68) rfl ⟨mo_68, 36, 1063, none, ml_m_LeagueOffice_Failures_36, Or.inr (Or.inr (Or.inl ⟨6, TX6, 2, by decide, rfl, rfl, (by decide +kernel), ⟨1, rfl, mx_npd (by decide +kernel)⟩, ml_in_591, ml_se_592⟩))⟩) <|
  mc_1 (mk_p (ms_icmp_eq (off := (5)) (by decide +kernel) (by decide)) rfl) <|
  mc_1 (mk_p (ms_iconst (n := 0) (by decide +kernel) (by decide +kernel)) rfl) <|
  mc_1 (mk_r (Or.inl ⟨rfl, by decide +kernel, _, rfl, mf_2⟩) rfl) <|
  mc_1 (mk_p (ms_iinc (n := (1)) (by decide +kernel) (by decide +kernel) (by decide)) rfl) <|
  mc_1 (mk_p (ms_goto (off := (-47)) (by decide +kernel) (by decide)) rfl) <|
  mc_1 (mk_p (ms_iconst (n := 1) (by decide +kernel) (by decide +kernel)) rfl) <|
  mc_1 (mk_r (Or.inl ⟨rfl, by decide +kernel, _, rfl, mf_2⟩) rfl) <| mc_0
theorem mw_31 : ∀ ch ∈ mt_31, ∀ e ∈ ch, mx_Ok mx_MT mq_31 e.1 e.2 := mc_2 mw_31_0 <| mc_2 mw_31_1 <| mc_2 mw_31_2 <| mc_2 mw_31_3 <| mc_3
/- 32 LeagueOffice$Failures.goBack(I)I -/
theorem mw_32_0 : ∀ e ∈ mt_32_0, mx_Ok mx_MT mq_32 e.1 e.2 := 
  mc_1 (mk_p (ms_iconst (n := 0) (by decide +kernel) (by decide +kernel)) rfl) <|
  mc_1 (mk_p (ms_istore_n (k := 2) (by decide +kernel) rfl (by decide)) rfl) <|
  mc_1 (mk_p (ms_iconst (n := 0) (by decide +kernel) (by decide +kernel)) rfl) <|
  mc_1 (mk_p (ms_istore_n (k := 3) (by decide +kernel) rfl (by decide)) rfl) <|
  mc_1 (mk_p (ms_iload_n (k := 3) (by decide +kernel) rfl) rfl) <|
  mc_1 (mk_p (ms_aload_n (k := 0) (by decide +kernel) rfl) rfl) <|
  mc_1 (mk_p (ms_get (idx := 32) (w := 390) (host := none) mx_c2 (by decide) ml_f_LeagueOffice_Failures_32 (by decide +kernel)) rfl) <|
  mc_1 (mk_p (ms_get (idx := 56) (w := 145) (host := (some "LeagueOffice")) mx_c0 (by decide) ml_f_LeagueOffice_Failures_56 (by decide +kernel)) rfl) <|
  mc_1 (mk_c (k := mq_65) rfl ⟨mo_65, 59, 1070, none, ml_m_LeagueOffice_Failures_59, Or.inr (Or.inr (Or.inl ⟨6, TX6, 2, by decide, rfl, rfl, (by decide +kernel), ⟨0, rfl, mx_npd (by decide +kernel)⟩, ml_in_587, ml_se_588⟩))⟩) <|
  mc_1 (mk_p (ms_icmp_ge (off := (96)) (by decide +kernel) (by decide)) rfl) <| mc_0
theorem mw_32_1 : ∀ e ∈ mt_32_1, mx_Ok mx_MT mq_32 e.1 e.2 := 
  mc_1 (mk_p (ms_aload_n (k := 0) (by decide +kernel) rfl) rfl) <|
  mc_1 (mk_p (ms_iload_n (k := 1) (by decide +kernel) rfl) rfl) <|
  mc_1 (mk_p (ms_iload_n (k := 3) (by decide +kernel) rfl) rfl) <|
  mc_1 (mk_c (k := mq_30) rfl ⟨mo_30, 93, 1094, none, ml_m_LeagueOffice_Failures_93, Or.inr (Or.inr (Or.inl ⟨2, TX2, 7, by decide, rfl, rfl, (by decide +kernel), ⟨2, rfl, mx_npd (by decide +kernel)⟩, ml_in_1096, ml_se_20⟩))⟩) <|
  mc_1 (mk_p (ms_if_ne (off := (6)) (by decide +kernel) (by decide)) rfl) <|
  mc_1 (mk_p (ms_goto (off := (78)) (by decide +kernel) (by decide)) rfl) <|
  mc_1 (mk_p (ms_aload_n (k := 0) (by decide +kernel) rfl) rfl) <|
  mc_1 (mk_p (ms_get (idx := 32) (w := 390) (host := none) mx_c2 (by decide) ml_f_LeagueOffice_Failures_32 (by decide +kernel)) rfl) <| mc_0
theorem mw_32_2 : ∀ e ∈ mt_32_2, mx_Ok mx_MT mq_32 e.1 e.2 := 
  mc_1 (mk_p (ms_get (idx := 56) (w := 145) (host := (some "LeagueOffice")) mx_c0 (by decide) ml_f_LeagueOffice_Failures_56 (by decide +kernel)) rfl) <|
  mc_1 (mk_p (ms_iload_n (k := 3) (by decide +kernel) rfl) rfl) <|
  mc_1 (mk_p (ms_aload_n (k := 0) (by decide +kernel) rfl) rfl) <|
  mc_1 (mk_p (ms_get (idx := 23) (w := 394) (host := none) mx_c2 (by decide) ml_f_LeagueOffice_Failures_23 (by decide +kernel)) rfl) <|
  mc_1 (mk_p (ms_iload_n (k := 1) (by decide +kernel) rfl) rfl) <|
  mc_1 (mk_p (ms_bipush (n := 60) (by decide +kernel) (by decide +kernel)) rfl) <|
  mc_1 (mk_p (ms_imul (by decide +kernel)) rfl) <|
  mc_1 (mk_p (ms_iload_n (k := 3) (by decide +kernel) rfl) rfl) <|
  mc_1 (mk_p (ms_iadd (by decide +kernel)) rfl) <| mc_0
theorem mw_32_3 : ∀ e ∈ mt_32_3, mx_Ok mx_MT mq_32 e.1 e.2 := 
  mc_1 (mk_c (k := mq_68) rfl ⟨mo_68, 36, 1063, none, ml_m_LeagueOffice_Failures_36, Or.inr (Or.inr (Or.inl ⟨6, TX6, 2, by decide, rfl, rfl, (by decide +kernel), ⟨1, rfl, mx_npd (by decide +kernel)⟩, ml_in_591, ml_se_592⟩))⟩) <|
  mc_1 (mk_c (k := mq_69) rfl ⟨mo_69, 44, 1068, none, ml_m_LeagueOffice_Failures_44, Or.inr (Or.inr (Or.inl ⟨6, TX6, 2, by decide, rfl, rfl, (by decide +kernel), ⟨2, rfl, mx_npd (by decide +kernel)⟩, ml_in_665, ml_se_666⟩))⟩) <|
  mc_1 (mk_p (ms_aload_n (k := 0) (by decide +kernel) rfl) rfl) <|
  mc_1 (mk_p (ms_get (idx := 32) (w := 390) (host := none) mx_c2 (by decide) ml_f_LeagueOffice_Failures_32 (by decide +kernel)) rfl) <|
  mc_1 (mk_p (ms_get (idx := 84) (w := 153) (host := (some "LeagueOffice")) mx_c0 (by decide) ml_f_LeagueOffice_Failures_84 (by decide +kernel)) rfl) <|
  mc_1 (mk_p (ms_iload_n (k := 3) (by decide +kernel) rfl) rfl) <|
  mc_1 (mk_p (ms_aload_n (k := 0) (by decide +kernel) rfl) rfl) <|
  mc_1 (mk_p (ms_get (idx := 26) (w := 395) (host := none) mx_c2 (by decide) ml_f_LeagueOffice_Failures_26 (by decide +kernel)) rfl) <| mc_0
theorem mw_32_4 : ∀ e ∈ mt_32_4, mx_Ok mx_MT mq_32 e.1 e.2 := 
  mc_1 (mk_p (ms_iload_n (k := 1) (by decide +kernel) rfl) rfl) <|
  mc_1 (mk_p (ms_bipush (n := 60) (by decide +kernel) (by decide +kernel)) rfl) <|
  mc_1 (mk_p (ms_imul (by decide +kernel)) rfl) <|
  mc_1 (mk_p (ms_iload_n (k := 3) (by decide +kernel) rfl) rfl) <|
  mc_1 (mk_p (ms_iadd (by decide +kernel)) rfl) <|
  mc_1 (mk_c (k := mq_68) rfl ⟨mo_68, 36, 1063, none, ml_m_LeagueOffice_Failures_36, Or.inr (Or.inr (Or.inl ⟨6, TX6, 2, by decide, rfl, rfl, (by decide +kernel), ⟨1, rfl, mx_npd (by decide +kernel)⟩, ml_in_591, ml_se_592⟩))⟩) <|
  mc_1 (mk_c (k := mq_69) rfl ⟨mo_69, 44, 1068, none, ml_m_LeagueOffice_Failures_44, Or.inr (Or.inr (Or.inl ⟨6, TX6, 2, by decide, rfl, rfl, (by decide +kernel), ⟨2, rfl, mx_npd (by decide +kernel)⟩, ml_in_665, ml_se_666⟩))⟩) <|
  mc_1 (mk_p (ms_aload_n (k := 0) (by decide +kernel) rfl) rfl) <|
  mc_1 (mk_p (ms_get (idx := 32) (w := 390) (host := none) mx_c2 (by decide) ml_f_LeagueOffice_Failures_32 (by decide +kernel)) rfl) <| mc_0
theorem mw_32_5 : ∀ e ∈ mt_32_5, mx_Ok mx_MT mq_32 e.1 e.2 := 
  mc_1 (mk_p (ms_get (idx := 87) (w := 160) (host := (some "LeagueOffice")) mx_c0 (by decide) ml_f_LeagueOffice_Failures_87 (by decide +kernel)) rfl) <|
  mc_1 (mk_p (ms_iload_n (k := 3) (by decide +kernel) rfl) rfl) <|
  mc_1 (mk_p (ms_aload_n (k := 0) (by decide +kernel) rfl) rfl) <|
  mc_1 (mk_p (ms_get (idx := 29) (w := 396) (host := none) mx_c2 (by decide) ml_f_LeagueOffice_Failures_29 (by decide +kernel)) rfl) <|
  mc_1 (mk_p (ms_iload_n (k := 1) (by decide +kernel) rfl) rfl) <|
  mc_1 (mk_p (ms_bipush (n := 60) (by decide +kernel) (by decide +kernel)) rfl) <|
  mc_1 (mk_p (ms_imul (by decide +kernel)) rfl) <|
  mc_1 (mk_p (ms_iload_n (k := 3) (by decide +kernel) rfl) rfl) <|
  mc_1 (mk_p (ms_iadd (by decide +kernel)) rfl) <| mc_0
theorem mw_32_6 : ∀ e ∈ mt_32_6, mx_Ok mx_MT mq_32 e.1 e.2 := 
  mc_1 (mk_c (k := mq_68) rfl ⟨mo_68, 36, 1063, none, ml_m_LeagueOffice_Failures_36, Or.inr (Or.inr (Or.inl ⟨6, TX6, 2, by decide, rfl, rfl, (by decide +kernel), ⟨1, rfl, mx_npd (by decide +kernel)⟩, ml_in_591, ml_se_592⟩))⟩) <|
  mc_1 (mk_c (k := mq_69) rfl ⟨mo_69, 44, 1068, none, ml_m_LeagueOffice_Failures_44, Or.inr (Or.inr (Or.inl ⟨6, TX6, 2, by decide, rfl, rfl, (by decide +kernel), ⟨2, rfl, mx_npd (by decide +kernel)⟩, ml_in_665, ml_se_666⟩))⟩) <|
  mc_1 (mk_p (ms_iinc (n := (1)) (by decide +kernel) (by decide +kernel) (by decide)) rfl) <|
  mc_1 (mk_p (ms_iinc (n := (1)) (by decide +kernel) (by decide +kernel) (by decide)) rfl) <|
  mc_1 (mk_p (ms_goto (off := (-104)) (by decide +kernel) (by decide)) rfl) <|
  mc_1 (mk_p (ms_aload_n (k := 0) (by decide +kernel) rfl) rfl) <| mc_0
theorem mw_32_7 : ∀ e ∈ mt_32_7, mx_Ok mx_MT mq_32 e.1 e.2 := 
  mc_1 (mk_p (ms_get (idx := 14) (w := 392) (host := none) mx_c2 (by decide) ml_f_LeagueOffice_Failures_14 (by decide +kernel)) rfl) <|
  mc_1 (mk_p (ms_iload_n (k := 1) (by decide +kernel) rfl) rfl) <|
  mc_1 (mk_p (ms_iconst (n := 0) (by decide +kernel) (by decide +kernel)) rfl) <|
  mc_1 (mk_c (k := mq_69) rfl ⟨mo_69, 44, 1068, none, ml_m_LeagueOffice_Failures_44, Or.inr (Or.inr (Or.inl ⟨6, TX6, 2, by decide, rfl, rfl, (by decide +kernel), ⟨2, rfl, mx_npd (by decide +kernel)⟩, ml_in_665, ml_se_666⟩))⟩) <|
  mc_1 (mk_p (ms_iload_n (k := 2) (by decide +kernel) rfl) rfl) <|
  mc_1 (mk_r (Or.inl ⟨rfl, by decide +kernel, _, rfl, mf_0⟩) rfl) <| mc_0
theorem mw_32 : ∀ ch ∈ mt_32, ∀ e ∈ ch, mx_Ok mx_MT mq_32 e.1 e.2 := mc_2 mw_32_0 <| mc_2 mw_32_1 <| mc_2 mw_32_2 <| mc_2 mw_32_3 <| mc_2 mw_32_4 <| mc_2 mw_32_5 <| mc_2 mw_32_6 <| mc_2 mw_32_7 <| mc_3
/- 33 LeagueOffice$Plan.<init>(LLeagueOffice$Book;)V -/
theorem mw_33_0 : ∀ e ∈ mt_33_0, mx_Ok mx_MT mq_33 e.1 e.2 := 
  mc_1 (mk_p (ms_aload_n (k := 0) (by decide +kernel) rfl) rfl) <|
  mc_1 (mk_p (ms_obj (idx := 3) 474 103 104 (by decide +kernel) (by decide +kernel) (by decide +kernel) (by decide +kernel)) rfl) <|
  mc_1 (mk_p (ms_aload_n (k := 0) (by decide +kernel) rfl) rfl) <|
  mc_1 (mk_p (mn_6 (idx := 9) 475 (by decide +kernel) (by decide +kernel)) rfl) <|
  mc_1 (mk_p (ms_dup (by decide +kernel)) rfl) <|
  mc_1 (mk_p (ms_bipush (n := 6) (by decide +kernel) (by decide +kernel)) rfl) <|
  mc_1 (mk_c (k := mq_64) rfl ⟨mo_64, 11, 476, none, ml_m_LeagueOffice_Plan_11, Or.inr (Or.inl ⟨rfl, (by decide +kernel), ⟨1, rfl, mx_npd (by decide +kernel)⟩, ml_in_114, rfl, rfl⟩)⟩) <|
  mc_1 (mk_p (ms_putF (idx := 14) (w := 478) mx_c3 (by decide) ml_f_LeagueOffice_Plan_14 rfl rfl rfl rfl (by decide +kernel)) rfl) <| mc_0
theorem mw_33_1 : ∀ e ∈ mt_33_1, mx_Ok mx_MT mq_33 e.1 e.2 := 
  mc_1 (mk_p (ms_aload_n (k := 0) (by decide +kernel) rfl) rfl) <|
  mc_1 (mk_p (mn_6 (idx := 9) 475 (by decide +kernel) (by decide +kernel)) rfl) <|
  mc_1 (mk_p (ms_dup (by decide +kernel)) rfl) <|
  mc_1 (mk_p (ms_bipush (n := 6) (by decide +kernel) (by decide +kernel)) rfl) <|
  mc_1 (mk_c (k := mq_64) rfl ⟨mo_64, 11, 476, none, ml_m_LeagueOffice_Plan_11, Or.inr (Or.inl ⟨rfl, (by decide +kernel), ⟨1, rfl, mx_npd (by decide +kernel)⟩, ml_in_114, rfl, rfl⟩)⟩) <|
  mc_1 (mk_p (ms_putF (idx := 20) (w := 480) mx_c3 (by decide) ml_f_LeagueOffice_Plan_20 rfl rfl rfl rfl (by decide +kernel)) rfl) <|
  mc_1 (mk_p (ms_aload_n (k := 0) (by decide +kernel) rfl) rfl) <|
  mc_1 (mk_p (mn_6 (idx := 9) 475 (by decide +kernel) (by decide +kernel)) rfl) <| mc_0
theorem mw_33_2 : ∀ e ∈ mt_33_2, mx_Ok mx_MT mq_33 e.1 e.2 := 
  mc_1 (mk_p (ms_dup (by decide +kernel)) rfl) <|
  mc_1 (mk_p (ms_bipush (n := 12) (by decide +kernel) (by decide +kernel)) rfl) <|
  mc_1 (mk_c (k := mq_64) rfl ⟨mo_64, 11, 476, none, ml_m_LeagueOffice_Plan_11, Or.inr (Or.inl ⟨rfl, (by decide +kernel), ⟨1, rfl, mx_npd (by decide +kernel)⟩, ml_in_114, rfl, rfl⟩)⟩) <|
  mc_1 (mk_p (ms_putF (idx := 23) (w := 481) mx_c3 (by decide) ml_f_LeagueOffice_Plan_23 rfl rfl rfl rfl (by decide +kernel)) rfl) <|
  mc_1 (mk_p (ms_aload_n (k := 0) (by decide +kernel) rfl) rfl) <|
  mc_1 (mk_p (ms_aload_n (k := 1) (by decide +kernel) rfl) rfl) <|
  mc_1 (mk_p (ms_putF (idx := 26) (w := 477) mx_c3 (by decide) ml_f_LeagueOffice_Plan_26 rfl rfl rfl rfl (by decide +kernel)) rfl) <| mc_0
theorem mw_33_3 : ∀ e ∈ mt_33_3, mx_Ok mx_MT mq_33 e.1 e.2 := 
  mc_1 (mk_r (Or.inr (Or.inr (Or.inr ⟨rfl, by decide +kernel, rfl⟩))) rfl) <| mc_0
theorem mw_33 : ∀ ch ∈ mt_33, ∀ e ∈ ch, mx_Ok mx_MT mq_33 e.1 e.2 := mc_2 mw_33_0 <| mc_2 mw_33_1 <| mc_2 mw_33_2 <| mc_2 mw_33_3 <| mc_3
/- 34 LeagueOffice$Plan.forget()I -/
theorem mw_34_0 : ∀ e ∈ mt_34_0, mx_Ok mx_MT mq_34 e.1 e.2 := 
  mc_1 (mk_p (ms_aload_n (k := 0) (by decide +kernel) rfl) rfl) <|
  mc_1 (mk_p (ms_get (idx := 14) (w := 478) (host := none) mx_c3 (by decide) ml_f_LeagueOffice_Plan_14 (by decide +kernel)) rfl) <|
  mc_1 (mk_c (k := mq_75) rfl ⟨mo_75, 30, 1220, none, ml_m_LeagueOffice_Plan_30, Or.inr (Or.inr (Or.inl ⟨6, TX6, 2, by decide, rfl, rfl, (by decide +kernel), ⟨0, rfl, mx_npd (by decide +kernel)⟩, ml_in_579, ml_se_580⟩))⟩) <|
  mc_1 (mk_p (ms_aload_n (k := 0) (by decide +kernel) rfl) rfl) <|
  mc_1 (mk_p (ms_get (idx := 20) (w := 480) (host := none) mx_c3 (by decide) ml_f_LeagueOffice_Plan_20 (by decide +kernel)) rfl) <|
  mc_1 (mk_c (k := mq_75) rfl ⟨mo_75, 30, 1220, none, ml_m_LeagueOffice_Plan_30, Or.inr (Or.inr (Or.inl ⟨6, TX6, 2, by decide, rfl, rfl, (by decide +kernel), ⟨0, rfl, mx_npd (by decide +kernel)⟩, ml_in_579, ml_se_580⟩))⟩) <|
  mc_1 (mk_p (ms_iconst (n := 0) (by decide +kernel) (by decide +kernel)) rfl) <|
  mc_1 (mk_r (Or.inl ⟨rfl, by decide +kernel, _, rfl, mf_0⟩) rfl) <| mc_0
theorem mw_34 : ∀ ch ∈ mt_34, ∀ e ∈ ch, mx_Ok mx_MT mq_34 e.1 e.2 := mc_2 mw_34_0 <| mc_3
/- 35 LeagueOffice$Plan.hasMeeting(I)Z -/
theorem mw_35_0 : ∀ e ∈ mt_35_0, mx_Ok mx_MT mq_35 e.1 e.2 := 
  mc_1 (mk_p (ms_iconst (n := 0) (by decide +kernel) (by decide +kernel)) rfl) <|
  mc_1 (mk_p (ms_istore_n (k := 2) (by decide +kernel) rfl (by decide)) rfl) <|
  mc_1 (mk_p (ms_iload_n (k := 2) (by decide +kernel) rfl) rfl) <|
  mc_1 (mk_p (ms_aload_n (k := 0) (by decide +kernel) rfl) rfl) <|
  mc_1 (mk_p (ms_get (idx := 14) (w := 478) (host := none) mx_c3 (by decide) ml_f_LeagueOffice_Plan_14 (by decide +kernel)) rfl) <|
  mc_1 (mk_c (k := mq_65) rfl ⟨mo_65, 33, 1225, none, ml_m_LeagueOffice_Plan_33, Or.inr (Or.inr (Or.inl ⟨6, TX6, 2, by decide, rfl, rfl, (by decide +kernel), ⟨0, rfl, mx_npd (by decide +kernel)⟩, ml_in_587, ml_se_588⟩))⟩) <|
  mc_1 (mk_p (ms_icmp_ge (off := (35)) (by decide +kernel) (by decide)) rfl) <|
  mc_1 (mk_p (ms_aload_n (k := 0) (by decide +kernel) rfl) rfl) <|
  mc_1 (mk_p (ms_get (idx := 14) (w := 478) (host := none) mx_c3 (by decide) ml_f_LeagueOffice_Plan_14 (by decide +kernel)) rfl) <| mc_0
theorem mw_35_1 : ∀ e ∈ mt_35_1, mx_Ok mx_MT mq_35 e.1 e.2 := 
  mc_1 (mk_p (ms_iload_n (k := 2) (by decide +kernel) rfl) rfl) <|
  mc_1 (mk_c (k := mq_68) rfl ⟨mo_68, 37, 1226, none, ml_m_LeagueOffice_Plan_37, Or.inr (Or.inr (Or.inl ⟨6, TX6, 2, by decide, rfl, rfl, (by decide +kernel), ⟨1, rfl, mx_npd (by decide +kernel)⟩, ml_in_591, ml_se_592⟩))⟩) <|
  mc_1 (mk_p (ms_iload_n (k := 1) (by decide +kernel) rfl) rfl) <|
  mc_1 (mk_p (ms_icmp_eq (off := (15)) (by decide +kernel) (by decide)) rfl) <|
  mc_1 (mk_p (ms_aload_n (k := 0) (by decide +kernel) rfl) rfl) <|
  mc_1 (mk_p (ms_get (idx := 20) (w := 480) (host := none) mx_c3 (by decide) ml_f_LeagueOffice_Plan_20 (by decide +kernel)) rfl) <|
  mc_1 (mk_p (ms_iload_n (k := 2) (by decide +kernel) rfl) rfl) <|
  mc_1 (mk_c (k := mq_68) rfl ⟨mo_68, 37, 1226, none, ml_m_LeagueOffice_Plan_37, Or.inr (Or.inr (Or.inl ⟨6, TX6, 2, by decide, rfl, rfl, (by decide +kernel), ⟨1, rfl, mx_npd (by decide +kernel)⟩, ml_in_591, ml_se_592⟩))⟩) <| mc_0
theorem mw_35_2 : ∀ e ∈ mt_35_2, mx_Ok mx_MT mq_35 e.1 e.2 := 
  mc_1 (mk_p (ms_iload_n (k := 1) (by decide +kernel) rfl) rfl) <|
  mc_1 (mk_p (ms_icmp_ne (off := (5)) (by decide +kernel) (by decide)) rfl) <|
  mc_1 (mk_p (ms_iconst (n := 1) (by decide +kernel) (by decide +kernel)) rfl) <|
  mc_1 (mk_r (Or.inl ⟨rfl, by decide +kernel, _, rfl, mf_2⟩) rfl) <|
  mc_1 (mk_p (ms_iinc (n := (1)) (by decide +kernel) (by decide +kernel) (by decide)) rfl) <|
  mc_1 (mk_p (ms_goto (off := (-40)) (by decide +kernel) (by decide)) rfl) <|
  mc_1 (mk_p (ms_iconst (n := 0) (by decide +kernel) (by decide +kernel)) rfl) <|
  mc_1 (mk_r (Or.inl ⟨rfl, by decide +kernel, _, rfl, mf_2⟩) rfl) <| mc_0
theorem mw_35 : ∀ ch ∈ mt_35, ∀ e ∈ ch, mx_Ok mx_MT mq_35 e.1 e.2 := mc_2 mw_35_0 <| mc_2 mw_35_1 <| mc_2 mw_35_2 <| mc_3
/- 36 LeagueOffice$Plan.add(II)I -/
theorem mw_36_0 : ∀ e ∈ mt_36_0, mx_Ok mx_MT mq_36 e.1 e.2 := 
  mc_1 (mk_p (ms_aload_n (k := 0) (by decide +kernel) rfl) rfl) <|
  mc_1 (mk_p (ms_get (idx := 20) (w := 480) (host := none) mx_c3 (by decide) ml_f_LeagueOffice_Plan_20 (by decide +kernel)) rfl) <|
  mc_1 (mk_p (ms_iload_n (k := 2) (by decide +kernel) rfl) rfl) <|
  mc_1 (mk_c (k := mq_71) rfl ⟨mo_71, 41, 1231, none, ml_m_LeagueOffice_Plan_41, Or.inr (Or.inr (Or.inl ⟨6, TX6, 2, by decide, rfl, rfl, (by decide +kernel), ⟨1, rfl, mx_npd (by decide +kernel)⟩, ml_in_567, ml_se_568⟩))⟩) <|
  mc_1 (mk_p (ms_pop (by decide +kernel)) rfl) <|
  mc_1 (mk_p (ms_aload_n (k := 0) (by decide +kernel) rfl) rfl) <|
  mc_1 (mk_p (ms_get (idx := 14) (w := 478) (host := none) mx_c3 (by decide) ml_f_LeagueOffice_Plan_14 (by decide +kernel)) rfl) <|
  mc_1 (mk_p (ms_iload_n (k := 1) (by decide +kernel) rfl) rfl) <|
  mc_1 (mk_c (k := mq_71) rfl ⟨mo_71, 41, 1231, none, ml_m_LeagueOffice_Plan_41, Or.inr (Or.inr (Or.inl ⟨6, TX6, 2, by decide, rfl, rfl, (by decide +kernel), ⟨1, rfl, mx_npd (by decide +kernel)⟩, ml_in_567, ml_se_568⟩))⟩) <| mc_0
theorem mw_36_1 : ∀ e ∈ mt_36_1, mx_Ok mx_MT mq_36 e.1 e.2 := 
  mc_1 (mk_r (Or.inl ⟨rfl, by decide +kernel, _, rfl, mf_0⟩) rfl) <| mc_0
theorem mw_36 : ∀ ch ∈ mt_36, ∀ e ∈ ch, mx_Ok mx_MT mq_36 e.1 e.2 := mc_2 mw_36_0 <| mc_2 mw_36_1 <| mc_3
/- 37 LeagueOffice$Plan.lay(I)V -/
theorem mw_37_0 : ∀ e ∈ mt_37_0, mx_Ok mx_MT mq_37 e.1 e.2 := 
  mc_1 (mk_p (ms_aload_n (k := 0) (by decide +kernel) rfl) rfl) <|
  mc_1 (mk_p (ms_iload_n (k := 1) (by decide +kernel) rfl) rfl) <|
  mc_1 (mk_c (k := mq_38) rfl ⟨mo_38, 44, 1240, none, ml_m_LeagueOffice_Plan_44, Or.inr (Or.inr (Or.inl ⟨3, TX3, 6, by decide, rfl, rfl, (by decide +kernel), ⟨1, rfl, mx_npd (by decide +kernel)⟩, ml_in_1242, ml_se_28⟩))⟩) <|
  mc_1 (mk_p (ms_aload_n (k := 0) (by decide +kernel) rfl) rfl) <|
  mc_1 (mk_p (ms_iconst (n := (-1)) (by decide +kernel) (by decide +kernel)) rfl) <|
  mc_1 (mk_p (ms_put (idx := 47) (w := 482) (host := none) mx_c3 (by decide) ml_f_LeagueOffice_Plan_47 rfl rfl (by decide +kernel)) rfl) <|
  mc_1 (mk_p (ms_aload_n (k := 0) (by decide +kernel) rfl) rfl) <|
  mc_1 (mk_p (ms_iconst (n := (-1)) (by decide +kernel) (by decide +kernel)) rfl) <|
  mc_1 (mk_p (ms_put (idx := 51) (w := 484) (host := none) mx_c3 (by decide) ml_f_LeagueOffice_Plan_51 rfl rfl (by decide +kernel)) rfl) <|
  mc_1 (mk_p (ms_iconst (n := 0) (by decide +kernel) (by decide +kernel)) rfl) <| mc_0
theorem mw_37_1 : ∀ e ∈ mt_37_1, mx_Ok mx_MT mq_37 e.1 e.2 := 
  mc_1 (mk_p (ms_istore_n (k := 2) (by decide +kernel) rfl (by decide)) rfl) <|
  mc_1 (mk_p (ms_iload_n (k := 2) (by decide +kernel) rfl) rfl) <|
  mc_1 (mk_p (ms_iconst (n := 1) (by decide +kernel) (by decide +kernel)) rfl) <|
  mc_1 (mk_p (ms_aload_n (k := 0) (by decide +kernel) rfl) rfl) <|
  mc_1 (mk_p (ms_get (idx := 14) (w := 478) (host := none) mx_c3 (by decide) ml_f_LeagueOffice_Plan_14 (by decide +kernel)) rfl) <|
  mc_1 (mk_c (k := mq_65) rfl ⟨mo_65, 33, 1225, none, ml_m_LeagueOffice_Plan_33, Or.inr (Or.inr (Or.inl ⟨6, TX6, 2, by decide, rfl, rfl, (by decide +kernel), ⟨0, rfl, mx_npd (by decide +kernel)⟩, ml_in_587, ml_se_588⟩))⟩) <|
  mc_1 (mk_p (ms_ishl (by decide +kernel)) rfl) <|
  mc_1 (mk_p (ms_icmp_ge (off := (49)) (by decide +kernel) (by decide)) rfl) <|
  mc_1 (mk_p (ms_aload_n (k := 0) (by decide +kernel) rfl) rfl) <|
  mc_1 (mk_p (ms_iload_n (k := 2) (by decide +kernel) rfl) rfl) <| mc_0
theorem mw_37_2 : ∀ e ∈ mt_37_2, mx_Ok mx_MT mq_37 e.1 e.2 := 
  mc_1 (mk_c (k := mq_39) rfl ⟨mo_39, 54, 1246, none, ml_m_LeagueOffice_Plan_54, Or.inr (Or.inr (Or.inl ⟨3, TX3, 6, by decide, rfl, rfl, (by decide +kernel), ⟨1, rfl, mx_npd (by decide +kernel)⟩, ml_in_1248, ml_se_29⟩))⟩) <|
  mc_1 (mk_p (ms_istore_n (k := 3) (by decide +kernel) rfl (by decide)) rfl) <|
  mc_1 (mk_p (ms_iload_n (k := 3) (by decide +kernel) rfl) rfl) <|
  mc_1 (mk_p (ms_iconst (n := (-1)) (by decide +kernel) (by decide +kernel)) rfl) <|
  mc_1 (mk_p (ms_icmp_eq (off := (32)) (by decide +kernel) (by decide)) rfl) <|
  mc_1 (mk_p (ms_aload_n (k := 0) (by decide +kernel) rfl) rfl) <|
  mc_1 (mk_p (ms_get (idx := 47) (w := 482) (host := none) mx_c3 (by decide) ml_f_LeagueOffice_Plan_47 (by decide +kernel)) rfl) <|
  mc_1 (mk_p (ms_iconst (n := (-1)) (by decide +kernel) (by decide +kernel)) rfl) <|
  mc_1 (mk_p (ms_icmp_eq (off := (14)) (by decide +kernel) (by decide)) rfl) <| mc_0
theorem mw_37_3 : ∀ e ∈ mt_37_3, mx_Ok mx_MT mq_37 e.1 e.2 := 
  mc_1 (mk_p (ms_iload_n (k := 3) (by decide +kernel) rfl) rfl) <|
  mc_1 (mk_p (ms_aload_n (k := 0) (by decide +kernel) rfl) rfl) <|
  mc_1 (mk_p (ms_get (idx := 51) (w := 484) (host := none) mx_c3 (by decide) ml_f_LeagueOffice_Plan_51 (by decide +kernel)) rfl) <|
  mc_1 (mk_p (ms_icmp_lt (off := (6)) (by decide +kernel) (by decide)) rfl) <|
  mc_1 (mk_p (ms_goto (off := (13)) (by decide +kernel) (by decide)) rfl) <|
  mc_1 (mk_p (ms_aload_n (k := 0) (by decide +kernel) rfl) rfl) <|
  mc_1 (mk_p (ms_iload_n (k := 2) (by decide +kernel) rfl) rfl) <|
  mc_1 (mk_p (ms_put (idx := 47) (w := 482) (host := none) mx_c3 (by decide) ml_f_LeagueOffice_Plan_47 rfl rfl (by decide +kernel)) rfl) <| mc_0
theorem mw_37_4 : ∀ e ∈ mt_37_4, mx_Ok mx_MT mq_37 e.1 e.2 := 
  mc_1 (mk_p (ms_aload_n (k := 0) (by decide +kernel) rfl) rfl) <|
  mc_1 (mk_p (ms_iload_n (k := 3) (by decide +kernel) rfl) rfl) <|
  mc_1 (mk_p (ms_put (idx := 51) (w := 484) (host := none) mx_c3 (by decide) ml_f_LeagueOffice_Plan_51 rfl rfl (by decide +kernel)) rfl) <|
  mc_1 (mk_p (ms_iinc (n := (1)) (by decide +kernel) (by decide +kernel) (by decide)) rfl) <|
  mc_1 (mk_p (ms_goto (off := (-56)) (by decide +kernel) (by decide)) rfl) <|
  mc_1 (mk_r (Or.inr (Or.inr (Or.inr ⟨rfl, by decide +kernel, rfl⟩))) rfl) <| mc_0
theorem mw_37 : ∀ ch ∈ mt_37, ∀ e ∈ ch, mx_Ok mx_MT mq_37 e.1 e.2 := mc_2 mw_37_0 <| mc_2 mw_37_1 <| mc_2 mw_37_2 <| mc_2 mw_37_3 <| mc_2 mw_37_4 <| mc_3
/- 38 LeagueOffice$Plan.look(I)V -/
theorem mw_38_0 : ∀ e ∈ mt_38_0, mx_Ok mx_MT mq_38 e.1 e.2 := 
  mc_1 (mk_p (ms_aload_n (k := 0) (by decide +kernel) rfl) rfl) <|
  mc_1 (mk_p (ms_get (idx := 23) (w := 481) (host := none) mx_c3 (by decide) ml_f_LeagueOffice_Plan_23 (by decide +kernel)) rfl) <|
  mc_1 (mk_p (ms_iconst (n := (-1)) (by decide +kernel) (by decide +kernel)) rfl) <|
  mc_1 (mk_c (k := mq_76) rfl ⟨mo_76, 57, 1244, none, ml_m_LeagueOffice_Plan_57, Or.inr (Or.inr (Or.inl ⟨6, TX6, 2, by decide, rfl, rfl, (by decide +kernel), ⟨1, rfl, mx_npd (by decide +kernel)⟩, ml_in_857, ml_se_858⟩))⟩) <|
  mc_1 (mk_p (ms_iconst (n := 0) (by decide +kernel) (by decide +kernel)) rfl) <|
  mc_1 (mk_p (ms_istore_n (k := 2) (by decide +kernel) rfl (by decide)) rfl) <|
  mc_1 (mk_p (ms_iload_n (k := 2) (by decide +kernel) rfl) rfl) <|
  mc_1 (mk_p (ms_aload_n (k := 0) (by decide +kernel) rfl) rfl) <|
  mc_1 (mk_p (ms_get (idx := 26) (w := 477) (host := none) mx_c3 (by decide) ml_f_LeagueOffice_Plan_26 (by decide +kernel)) rfl) <|
  mc_1 (mk_p (ms_get (idx := 60) (w := 170) (host := (some "LeagueOffice")) mx_c0 (by decide) ml_f_LeagueOffice_Plan_60 (by decide +kernel)) rfl) <| mc_0
theorem mw_38_1 : ∀ e ∈ mt_38_1, mx_Ok mx_MT mq_38 e.1 e.2 := 
  mc_1 (mk_c (k := mq_65) rfl ⟨mo_65, 33, 1225, none, ml_m_LeagueOffice_Plan_33, Or.inr (Or.inr (Or.inl ⟨6, TX6, 2, by decide, rfl, rfl, (by decide +kernel), ⟨0, rfl, mx_npd (by decide +kernel)⟩, ml_in_587, ml_se_588⟩))⟩) <|
  mc_1 (mk_p (ms_icmp_ge (off := (77)) (by decide +kernel) (by decide)) rfl) <|
  mc_1 (mk_p (ms_aload_n (k := 0) (by decide +kernel) rfl) rfl) <|
  mc_1 (mk_p (ms_get (idx := 26) (w := 477) (host := none) mx_c3 (by decide) ml_f_LeagueOffice_Plan_26 (by decide +kernel)) rfl) <|
  mc_1 (mk_p (ms_get (idx := 60) (w := 170) (host := (some "LeagueOffice")) mx_c0 (by decide) ml_f_LeagueOffice_Plan_60 (by decide +kernel)) rfl) <|
  mc_1 (mk_p (ms_iload_n (k := 2) (by decide +kernel) rfl) rfl) <| mc_0
theorem mw_38_2 : ∀ e ∈ mt_38_2, mx_Ok mx_MT mq_38 e.1 e.2 := 
  mc_1 (mk_c (k := mq_68) rfl ⟨mo_68, 37, 1226, none, ml_m_LeagueOffice_Plan_37, Or.inr (Or.inr (Or.inl ⟨6, TX6, 2, by decide, rfl, rfl, (by decide +kernel), ⟨1, rfl, mx_npd (by decide +kernel)⟩, ml_in_591, ml_se_592⟩))⟩) <|
  mc_1 (mk_p (ms_istore_n (k := 3) (by decide +kernel) rfl (by decide)) rfl) <|
  mc_1 (mk_p (ms_aload_n (k := 0) (by decide +kernel) rfl) rfl) <|
  mc_1 (mk_p (ms_get (idx := 26) (w := 477) (host := none) mx_c3 (by decide) ml_f_LeagueOffice_Plan_26 (by decide +kernel)) rfl) <|
  mc_1 (mk_p (ms_get (idx := 65) (w := 167) (host := (some "LeagueOffice")) mx_c0 (by decide) ml_f_LeagueOffice_Plan_65 (by decide +kernel)) rfl) <|
  mc_1 (mk_p (ms_iload_n (k := 3) (by decide +kernel) rfl) rfl) <|
  mc_1 (mk_c (k := mq_68) rfl ⟨mo_68, 37, 1226, none, ml_m_LeagueOffice_Plan_37, Or.inr (Or.inr (Or.inl ⟨6, TX6, 2, by decide, rfl, rfl, (by decide +kernel), ⟨1, rfl, mx_npd (by decide +kernel)⟩, ml_in_591, ml_se_592⟩))⟩) <|
  mc_1 (mk_p (ms_iload_n (k := 1) (by decide +kernel) rfl) rfl) <| mc_0
theorem mw_38_3 : ∀ e ∈ mt_38_3, mx_Ok mx_MT mq_38 e.1 e.2 := 
  mc_1 (mk_p (ms_icmp_lt (off := (6)) (by decide +kernel) (by decide)) rfl) <|
  mc_1 (mk_p (ms_goto (off := (47)) (by decide +kernel) (by decide)) rfl) <|
  mc_1 (mk_p (ms_aload_n (k := 0) (by decide +kernel) rfl) rfl) <|
  mc_1 (mk_p (ms_get (idx := 23) (w := 481) (host := none) mx_c3 (by decide) ml_f_LeagueOffice_Plan_23 (by decide +kernel)) rfl) <|
  mc_1 (mk_p (ms_aload_n (k := 0) (by decide +kernel) rfl) rfl) <|
  mc_1 (mk_p (ms_get (idx := 26) (w := 477) (host := none) mx_c3 (by decide) ml_f_LeagueOffice_Plan_26 (by decide +kernel)) rfl) <|
  mc_1 (mk_p (ms_get (idx := 68) (w := 154) (host := (some "LeagueOffice")) mx_c0 (by decide) ml_f_LeagueOffice_Plan_68 (by decide +kernel)) rfl) <| mc_0
theorem mw_38_4 : ∀ e ∈ mt_38_4, mx_Ok mx_MT mq_38 e.1 e.2 := 
  mc_1 (mk_p (ms_iload_n (k := 3) (by decide +kernel) rfl) rfl) <|
  mc_1 (mk_c (k := mq_68) rfl ⟨mo_68, 37, 1226, none, ml_m_LeagueOffice_Plan_37, Or.inr (Or.inr (Or.inl ⟨6, TX6, 2, by decide, rfl, rfl, (by decide +kernel), ⟨1, rfl, mx_npd (by decide +kernel)⟩, ml_in_591, ml_se_592⟩))⟩) <|
  mc_1 (mk_p (ms_iconst (n := 1) (by decide +kernel) (by decide +kernel)) rfl) <|
  mc_1 (mk_c (k := mq_69) rfl ⟨mo_69, 71, 1245, none, ml_m_LeagueOffice_Plan_71, Or.inr (Or.inr (Or.inl ⟨6, TX6, 2, by decide, rfl, rfl, (by decide +kernel), ⟨2, rfl, mx_npd (by decide +kernel)⟩, ml_in_665, ml_se_666⟩))⟩) <|
  mc_1 (mk_p (ms_aload_n (k := 0) (by decide +kernel) rfl) rfl) <|
  mc_1 (mk_p (ms_get (idx := 23) (w := 481) (host := none) mx_c3 (by decide) ml_f_LeagueOffice_Plan_23 (by decide +kernel)) rfl) <|
  mc_1 (mk_p (ms_aload_n (k := 0) (by decide +kernel) rfl) rfl) <|
  mc_1 (mk_p (ms_get (idx := 26) (w := 477) (host := none) mx_c3 (by decide) ml_f_LeagueOffice_Plan_26 (by decide +kernel)) rfl) <| mc_0
theorem mw_38_5 : ∀ e ∈ mt_38_5, mx_Ok mx_MT mq_38 e.1 e.2 := 
  mc_1 (mk_p (ms_get (idx := 75) (w := 161) (host := (some "LeagueOffice")) mx_c0 (by decide) ml_f_LeagueOffice_Plan_75 (by decide +kernel)) rfl) <|
  mc_1 (mk_p (ms_iload_n (k := 3) (by decide +kernel) rfl) rfl) <|
  mc_1 (mk_c (k := mq_68) rfl ⟨mo_68, 37, 1226, none, ml_m_LeagueOffice_Plan_37, Or.inr (Or.inr (Or.inl ⟨6, TX6, 2, by decide, rfl, rfl, (by decide +kernel), ⟨1, rfl, mx_npd (by decide +kernel)⟩, ml_in_591, ml_se_592⟩))⟩) <|
  mc_1 (mk_p (ms_iconst (n := 0) (by decide +kernel) (by decide +kernel)) rfl) <|
  mc_1 (mk_c (k := mq_69) rfl ⟨mo_69, 71, 1245, none, ml_m_LeagueOffice_Plan_71, Or.inr (Or.inr (Or.inl ⟨6, TX6, 2, by decide, rfl, rfl, (by decide +kernel), ⟨2, rfl, mx_npd (by decide +kernel)⟩, ml_in_665, ml_se_666⟩))⟩) <|
  mc_1 (mk_p (ms_iinc (n := (1)) (by decide +kernel) (by decide +kernel) (by decide)) rfl) <|
  mc_1 (mk_p (ms_goto (off := (-85)) (by decide +kernel) (by decide)) rfl) <| mc_0
theorem mw_38_6 : ∀ e ∈ mt_38_6, mx_Ok mx_MT mq_38 e.1 e.2 := 
  mc_1 (mk_r (Or.inr (Or.inr (Or.inr ⟨rfl, by decide +kernel, rfl⟩))) rfl) <| mc_0
theorem mw_38 : ∀ ch ∈ mt_38, ∀ e ∈ ch, mx_Ok mx_MT mq_38 e.1 e.2 := mc_2 mw_38_0 <| mc_2 mw_38_1 <| mc_2 mw_38_2 <| mc_2 mw_38_3 <| mc_2 mw_38_4 <| mc_2 mw_38_5 <| mc_2 mw_38_6 <| mc_3
