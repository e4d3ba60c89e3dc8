/- 39 LeagueOffice$Plan.breaksOf(I)I -/
theorem mw_39_0 : ∀ e ∈ mt_39_0, mx_Ok mx_MT mq_39 e.1 e.2 := 
  mc_1 (mk_p (ms_iconst (n := 0) (by decide +kernel) (by decide +kernel)) rfl) <|
  mc_1 (mk_p (ms_istore_n (k := 2) (by decide +kernel) rfl (by decide)) rfl) <|
  mc_1 (mk_p (ms_iconst (n := 0) (by decide +kernel) (by decide +kernel)) rfl) <|
  mc_1 (mk_p (ms_istore_n (k := 3) (by decide +kernel) rfl (by decide)) rfl) <|
  mc_1 (mk_p (ms_iconst (n := 0) (by decide +kernel) (by decide +kernel)) rfl) <|
  mc_1 (mk_p (ms_istore (by decide +kernel) (by decide)) rfl) <|
  mc_1 (mk_p (ms_iload (by decide +kernel)) rfl) <|
  mc_1 (mk_p (ms_aload_n (k := 0) (by decide +kernel) rfl) rfl) <|
  mc_1 (mk_p (ms_get (idx := 14) (w := 478) (host := none) mx_c3 (by decide) ml_f_LeagueOffice_Plan_14 (by decide +kernel)) rfl) <|
  mc_1 (mk_c (k := mq_65) rfl ⟨mo_65, 33, 1225, none, ml_m_LeagueOffice_Plan_33, Or.inr (Or.inr (Or.inl ⟨6, TX6, 2, by decide, rfl, rfl, (by decide +kernel), ⟨0, rfl, mx_npd (by decide +kernel)⟩, ml_in_587, ml_se_588⟩))⟩) <| mc_0
theorem mw_39_1 : ∀ e ∈ mt_39_1, mx_Ok mx_MT mq_39 e.1 e.2 := 
  mc_1 (mk_p (ms_icmp_ge (off := (143)) (by decide +kernel) (by decide)) rfl) <|
  mc_1 (mk_p (ms_iload_n (k := 1) (by decide +kernel) rfl) rfl) <|
  mc_1 (mk_p (ms_iload (by decide +kernel)) rfl) <|
  mc_1 (mk_p (ms_ishr (by decide +kernel)) rfl) <|
  mc_1 (mk_p (ms_iconst (n := 1) (by decide +kernel) (by decide +kernel)) rfl) <|
  mc_1 (mk_p (ms_iand (by decide +kernel)) rfl) <|
  mc_1 (mk_p (ms_iconst (n := 1) (by decide +kernel) (by decide +kernel)) rfl) <|
  mc_1 (mk_p (ms_icmp_ne (off := (7)) (by decide +kernel) (by decide)) rfl) <|
  mc_1 (mk_p (ms_iconst (n := 1) (by decide +kernel) (by decide +kernel)) rfl) <|
  mc_1 (mk_p (ms_goto (off := (4)) (by decide +kernel) (by decide)) rfl) <| mc_0
theorem mw_39_2 : ∀ e ∈ mt_39_2, mx_Ok mx_MT mq_39 e.1 e.2 := 
  mc_1 (mk_p (ms_iconst (n := 0) (by decide +kernel) (by decide +kernel)) rfl) <|
  mc_1 (mk_p (ms_istore (by decide +kernel) (by decide)) rfl) <|
  mc_1 (mk_p (ms_iload (by decide +kernel)) rfl) <|
  mc_1 (mk_p (ms_if_eq (off := (15)) (by decide +kernel) (by decide)) rfl) <|
  mc_1 (mk_p (ms_aload_n (k := 0) (by decide +kernel) rfl) rfl) <|
  mc_1 (mk_p (ms_get (idx := 20) (w := 480) (host := none) mx_c3 (by decide) ml_f_LeagueOffice_Plan_20 (by decide +kernel)) rfl) <|
  mc_1 (mk_p (ms_iload (by decide +kernel)) rfl) <|
  mc_1 (mk_c (k := mq_68) rfl ⟨mo_68, 37, 1226, none, ml_m_LeagueOffice_Plan_37, Or.inr (Or.inr (Or.inl ⟨6, TX6, 2, by decide, rfl, rfl, (by decide +kernel), ⟨1, rfl, mx_npd (by decide +kernel)⟩, ml_in_591, ml_se_592⟩))⟩) <| mc_0
theorem mw_39_3 : ∀ e ∈ mt_39_3, mx_Ok mx_MT mq_39 e.1 e.2 := 
  mc_1 (mk_p (ms_goto (off := (12)) (by decide +kernel) (by decide)) rfl) <|
  mc_1 (mk_p (ms_aload_n (k := 0) (by decide +kernel) rfl) rfl) <|
  mc_1 (mk_p (ms_get (idx := 14) (w := 478) (host := none) mx_c3 (by decide) ml_f_LeagueOffice_Plan_14 (by decide +kernel)) rfl) <|
  mc_1 (mk_p (ms_iload (by decide +kernel)) rfl) <|
  mc_1 (mk_c (k := mq_68) rfl ⟨mo_68, 37, 1226, none, ml_m_LeagueOffice_Plan_37, Or.inr (Or.inr (Or.inl ⟨6, TX6, 2, by decide, rfl, rfl, (by decide +kernel), ⟨1, rfl, mx_npd (by decide +kernel)⟩, ml_in_591, ml_se_592⟩))⟩) <|
  mc_1 (mk_p (ms_istore (by decide +kernel) (by decide)) rfl) <| mc_0
theorem mw_39_4 : ∀ e ∈ mt_39_4, mx_Ok mx_MT mq_39 e.1 e.2 := 
  mc_1 (mk_p (ms_iload (by decide +kernel)) rfl) <|
  mc_1 (mk_p (ms_if_eq (off := (15)) (by decide +kernel) (by decide)) rfl) <|
  mc_1 (mk_p (ms_aload_n (k := 0) (by decide +kernel) rfl) rfl) <|
  mc_1 (mk_p (ms_get (idx := 14) (w := 478) (host := none) mx_c3 (by decide) ml_f_LeagueOffice_Plan_14 (by decide +kernel)) rfl) <|
  mc_1 (mk_p (ms_iload (by decide +kernel)) rfl) <|
  mc_1 (mk_c (k := mq_68) rfl ⟨mo_68, 37, 1226, none, ml_m_LeagueOffice_Plan_37, Or.inr (Or.inr (Or.inl ⟨6, TX6, 2, by decide, rfl, rfl, (by decide +kernel), ⟨1, rfl, mx_npd (by decide +kernel)⟩, ml_in_591, ml_se_592⟩))⟩) <|
  mc_1 (mk_p (ms_goto (off := (12)) (by decide +kernel) (by decide)) rfl) <| mc_0
theorem mw_39_5 : ∀ e ∈ mt_39_5, mx_Ok mx_MT mq_39 e.1 e.2 := 
  mc_1 (mk_p (ms_aload_n (k := 0) (by decide +kernel) rfl) rfl) <|
  mc_1 (mk_p (ms_get (idx := 20) (w := 480) (host := none) mx_c3 (by decide) ml_f_LeagueOffice_Plan_20 (by decide +kernel)) rfl) <|
  mc_1 (mk_p (ms_iload (by decide +kernel)) rfl) <|
  mc_1 (mk_c (k := mq_68) rfl ⟨mo_68, 37, 1226, none, ml_m_LeagueOffice_Plan_37, Or.inr (Or.inr (Or.inl ⟨6, TX6, 2, by decide, rfl, rfl, (by decide +kernel), ⟨1, rfl, mx_npd (by decide +kernel)⟩, ml_in_591, ml_se_592⟩))⟩) <|
  mc_1 (mk_p (ms_istore (by decide +kernel) (by decide)) rfl) <|
  mc_1 (mk_p (ms_iconst (n := 1) (by decide +kernel) (by decide +kernel)) rfl) <|
  mc_1 (mk_p (ms_aload_n (k := 0) (by decide +kernel) rfl) rfl) <|
  mc_1 (mk_p (ms_get (idx := 26) (w := 477) (host := none) mx_c3 (by decide) ml_f_LeagueOffice_Plan_26 (by decide +kernel)) rfl) <| mc_0
theorem mw_39_6 : ∀ e ∈ mt_39_6, mx_Ok mx_MT mq_39 e.1 e.2 := 
  mc_1 (mk_p (ms_get (idx := 78) (w := 141) (host := (some "LeagueOffice")) mx_c0 (by decide) ml_f_LeagueOffice_Plan_78 (by decide +kernel)) rfl) <|
  mc_1 (mk_p (ms_iload (by decide +kernel)) rfl) <|
  mc_1 (mk_c (k := mq_68) rfl ⟨mo_68, 37, 1226, none, ml_m_LeagueOffice_Plan_37, Or.inr (Or.inr (Or.inl ⟨6, TX6, 2, by decide, rfl, rfl, (by decide +kernel), ⟨1, rfl, mx_npd (by decide +kernel)⟩, ml_in_591, ml_se_592⟩))⟩) <|
  mc_1 (mk_p (ms_ishl (by decide +kernel)) rfl) <|
  mc_1 (mk_p (ms_istore (by decide +kernel) (by decide)) rfl) <|
  mc_1 (mk_p (ms_iload_n (k := 3) (by decide +kernel) rfl) rfl) <|
  mc_1 (mk_p (ms_iload (by decide +kernel)) rfl) <|
  mc_1 (mk_p (ms_iand (by decide +kernel)) rfl) <| mc_0
theorem mw_39_7 : ∀ e ∈ mt_39_7, mx_Ok mx_MT mq_39 e.1 e.2 := 
  mc_1 (mk_p (ms_if_eq (off := (5)) (by decide +kernel) (by decide)) rfl) <|
  mc_1 (mk_p (ms_iconst (n := (-1)) (by decide +kernel) (by decide +kernel)) rfl) <|
  mc_1 (mk_r (Or.inl ⟨rfl, by decide +kernel, _, rfl, mf_0⟩) rfl) <|
  mc_1 (mk_p (ms_iload_n (k := 3) (by decide +kernel) rfl) rfl) <|
  mc_1 (mk_p (ms_iload (by decide +kernel)) rfl) <|
  mc_1 (mk_p (ms_ior (by decide +kernel)) rfl) <|
  mc_1 (mk_p (ms_istore_n (k := 3) (by decide +kernel) rfl (by decide)) rfl) <|
  mc_1 (mk_p (ms_aload_n (k := 0) (by decide +kernel) rfl) rfl) <|
  mc_1 (mk_p (ms_get (idx := 23) (w := 481) (host := none) mx_c3 (by decide) ml_f_LeagueOffice_Plan_23 (by decide +kernel)) rfl) <|
  mc_1 (mk_p (ms_iload (by decide +kernel)) rfl) <| mc_0
theorem mw_39_8 : ∀ e ∈ mt_39_8, mx_Ok mx_MT mq_39 e.1 e.2 := 
  mc_1 (mk_c (k := mq_68) rfl ⟨mo_68, 37, 1226, none, ml_m_LeagueOffice_Plan_37, Or.inr (Or.inr (Or.inl ⟨6, TX6, 2, by decide, rfl, rfl, (by decide +kernel), ⟨1, rfl, mx_npd (by decide +kernel)⟩, ml_in_591, ml_se_592⟩))⟩) <|
  mc_1 (mk_p (ms_iconst (n := 1) (by decide +kernel) (by decide +kernel)) rfl) <|
  mc_1 (mk_p (ms_icmp_ne (off := (6)) (by decide +kernel) (by decide)) rfl) <|
  mc_1 (mk_p (ms_iinc (n := (1)) (by decide +kernel) (by decide +kernel) (by decide)) rfl) <|
  mc_1 (mk_p (ms_aload_n (k := 0) (by decide +kernel) rfl) rfl) <|
  mc_1 (mk_p (ms_get (idx := 23) (w := 481) (host := none) mx_c3 (by decide) ml_f_LeagueOffice_Plan_23 (by decide +kernel)) rfl) <|
  mc_1 (mk_p (ms_iload (by decide +kernel)) rfl) <| mc_0
theorem mw_39_9 : ∀ e ∈ mt_39_9, mx_Ok mx_MT mq_39 e.1 e.2 := 
  mc_1 (mk_c (k := mq_68) rfl ⟨mo_68, 37, 1226, none, ml_m_LeagueOffice_Plan_37, Or.inr (Or.inr (Or.inl ⟨6, TX6, 2, by decide, rfl, rfl, (by decide +kernel), ⟨1, rfl, mx_npd (by decide +kernel)⟩, ml_in_591, ml_se_592⟩))⟩) <|
  mc_1 (mk_p (ms_if_ne (off := (6)) (by decide +kernel) (by decide)) rfl) <|
  mc_1 (mk_p (ms_iinc (n := (1)) (by decide +kernel) (by decide +kernel) (by decide)) rfl) <|
  mc_1 (mk_p (ms_iinc (n := (1)) (by decide +kernel) (by decide +kernel) (by decide)) rfl) <|
  mc_1 (mk_p (ms_goto (off := (-149)) (by decide +kernel) (by decide)) rfl) <|
  mc_1 (mk_p (ms_iload_n (k := 2) (by decide +kernel) rfl) rfl) <| mc_0
theorem mw_39_10 : ∀ e ∈ mt_39_10, mx_Ok mx_MT mq_39 e.1 e.2 := 
  mc_1 (mk_r (Or.inl ⟨rfl, by decide +kernel, _, rfl, mf_0⟩) rfl) <| mc_0
theorem mw_39 : ∀ ch ∈ mt_39, ∀ e ∈ ch, mx_Ok mx_MT mq_39 e.1 e.2 := mc_2 mw_39_0 <| mc_2 mw_39_1 <| mc_2 mw_39_2 <| mc_2 mw_39_3 <| mc_2 mw_39_4 <| mc_2 mw_39_5 <| mc_2 mw_39_6 <| mc_2 mw_39_7 <| mc_2 mw_39_8 <| mc_2 mw_39_9 <| mc_2 mw_39_10 <| mc_3
/- 40 LeagueOffice$Purse.<init>(LLeagueOffice$Book;LLeagueOffice$Tables;)V -/
theorem mw_40_0 : ∀ e ∈ mt_40_0, mx_Ok mx_MT mq_40 e.1 e.2 := 
  mc_1 (mk_p (ms_aload_n (k := 0) (by decide +kernel) rfl) rfl) <|
  mc_1 (mk_p (ms_obj (idx := 3) 456 103 104 (by decide +kernel) (by decide +kernel) (by decide +kernel) (by decide +kernel)) rfl) <|
  mc_1 (mk_p (ms_aload_n (k := 0) (by decide +kernel) rfl) rfl) <|
  mc_1 (mk_p (mn_6 (idx := 9) 457 (by decide +kernel) (by decide +kernel)) rfl) <|
  mc_1 (mk_p (ms_dup (by decide +kernel)) rfl) <|
  mc_1 (mk_p (ms_bipush (n := 12) (by decide +kernel) (by decide +kernel)) rfl) <|
  mc_1 (mk_c (k := mq_64) rfl ⟨mo_64, 11, 458, none, ml_m_LeagueOffice_Purse_11, Or.inr (Or.inl ⟨rfl, (by decide +kernel), ⟨1, rfl, mx_npd (by decide +kernel)⟩, ml_in_114, rfl, rfl⟩)⟩) <|
  mc_1 (mk_p (ms_putF (idx := 14) (w := 461) mx_c4 (by decide) ml_f_LeagueOffice_Purse_14 rfl rfl rfl rfl (by decide +kernel)) rfl) <| mc_0
theorem mw_40_1 : ∀ e ∈ mt_40_1, mx_Ok mx_MT mq_40 e.1 e.2 := 
  mc_1 (mk_p (ms_aload_n (k := 0) (by decide +kernel) rfl) rfl) <|
  mc_1 (mk_p (ms_aload_n (k := 1) (by decide +kernel) rfl) rfl) <|
  mc_1 (mk_p (ms_putF (idx := 20) (w := 459) mx_c4 (by decide) ml_f_LeagueOffice_Purse_20 rfl rfl rfl rfl (by decide +kernel)) rfl) <|
  mc_1 (mk_p (ms_aload_n (k := 0) (by decide +kernel) rfl) rfl) <|
  mc_1 (mk_p (ms_aload_n (k := 2) (by decide +kernel) rfl) rfl) <|
  mc_1 (mk_p (ms_putF (idx := 24) (w := 460) mx_c4 (by decide) ml_f_LeagueOffice_Purse_24 rfl rfl rfl rfl (by decide +kernel)) rfl) <|
  mc_1 (mk_r (Or.inr (Or.inr (Or.inr ⟨rfl, by decide +kernel, rfl⟩))) rfl) <| mc_0
theorem mw_40 : ∀ ch ∈ mt_40, ∀ e ∈ ch, mx_Ok mx_MT mq_40 e.1 e.2 := mc_2 mw_40_0 <| mc_2 mw_40_1 <| mc_3
/- 41 LeagueOffice$Purse.share(III)J -/
theorem mw_41_0 : ∀ e ∈ mt_41_0, mx_Ok mx_MT mq_41 e.1 e.2 := 
  mc_1 (mk_p (ms_aload_n (k := 0) (by decide +kernel) rfl) rfl) <|
  mc_1 (mk_p (ms_get (idx := 24) (w := 460) (host := none) mx_c4 (by decide) ml_f_LeagueOffice_Purse_24 (by decide +kernel)) rfl) <|
  mc_1 (mk_p (ms_aload_n (k := 0) (by decide +kernel) rfl) rfl) <|
  mc_1 (mk_p (ms_get (idx := 20) (w := 459) (host := none) mx_c4 (by decide) ml_f_LeagueOffice_Purse_20 (by decide +kernel)) rfl) <|
  mc_1 (mk_p (ms_get (idx := 28) (w := 130) (host := (some "LeagueOffice")) mx_c0 (by decide) ml_f_LeagueOffice_Purse_28 (by decide +kernel)) rfl) <|
  mc_1 (mk_c (k := mq_98) rfl ⟨mo_98, 34, 1193, none, ml_m_LeagueOffice_Purse_34, Or.inr (Or.inr (Or.inl ⟨9, TX9, 12, by decide, rfl, rfl, (by decide +kernel), ⟨1, rfl, mx_npd (by decide +kernel)⟩, ml_in_850, ml_se_851⟩))⟩) <|
  mc_1 (mk_p (ms_aload_n (k := 0) (by decide +kernel) rfl) rfl) <|
  mc_1 (mk_c (k := mq_43) rfl ⟨mo_43, 39, 1194, none, ml_m_LeagueOffice_Purse_39, Or.inr (Or.inr (Or.inl ⟨4, TX4, 3, by decide, rfl, rfl, (by decide +kernel), ⟨0, rfl, mx_npd (by decide +kernel)⟩, ml_in_1196, ml_se_27⟩))⟩) <| mc_0
theorem mw_41_1 : ∀ e ∈ mt_41_1, mx_Ok mx_MT mq_41 e.1 e.2 := 
  mc_1 (mk_p (ms_iconst (n := 0) (by decide +kernel) (by decide +kernel)) rfl) <|
  mc_1 (mk_p (ms_istore (by decide +kernel) (by decide)) rfl) <|
  mc_1 (mk_p (ms_iconst (n := 0) (by decide +kernel) (by decide +kernel)) rfl) <|
  mc_1 (mk_p (ms_istore (by decide +kernel) (by decide)) rfl) <|
  mc_1 (mk_p (ms_iconst (n := 0) (by decide +kernel) (by decide +kernel)) rfl) <|
  mc_1 (mk_p (ms_istore (by decide +kernel) (by decide)) rfl) <|
  mc_1 (mk_p (ms_iload (by decide +kernel)) rfl) <|
  mc_1 (mk_p (ms_aload_n (k := 0) (by decide +kernel) rfl) rfl) <|
  mc_1 (mk_p (ms_get (idx := 20) (w := 459) (host := none) mx_c4 (by decide) ml_f_LeagueOffice_Purse_20 (by decide +kernel)) rfl) <| mc_0
theorem mw_41_2 : ∀ e ∈ mt_41_2, mx_Ok mx_MT mq_41 e.1 e.2 := 
  mc_1 (mk_p (ms_get (idx := 42) (w := 135) (host := (some "LeagueOffice")) mx_c0 (by decide) ml_f_LeagueOffice_Purse_42 (by decide +kernel)) rfl) <|
  mc_1 (mk_c (k := mq_65) rfl ⟨mo_65, 45, 1199, none, ml_m_LeagueOffice_Purse_45, Or.inr (Or.inr (Or.inl ⟨6, TX6, 2, by decide, rfl, rfl, (by decide +kernel), ⟨0, rfl, mx_npd (by decide +kernel)⟩, ml_in_587, ml_se_588⟩))⟩) <|
  mc_1 (mk_p (ms_icmp_ge (off := (42)) (by decide +kernel) (by decide)) rfl) <|
  mc_1 (mk_p (ms_aload_n (k := 0) (by decide +kernel) rfl) rfl) <|
  mc_1 (mk_p (ms_get (idx := 20) (w := 459) (host := none) mx_c4 (by decide) ml_f_LeagueOffice_Purse_20 (by decide +kernel)) rfl) <|
  mc_1 (mk_p (ms_iload_n (k := 1) (by decide +kernel) rfl) rfl) <|
  mc_1 (mk_p (ms_iload (by decide +kernel)) rfl) <| mc_0
theorem mw_41_3 : ∀ e ∈ mt_41_3, mx_Ok mx_MT mq_41 e.1 e.2 := 
  mc_1 (mk_c (k := mq_4) rfl ⟨mo_4, 49, 1205, none, ml_m_LeagueOffice_Purse_49, Or.inr (Or.inr (Or.inl ⟨0, TX0, 12, by decide, rfl, rfl, (by decide +kernel), ⟨2, rfl, mx_npd (by decide +kernel)⟩, ml_in_1115, ml_se_1116⟩))⟩) <|
  mc_1 (mk_p (ms_if_ne (off := (6)) (by decide +kernel) (by decide)) rfl) <|
  mc_1 (mk_p (ms_goto (off := (20)) (by decide +kernel) (by decide)) rfl) <|
  mc_1 (mk_p (ms_iinc (n := (1)) (by decide +kernel) (by decide +kernel) (by decide)) rfl) <|
  mc_1 (mk_p (ms_iload (by decide +kernel)) rfl) <|
  mc_1 (mk_p (ms_aload_n (k := 0) (by decide +kernel) rfl) rfl) <| mc_0
theorem mw_41_4 : ∀ e ∈ mt_41_4, mx_Ok mx_MT mq_41 e.1 e.2 := 
  mc_1 (mk_p (ms_get (idx := 14) (w := 461) (host := none) mx_c4 (by decide) ml_f_LeagueOffice_Purse_14 (by decide +kernel)) rfl) <|
  mc_1 (mk_p (ms_iload (by decide +kernel)) rfl) <|
  mc_1 (mk_c (k := mq_68) rfl ⟨mo_68, 53, 1200, none, ml_m_LeagueOffice_Purse_53, Or.inr (Or.inr (Or.inl ⟨6, TX6, 2, by decide, rfl, rfl, (by decide +kernel), ⟨1, rfl, mx_npd (by decide +kernel)⟩, ml_in_591, ml_se_592⟩))⟩) <|
  mc_1 (mk_p (ms_iadd (by decide +kernel)) rfl) <|
  mc_1 (mk_p (ms_istore (by decide +kernel) (by decide)) rfl) <|
  mc_1 (mk_p (ms_iinc (n := (1)) (by decide +kernel) (by decide +kernel) (by decide)) rfl) <|
  mc_1 (mk_p (ms_goto (off := (-51)) (by decide +kernel) (by decide)) rfl) <| mc_0
theorem mw_41_5 : ∀ e ∈ mt_41_5, mx_Ok mx_MT mq_41 e.1 e.2 := 
  mc_1 (mk_p (ms_lconst (n := 0) (by decide +kernel) rfl) rfl) <|
  mc_1 (mk_p (ms_lstore (by decide +kernel) (by decide)) rfl) <|
  mc_1 (mk_p (ms_iload_n (k := 2) (by decide +kernel) rfl) rfl) <|
  mc_1 (mk_p (ms_i2l (by decide +kernel)) rfl) <|
  mc_1 (mk_p (ms_lstore (by decide +kernel) (by decide)) rfl) <|
  mc_1 (mk_p (ms_iconst (n := 0) (by decide +kernel) (by decide +kernel)) rfl) <|
  mc_1 (mk_p (ms_istore (by decide +kernel) (by decide)) rfl) <|
  mc_1 (mk_p (ms_iload (by decide +kernel)) rfl) <|
  mc_1 (mk_p (ms_aload_n (k := 0) (by decide +kernel) rfl) rfl) <|
  mc_1 (mk_p (ms_get (idx := 20) (w := 459) (host := none) mx_c4 (by decide) ml_f_LeagueOffice_Purse_20 (by decide +kernel)) rfl) <| mc_0
theorem mw_41_6 : ∀ e ∈ mt_41_6, mx_Ok mx_MT mq_41 e.1 e.2 := 
  mc_1 (mk_p (ms_get (idx := 42) (w := 135) (host := (some "LeagueOffice")) mx_c0 (by decide) ml_f_LeagueOffice_Purse_42 (by decide +kernel)) rfl) <|
  mc_1 (mk_c (k := mq_65) rfl ⟨mo_65, 45, 1199, none, ml_m_LeagueOffice_Purse_45, Or.inr (Or.inr (Or.inl ⟨6, TX6, 2, by decide, rfl, rfl, (by decide +kernel), ⟨0, rfl, mx_npd (by decide +kernel)⟩, ml_in_587, ml_se_588⟩))⟩) <|
  mc_1 (mk_p (ms_icmp_ge (off := (73)) (by decide +kernel) (by decide)) rfl) <|
  mc_1 (mk_p (ms_aload_n (k := 0) (by decide +kernel) rfl) rfl) <|
  mc_1 (mk_p (ms_get (idx := 20) (w := 459) (host := none) mx_c4 (by decide) ml_f_LeagueOffice_Purse_20 (by decide +kernel)) rfl) <|
  mc_1 (mk_p (ms_iload_n (k := 1) (by decide +kernel) rfl) rfl) <|
  mc_1 (mk_p (ms_iload (by decide +kernel)) rfl) <| mc_0
theorem mw_41_7 : ∀ e ∈ mt_41_7, mx_Ok mx_MT mq_41 e.1 e.2 := 
  mc_1 (mk_c (k := mq_4) rfl ⟨mo_4, 49, 1205, none, ml_m_LeagueOffice_Purse_49, Or.inr (Or.inr (Or.inl ⟨0, TX0, 12, by decide, rfl, rfl, (by decide +kernel), ⟨2, rfl, mx_npd (by decide +kernel)⟩, ml_in_1115, ml_se_1116⟩))⟩) <|
  mc_1 (mk_p (ms_if_ne (off := (6)) (by decide +kernel) (by decide)) rfl) <|
  mc_1 (mk_p (ms_goto (off := (51)) (by decide +kernel) (by decide)) rfl) <|
  mc_1 (mk_p (ms_iload_n (k := 2) (by decide +kernel) rfl) rfl) <|
  mc_1 (mk_p (ms_iload (by decide +kernel)) rfl) <|
  mc_1 (mk_p (ms_iload (by decide +kernel)) rfl) <|
  mc_1 (mk_p (ms_aload_n (k := 0) (by decide +kernel) rfl) rfl) <| mc_0
theorem mw_41_8 : ∀ e ∈ mt_41_8, mx_Ok mx_MT mq_41 e.1 e.2 := 
  mc_1 (mk_p (ms_get (idx := 24) (w := 460) (host := none) mx_c4 (by decide) ml_f_LeagueOffice_Purse_24 (by decide +kernel)) rfl) <|
  mc_1 (mk_p (ms_iload (by decide +kernel)) rfl) <|
  mc_1 (mk_c (k := mq_104) rfl ⟨mo_104, 57, 1206, none, ml_m_LeagueOffice_Purse_57, Or.inr (Or.inr (Or.inl ⟨9, TX9, 12, by decide, rfl, rfl, (by decide +kernel), ⟨1, rfl, mx_npd (by decide +kernel)⟩, ml_in_941, ml_se_942⟩))⟩) <|
  mc_1 (mk_p (ms_isub (by decide +kernel)) rfl) <|
  mc_1 (mk_p (ms_aload_n (k := 0) (by decide +kernel) rfl) rfl) <|
  mc_1 (mk_p (ms_get (idx := 14) (w := 461) (host := none) mx_c4 (by decide) ml_f_LeagueOffice_Purse_14 (by decide +kernel)) rfl) <|
  mc_1 (mk_p (ms_iload (by decide +kernel)) rfl) <|
  mc_1 (mk_c (k := mq_68) rfl ⟨mo_68, 53, 1200, none, ml_m_LeagueOffice_Purse_53, Or.inr (Or.inr (Or.inl ⟨6, TX6, 2, by decide, rfl, rfl, (by decide +kernel), ⟨1, rfl, mx_npd (by decide +kernel)⟩, ml_in_591, ml_se_592⟩))⟩) <| mc_0
theorem mw_41_9 : ∀ e ∈ mt_41_9, mx_Ok mx_MT mq_41 e.1 e.2 := 
  mc_1 (mk_p (ms_iload (by decide +kernel)) rfl) <|
  mc_1 (mk_c (k := mq_42) rfl ⟨mo_42, 60, 1207, none, ml_m_LeagueOffice_Purse_60, Or.inl ⟨rfl, (by decide +kernel), mx_npd (by decide +kernel), ml_st_1208⟩⟩) <|
  mc_1 (mk_p (ms_lstore (by decide +kernel) (by decide)) rfl) <|
  mc_1 (mk_p (ms_lload (by decide +kernel)) rfl) <|
  mc_1 (mk_p (ms_lload (by decide +kernel)) rfl) <|
  mc_1 (mk_p (ms_lsub (by decide +kernel)) rfl) <|
  mc_1 (mk_p (ms_lstore (by decide +kernel) (by decide)) rfl) <| mc_0
theorem mw_41_10 : ∀ e ∈ mt_41_10, mx_Ok mx_MT mq_41 e.1 e.2 := 
  mc_1 (mk_p (ms_iload (by decide +kernel)) rfl) <|
  mc_1 (mk_p (ms_iload_n (k := 3) (by decide +kernel) rfl) rfl) <|
  mc_1 (mk_p (ms_icmp_ne (off := (7)) (by decide +kernel) (by decide)) rfl) <|
  mc_1 (mk_p (ms_lload (by decide +kernel)) rfl) <|
  mc_1 (mk_p (ms_lstore (by decide +kernel) (by decide)) rfl) <|
  mc_1 (mk_p (ms_iinc (n := (1)) (by decide +kernel) (by decide +kernel) (by decide)) rfl) <|
  mc_1 (mk_p (ms_goto (off := (-82)) (by decide +kernel) (by decide)) rfl) <| mc_0
theorem mw_41_11 : ∀ e ∈ mt_41_11, mx_Ok mx_MT mq_41 e.1 e.2 := 
  mc_1 (mk_p (ms_aload_n (k := 0) (by decide +kernel) rfl) rfl) <|
  mc_1 (mk_p (ms_get (idx := 24) (w := 460) (host := none) mx_c4 (by decide) ml_f_LeagueOffice_Purse_24 (by decide +kernel)) rfl) <|
  mc_1 (mk_p (ms_iload_n (k := 3) (by decide +kernel) rfl) rfl) <|
  mc_1 (mk_c (k := mq_104) rfl ⟨mo_104, 57, 1206, none, ml_m_LeagueOffice_Purse_57, Or.inr (Or.inr (Or.inl ⟨9, TX9, 12, by decide, rfl, rfl, (by decide +kernel), ⟨1, rfl, mx_npd (by decide +kernel)⟩, ml_in_941, ml_se_942⟩))⟩) <|
  mc_1 (mk_p (ms_if_ne (off := (11)) (by decide +kernel) (by decide)) rfl) <|
  mc_1 (mk_p (ms_lload (by decide +kernel)) rfl) <|
  mc_1 (mk_p (ms_lload (by decide +kernel)) rfl) <|
  mc_1 (mk_p (ms_ladd (by decide +kernel)) rfl) <| mc_0
theorem mw_41_12 : ∀ e ∈ mt_41_12, mx_Ok mx_MT mq_41 e.1 e.2 := 
  mc_1 (mk_p (ms_goto (off := (5)) (by decide +kernel) (by decide)) rfl) <|
  mc_1 (mk_p (ms_lload (by decide +kernel)) rfl) <|
  mc_1 (mk_r (Or.inr (Or.inl ⟨rfl, by decide +kernel, rfl⟩)) rfl) <| mc_0
theorem mw_41 : ∀ ch ∈ mt_41, ∀ e ∈ ch, mx_Ok mx_MT mq_41 e.1 e.2 := mc_2 mw_41_0 <| mc_2 mw_41_1 <| mc_2 mw_41_2 <| mc_2 mw_41_3 <| mc_2 mw_41_4 <| mc_2 mw_41_5 <| mc_2 mw_41_6 <| mc_2 mw_41_7 <| mc_2 mw_41_8 <| mc_2 mw_41_9 <| mc_2 mw_41_10 <| mc_2 mw_41_11 <| mc_2 mw_41_12 <| mc_3
/- 42 LeagueOffice$Purse.part(IIIII)J -/
theorem mw_42_0 : ∀ e ∈ mt_42_0, mx_Ok mx_MT mq_42 e.1 e.2 := 
  mc_1 (mk_p (ms_iload_n (k := 1) (by decide +kernel) rfl) rfl) <|
  mc_1 (mk_p (ms_iconst (n := 1) (by decide +kernel) (by decide +kernel)) rfl) <|
  mc_1 (mk_p (ms_icmp_ge (off := (5)) (by decide +kernel) (by decide)) rfl) <|
  mc_1 (mk_p (ms_lconst (n := 0) (by decide +kernel) rfl) rfl) <|
  mc_1 (mk_r (Or.inr (Or.inl ⟨rfl, by decide +kernel, rfl⟩)) rfl) <|
  mc_1 (mk_p (ms_iload_n (k := 0) (by decide +kernel) rfl) rfl) <|
  mc_1 (mk_p (ms_iconst (n := 3) (by decide +kernel) (by decide +kernel)) rfl) <|
  mc_1 (mk_p (ms_idiv (by decide +kernel)) rfl) <|
  mc_1 (mk_p (ms_i2l (by decide +kernel)) rfl) <|
  mc_1 (mk_p (ms_lstore (by decide +kernel) (by decide)) rfl) <|
  mc_1 (mk_p (ms_iload_n (k := 0) (by decide +kernel) rfl) rfl) <|
  mc_1 (mk_p (ms_i2l (by decide +kernel)) rfl) <|
  mc_1 (mk_p (ms_ldc2 (idx := 64) 1210 (by decide +kernel) (by decide +kernel)) rfl) <| mc_0
theorem mw_42_1 : ∀ e ∈ mt_42_1, mx_Ok mx_MT mq_42 e.1 e.2 := 
  mc_1 (mk_p (ms_lload (by decide +kernel)) rfl) <|
  mc_1 (mk_p (ms_lmul (by decide +kernel)) rfl) <|
  mc_1 (mk_p (ms_lsub (by decide +kernel)) rfl) <|
  mc_1 (mk_p (ms_lstore (by decide +kernel) (by decide)) rfl) <|
  mc_1 (mk_p (ms_lload (by decide +kernel)) rfl) <|
  mc_1 (mk_p (ms_iload_n (k := 2) (by decide +kernel) rfl) rfl) <|
  mc_1 (mk_p (ms_i2l (by decide +kernel)) rfl) <|
  mc_1 (mk_p (ms_lmul (by decide +kernel)) rfl) <|
  mc_1 (mk_p (ms_iconst (n := 1) (by decide +kernel) (by decide +kernel)) rfl) <|
  mc_1 (mk_p (ms_iload_n (k := 1) (by decide +kernel) rfl) rfl) <|
  mc_1 (mk_p (ms_iload_n (k := 1) (by decide +kernel) rfl) rfl) <| mc_0
theorem mw_42_2 : ∀ e ∈ mt_42_2, mx_Ok mx_MT mq_42 e.1 e.2 := 
  mc_1 (mk_p (ms_iconst (n := 1) (by decide +kernel) (by decide +kernel)) rfl) <|
  mc_1 (mk_p (ms_iadd (by decide +kernel)) rfl) <|
  mc_1 (mk_p (ms_imul (by decide +kernel)) rfl) <|
  mc_1 (mk_p (ms_iconst (n := 2) (by decide +kernel) (by decide +kernel)) rfl) <|
  mc_1 (mk_p (ms_idiv (by decide +kernel)) rfl) <|
  mc_1 (mk_p (ms_max (idx := 66) 1211 118 80 119 (by decide +kernel) (by decide +kernel) (by decide +kernel) (by decide +kernel) (by decide +kernel)) rfl) <|
  mc_1 (mk_p (ms_i2l (by decide +kernel)) rfl) <|
  mc_1 (mk_p (ms_ldiv (by decide +kernel)) rfl) <|
  mc_1 (mk_p (ms_lstore (by decide +kernel) (by decide)) rfl) <|
  mc_1 (mk_p (ms_iload (by decide +kernel)) rfl) <|
  mc_1 (mk_p (ms_if_le (off := (15)) (by decide +kernel) (by decide)) rfl) <| mc_0
theorem mw_42_3 : ∀ e ∈ mt_42_3, mx_Ok mx_MT mq_42 e.1 e.2 := 
  mc_1 (mk_p (ms_lload (by decide +kernel)) rfl) <|
  mc_1 (mk_p (ms_iload_n (k := 3) (by decide +kernel) rfl) rfl) <|
  mc_1 (mk_p (ms_i2l (by decide +kernel)) rfl) <|
  mc_1 (mk_p (ms_lmul (by decide +kernel)) rfl) <|
  mc_1 (mk_p (ms_iload (by decide +kernel)) rfl) <|
  mc_1 (mk_p (ms_i2l (by decide +kernel)) rfl) <|
  mc_1 (mk_p (ms_ldiv (by decide +kernel)) rfl) <|
  mc_1 (mk_p (ms_goto (off := (8)) (by decide +kernel) (by decide)) rfl) <|
  mc_1 (mk_p (ms_lload (by decide +kernel)) rfl) <|
  mc_1 (mk_p (ms_iload_n (k := 1) (by decide +kernel) rfl) rfl) <| mc_0
theorem mw_42_4 : ∀ e ∈ mt_42_4, mx_Ok mx_MT mq_42 e.1 e.2 := 
  mc_1 (mk_p (ms_i2l (by decide +kernel)) rfl) <|
  mc_1 (mk_p (ms_ldiv (by decide +kernel)) rfl) <|
  mc_1 (mk_p (ms_lstore (by decide +kernel) (by decide)) rfl) <|
  mc_1 (mk_p (ms_lload (by decide +kernel)) rfl) <|
  mc_1 (mk_p (ms_iload_n (k := 1) (by decide +kernel) rfl) rfl) <|
  mc_1 (mk_p (ms_i2l (by decide +kernel)) rfl) <|
  mc_1 (mk_p (ms_ldiv (by decide +kernel)) rfl) <|
  mc_1 (mk_p (ms_lload (by decide +kernel)) rfl) <|
  mc_1 (mk_p (ms_ladd (by decide +kernel)) rfl) <|
  mc_1 (mk_p (ms_lload (by decide +kernel)) rfl) <|
  mc_1 (mk_p (ms_ladd (by decide +kernel)) rfl) <|
  mc_1 (mk_r (Or.inr (Or.inl ⟨rfl, by decide +kernel, rfl⟩)) rfl) <| mc_0
theorem mw_42 : ∀ ch ∈ mt_42, ∀ e ∈ ch, mx_Ok mx_MT mq_42 e.1 e.2 := mc_2 mw_42_0 <| mc_2 mw_42_1 <| mc_2 mw_42_2 <| mc_2 mw_42_3 <| mc_2 mw_42_4 <| mc_3
/- 43 LeagueOffice$Purse.sumGates()V -/
theorem mw_43_0 : ∀ e ∈ mt_43_0, mx_Ok mx_MT mq_43 e.1 e.2 := 
  mc_1 (mk_p (ms_aload_n (k := 0) (by decide +kernel) rfl) rfl) <|
  mc_1 (mk_p (ms_get (idx := 14) (w := 461) (host := none) mx_c4 (by decide) ml_f_LeagueOffice_Purse_14 (by decide +kernel)) rfl) <|
  mc_1 (mk_p (ms_iconst (n := 0) (by decide +kernel) (by decide +kernel)) rfl) <|
  mc_1 (mk_c (k := mq_76) rfl ⟨mo_76, 72, 1198, none, ml_m_LeagueOffice_Purse_72, Or.inr (Or.inr (Or.inl ⟨6, TX6, 2, by decide, rfl, rfl, (by decide +kernel), ⟨1, rfl, mx_npd (by decide +kernel)⟩, ml_in_857, ml_se_858⟩))⟩) <|
  mc_1 (mk_p (ms_iconst (n := 0) (by decide +kernel) (by decide +kernel)) rfl) <|
  mc_1 (mk_p (ms_istore_n (k := 1) (by decide +kernel) rfl (by decide)) rfl) <|
  mc_1 (mk_p (ms_iload_n (k := 1) (by decide +kernel) rfl) rfl) <|
  mc_1 (mk_p (ms_aload_n (k := 0) (by decide +kernel) rfl) rfl) <|
  mc_1 (mk_p (ms_get (idx := 20) (w := 459) (host := none) mx_c4 (by decide) ml_f_LeagueOffice_Purse_20 (by decide +kernel)) rfl) <|
  mc_1 (mk_p (ms_get (idx := 75) (w := 146) (host := (some "LeagueOffice")) mx_c0 (by decide) ml_f_LeagueOffice_Purse_75 (by decide +kernel)) rfl) <| mc_0
theorem mw_43_1 : ∀ e ∈ mt_43_1, mx_Ok mx_MT mq_43 e.1 e.2 := 
  mc_1 (mk_c (k := mq_65) rfl ⟨mo_65, 45, 1199, none, ml_m_LeagueOffice_Purse_45, Or.inr (Or.inr (Or.inl ⟨6, TX6, 2, by decide, rfl, rfl, (by decide +kernel), ⟨0, rfl, mx_npd (by decide +kernel)⟩, ml_in_587, ml_se_588⟩))⟩) <|
  mc_1 (mk_p (ms_icmp_ge (off := (107)) (by decide +kernel) (by decide)) rfl) <|
  mc_1 (mk_p (ms_aload_n (k := 0) (by decide +kernel) rfl) rfl) <|
  mc_1 (mk_p (ms_get (idx := 20) (w := 459) (host := none) mx_c4 (by decide) ml_f_LeagueOffice_Purse_20 (by decide +kernel)) rfl) <|
  mc_1 (mk_p (ms_get (idx := 78) (w := 180) (host := (some "LeagueOffice")) mx_c0 (by decide) ml_f_LeagueOffice_Purse_78 (by decide +kernel)) rfl) <|
  mc_1 (mk_p (ms_iload_n (k := 1) (by decide +kernel) rfl) rfl) <| mc_0
theorem mw_43_2 : ∀ e ∈ mt_43_2, mx_Ok mx_MT mq_43 e.1 e.2 := 
  mc_1 (mk_c (k := mq_68) rfl ⟨mo_68, 53, 1200, none, ml_m_LeagueOffice_Purse_53, Or.inr (Or.inr (Or.inl ⟨6, TX6, 2, by decide, rfl, rfl, (by decide +kernel), ⟨1, rfl, mx_npd (by decide +kernel)⟩, ml_in_591, ml_se_592⟩))⟩) <|
  mc_1 (mk_p (ms_if_ge (off := (6)) (by decide +kernel) (by decide)) rfl) <|
  mc_1 (mk_p (ms_goto (off := (84)) (by decide +kernel) (by decide)) rfl) <|
  mc_1 (mk_p (ms_gets (q := ("LeagueOffice", "GATES", "[I", .ref 1002)) (idx := 81) (w := 1201) (host := (some "LeagueOffice")) rfl ml_f_LeagueOffice_Purse_81 (by decide +kernel)) rfl) <|
  mc_1 (mk_p (ms_aload_n (k := 0) (by decide +kernel) rfl) rfl) <|
  mc_1 (mk_p (ms_get (idx := 20) (w := 459) (host := none) mx_c4 (by decide) ml_f_LeagueOffice_Purse_20 (by decide +kernel)) rfl) <| mc_0
theorem mw_43_3 : ∀ e ∈ mt_43_3, mx_Ok mx_MT mq_43 e.1 e.2 := 
  mc_1 (mk_p (ms_get (idx := 75) (w := 146) (host := (some "LeagueOffice")) mx_c0 (by decide) ml_f_LeagueOffice_Purse_75 (by decide +kernel)) rfl) <|
  mc_1 (mk_p (ms_iload_n (k := 1) (by decide +kernel) rfl) rfl) <|
  mc_1 (mk_c (k := mq_68) rfl ⟨mo_68, 53, 1200, none, ml_m_LeagueOffice_Purse_53, Or.inr (Or.inr (Or.inl ⟨6, TX6, 2, by decide, rfl, rfl, (by decide +kernel), ⟨1, rfl, mx_npd (by decide +kernel)⟩, ml_in_591, ml_se_592⟩))⟩) <|
  mc_1 (mk_c (k := mq_161) rfl ⟨mo_161, 85, 1202, (some "LeagueOffice"), ml_m_LeagueOffice_Purse_85, Or.inl ⟨rfl, (by decide +kernel), mx_npd (by decide +kernel), ml_st_786⟩⟩) <|
  mc_1 (mk_p (ms_istore_n (k := 2) (by decide +kernel) rfl (by decide)) rfl) <|
  mc_1 (mk_p (ms_iload_n (k := 2) (by decide +kernel) rfl) rfl) <|
  mc_1 (mk_p (ms_gets (q := ("LeagueOffice", "HOME_PARTS", "[I", .ref 1003)) (idx := 89) (w := 1203) (host := (some "LeagueOffice")) rfl ml_f_LeagueOffice_Purse_89 (by decide +kernel)) rfl) <|
  mc_1 (mk_p (ms_aload_n (k := 0) (by decide +kernel) rfl) rfl) <| mc_0
theorem mw_43_4 : ∀ e ∈ mt_43_4, mx_Ok mx_MT mq_43 e.1 e.2 := 
  mc_1 (mk_p (ms_get (idx := 20) (w := 459) (host := none) mx_c4 (by decide) ml_f_LeagueOffice_Purse_20 (by decide +kernel)) rfl) <|
  mc_1 (mk_p (ms_get (idx := 75) (w := 146) (host := (some "LeagueOffice")) mx_c0 (by decide) ml_f_LeagueOffice_Purse_75 (by decide +kernel)) rfl) <|
  mc_1 (mk_p (ms_iload_n (k := 1) (by decide +kernel) rfl) rfl) <|
  mc_1 (mk_c (k := mq_68) rfl ⟨mo_68, 53, 1200, none, ml_m_LeagueOffice_Purse_53, Or.inr (Or.inr (Or.inl ⟨6, TX6, 2, by decide, rfl, rfl, (by decide +kernel), ⟨1, rfl, mx_npd (by decide +kernel)⟩, ml_in_591, ml_se_592⟩))⟩) <|
  mc_1 (mk_c (k := mq_161) rfl ⟨mo_161, 85, 1202, (some "LeagueOffice"), ml_m_LeagueOffice_Purse_85, Or.inl ⟨rfl, (by decide +kernel), mx_npd (by decide +kernel), ml_st_786⟩⟩) <|
  mc_1 (mk_p (ms_imul (by decide +kernel)) rfl) <|
  mc_1 (mk_p (ms_bipush (n := 100) (by decide +kernel) (by decide +kernel)) rfl) <| mc_0
theorem mw_43_5 : ∀ e ∈ mt_43_5, mx_Ok mx_MT mq_43 e.1 e.2 := 
  mc_1 (mk_p (ms_idiv (by decide +kernel)) rfl) <|
  mc_1 (mk_p (ms_istore_n (k := 3) (by decide +kernel) rfl (by decide)) rfl) <|
  mc_1 (mk_p (ms_aload_n (k := 0) (by decide +kernel) rfl) rfl) <|
  mc_1 (mk_p (ms_get (idx := 14) (w := 461) (host := none) mx_c4 (by decide) ml_f_LeagueOffice_Purse_14 (by decide +kernel)) rfl) <|
  mc_1 (mk_p (ms_aload_n (k := 0) (by decide +kernel) rfl) rfl) <|
  mc_1 (mk_p (ms_get (idx := 20) (w := 459) (host := none) mx_c4 (by decide) ml_f_LeagueOffice_Purse_20 (by decide +kernel)) rfl) <|
  mc_1 (mk_p (ms_get (idx := 92) (w := 152) (host := (some "LeagueOffice")) mx_c0 (by decide) ml_f_LeagueOffice_Purse_92 (by decide +kernel)) rfl) <|
  mc_1 (mk_p (ms_iload_n (k := 1) (by decide +kernel) rfl) rfl) <|
  mc_1 (mk_c (k := mq_68) rfl ⟨mo_68, 53, 1200, none, ml_m_LeagueOffice_Purse_53, Or.inr (Or.inr (Or.inl ⟨6, TX6, 2, by decide, rfl, rfl, (by decide +kernel), ⟨1, rfl, mx_npd (by decide +kernel)⟩, ml_in_591, ml_se_592⟩))⟩) <| mc_0
theorem mw_43_6 : ∀ e ∈ mt_43_6, mx_Ok mx_MT mq_43 e.1 e.2 := 
  mc_1 (mk_p (ms_iload_n (k := 3) (by decide +kernel) rfl) rfl) <|
  mc_1 (mk_c (k := mq_70) rfl ⟨mo_70, 95, 1204, none, ml_m_LeagueOffice_Purse_95, Or.inr (Or.inr (Or.inl ⟨6, TX6, 2, by decide, rfl, rfl, (by decide +kernel), ⟨2, rfl, mx_npd (by decide +kernel)⟩, ml_in_881, ml_se_882⟩))⟩) <|
  mc_1 (mk_p (ms_aload_n (k := 0) (by decide +kernel) rfl) rfl) <|
  mc_1 (mk_p (ms_get (idx := 14) (w := 461) (host := none) mx_c4 (by decide) ml_f_LeagueOffice_Purse_14 (by decide +kernel)) rfl) <|
  mc_1 (mk_p (ms_aload_n (k := 0) (by decide +kernel) rfl) rfl) <|
  mc_1 (mk_p (ms_get (idx := 20) (w := 459) (host := none) mx_c4 (by decide) ml_f_LeagueOffice_Purse_20 (by decide +kernel)) rfl) <|
  mc_1 (mk_p (ms_get (idx := 99) (w := 159) (host := (some "LeagueOffice")) mx_c0 (by decide) ml_f_LeagueOffice_Purse_99 (by decide +kernel)) rfl) <| mc_0
theorem mw_43_7 : ∀ e ∈ mt_43_7, mx_Ok mx_MT mq_43 e.1 e.2 := 
  mc_1 (mk_p (ms_iload_n (k := 1) (by decide +kernel) rfl) rfl) <|
  mc_1 (mk_c (k := mq_68) rfl ⟨mo_68, 53, 1200, none, ml_m_LeagueOffice_Purse_53, Or.inr (Or.inr (Or.inl ⟨6, TX6, 2, by decide, rfl, rfl, (by decide +kernel), ⟨1, rfl, mx_npd (by decide +kernel)⟩, ml_in_591, ml_se_592⟩))⟩) <|
  mc_1 (mk_p (ms_iload_n (k := 2) (by decide +kernel) rfl) rfl) <|
  mc_1 (mk_p (ms_iload_n (k := 3) (by decide +kernel) rfl) rfl) <|
  mc_1 (mk_p (ms_isub (by decide +kernel)) rfl) <|
  mc_1 (mk_c (k := mq_70) rfl ⟨mo_70, 95, 1204, none, ml_m_LeagueOffice_Purse_95, Or.inr (Or.inr (Or.inl ⟨6, TX6, 2, by decide, rfl, rfl, (by decide +kernel), ⟨2, rfl, mx_npd (by decide +kernel)⟩, ml_in_881, ml_se_882⟩))⟩) <|
  mc_1 (mk_p (ms_iinc (n := (1)) (by decide +kernel) (by decide +kernel) (by decide)) rfl) <|
  mc_1 (mk_p (ms_goto (off := (-115)) (by decide +kernel) (by decide)) rfl) <| mc_0
theorem mw_43_8 : ∀ e ∈ mt_43_8, mx_Ok mx_MT mq_43 e.1 e.2 := 
  mc_1 (mk_r (Or.inr (Or.inr (Or.inr ⟨rfl, by decide +kernel, rfl⟩))) rfl) <| mc_0
theorem mw_43 : ∀ ch ∈ mt_43, ∀ e ∈ ch, mx_Ok mx_MT mq_43 e.1 e.2 := mc_2 mw_43_0 <| mc_2 mw_43_1 <| mc_2 mw_43_2 <| mc_2 mw_43_3 <| mc_2 mw_43_4 <| mc_2 mw_43_5 <| mc_2 mw_43_6 <| mc_2 mw_43_7 <| mc_2 mw_43_8 <| mc_3
/- 44 LeagueOffice$Reader.<init>(LLeagueOffice$Texts;)V -/
theorem mw_44_0 : ∀ e ∈ mt_44_0, mx_Ok mx_MT mq_44 e.1 e.2 := 
  mc_1 (mk_p (ms_aload_n (k := 0) (by decide +kernel) rfl) rfl) <|
  mc_1 (mk_p (ms_obj (idx := 3) 249 103 104 (by decide +kernel) (by decide +kernel) (by decide +kernel) (by decide +kernel)) rfl) <|
  mc_1 (mk_p (ms_aload_n (k := 0) (by decide +kernel) rfl) rfl) <|
  mc_1 (mk_p (mn_6 (idx := 9) 250 (by decide +kernel) (by decide +kernel)) rfl) <|
  mc_1 (mk_p (ms_dup (by decide +kernel)) rfl) <|
  mc_1 (mk_p (ms_sipush (n := 160) (by decide +kernel) (by decide +kernel)) rfl) <|
  mc_1 (mk_c (k := mq_64) rfl ⟨mo_64, 11, 251, none, ml_m_LeagueOffice_Reader_11, Or.inr (Or.inl ⟨rfl, (by decide +kernel), ⟨1, rfl, mx_npd (by decide +kernel)⟩, ml_in_114, rfl, rfl⟩)⟩) <|
  mc_1 (mk_p (ms_putF (idx := 14) (w := 253) mx_c5 (by decide) ml_f_LeagueOffice_Reader_14 rfl rfl rfl rfl (by decide +kernel)) rfl) <| mc_0
theorem mw_44_1 : ∀ e ∈ mt_44_1, mx_Ok mx_MT mq_44 e.1 e.2 := 
  mc_1 (mk_p (ms_aload_n (k := 0) (by decide +kernel) rfl) rfl) <|
  mc_1 (mk_p (mn_6 (idx := 9) 250 (by decide +kernel) (by decide +kernel)) rfl) <|
  mc_1 (mk_p (ms_dup (by decide +kernel)) rfl) <|
  mc_1 (mk_p (ms_sipush (n := 161) (by decide +kernel) (by decide +kernel)) rfl) <|
  mc_1 (mk_c (k := mq_64) rfl ⟨mo_64, 11, 251, none, ml_m_LeagueOffice_Reader_11, Or.inr (Or.inl ⟨rfl, (by decide +kernel), ⟨1, rfl, mx_npd (by decide +kernel)⟩, ml_in_114, rfl, rfl⟩)⟩) <|
  mc_1 (mk_p (ms_putF (idx := 20) (w := 255) mx_c5 (by decide) ml_f_LeagueOffice_Reader_20 rfl rfl rfl rfl (by decide +kernel)) rfl) <| mc_0
theorem mw_44_2 : ∀ e ∈ mt_44_2, mx_Ok mx_MT mq_44 e.1 e.2 := 
  mc_1 (mk_p (ms_aload_n (k := 0) (by decide +kernel) rfl) rfl) <|
  mc_1 (mk_p (mn_6 (idx := 9) 250 (by decide +kernel) (by decide +kernel)) rfl) <|
  mc_1 (mk_p (ms_dup (by decide +kernel)) rfl) <|
  mc_1 (mk_p (ms_sipush (n := 161) (by decide +kernel) (by decide +kernel)) rfl) <|
  mc_1 (mk_c (k := mq_64) rfl ⟨mo_64, 11, 251, none, ml_m_LeagueOffice_Reader_11, Or.inr (Or.inl ⟨rfl, (by decide +kernel), ⟨1, rfl, mx_npd (by decide +kernel)⟩, ml_in_114, rfl, rfl⟩)⟩) <|
  mc_1 (mk_p (ms_putF (idx := 23) (w := 256) mx_c5 (by decide) ml_f_LeagueOffice_Reader_23 rfl rfl rfl rfl (by decide +kernel)) rfl) <|
  mc_1 (mk_p (ms_aload_n (k := 0) (by decide +kernel) rfl) rfl) <|
  mc_1 (mk_p (mn_6 (idx := 9) 250 (by decide +kernel) (by decide +kernel)) rfl) <| mc_0
theorem mw_44_3 : ∀ e ∈ mt_44_3, mx_Ok mx_MT mq_44 e.1 e.2 := 
  mc_1 (mk_p (ms_dup (by decide +kernel)) rfl) <|
  mc_1 (mk_p (ms_sipush (n := 161) (by decide +kernel) (by decide +kernel)) rfl) <|
  mc_1 (mk_c (k := mq_64) rfl ⟨mo_64, 11, 251, none, ml_m_LeagueOffice_Reader_11, Or.inr (Or.inl ⟨rfl, (by decide +kernel), ⟨1, rfl, mx_npd (by decide +kernel)⟩, ml_in_114, rfl, rfl⟩)⟩) <|
  mc_1 (mk_p (ms_putF (idx := 26) (w := 257) mx_c5 (by decide) ml_f_LeagueOffice_Reader_26 rfl rfl rfl rfl (by decide +kernel)) rfl) <|
  mc_1 (mk_p (ms_aload_n (k := 0) (by decide +kernel) rfl) rfl) <|
  mc_1 (mk_p (ms_aload_n (k := 1) (by decide +kernel) rfl) rfl) <|
  mc_1 (mk_p (ms_putF (idx := 29) (w := 252) mx_c5 (by decide) ml_f_LeagueOffice_Reader_29 rfl rfl rfl rfl (by decide +kernel)) rfl) <| mc_0
theorem mw_44_4 : ∀ e ∈ mt_44_4, mx_Ok mx_MT mq_44 e.1 e.2 := 
  mc_1 (mk_r (Or.inr (Or.inr (Or.inr ⟨rfl, by decide +kernel, rfl⟩))) rfl) <| mc_0
theorem mw_44 : ∀ ch ∈ mt_44, ∀ e ∈ ch, mx_Ok mx_MT mq_44 e.1 e.2 := mc_2 mw_44_0 <| mc_2 mw_44_1 <| mc_2 mw_44_2 <| mc_2 mw_44_3 <| mc_2 mw_44_4 <| mc_3
/- 45 LeagueOffice$Reader.readTape()I -/
theorem mw_45_0 : ∀ e ∈ mt_45_0, mx_Ok mx_MT mq_45 e.1 e.2 := 
  mc_1 (mk_p (ms_aload_n (k := 0) (by decide +kernel) rfl) rfl) <|
  mc_1 (mk_c (k := mq_46) rfl ⟨mo_46, 33, 574, none, ml_m_LeagueOffice_Reader_33, Or.inr (Or.inr (Or.inl ⟨5, TX5, 6, by decide, rfl, rfl, (by decide +kernel), ⟨0, rfl, mx_npd (by decide +kernel)⟩, ml_in_576, ml_se_0⟩))⟩) <|
  mc_1 (mk_p (ms_aload_n (k := 0) (by decide +kernel) rfl) rfl) <|
  mc_1 (mk_p (ms_get (idx := 29) (w := 252) (host := none) mx_c5 (by decide) ml_f_LeagueOffice_Reader_29 (by decide +kernel)) rfl) <|
  mc_1 (mk_c (k := mq_107) rfl ⟨mo_107, 36, 646, none, ml_m_LeagueOffice_Reader_36, Or.inr (Or.inr (Or.inl ⟨10, TX10, 8, by decide, rfl, rfl, (by decide +kernel), ⟨0, rfl, mx_npd (by decide +kernel)⟩, ml_in_647, ml_se_648⟩))⟩) <|
  mc_1 (mk_p (ms_aload_n (k := 0) (by decide +kernel) rfl) rfl) <|
  mc_1 (mk_p (ms_iconst (n := 0) (by decide +kernel) (by decide +kernel)) rfl) <|
  mc_1 (mk_p (ms_put (idx := 41) (w := 258) (host := none) mx_c5 (by decide) ml_f_LeagueOffice_Reader_41 rfl rfl (by decide +kernel)) rfl) <| mc_0
theorem mw_45_1 : ∀ e ∈ mt_45_1, mx_Ok mx_MT mq_45 e.1 e.2 := 
  mc_1 (mk_p (ms_iconst (n := 1) (by decide +kernel) (by decide +kernel)) rfl) <|
  mc_1 (mk_p (ms_istore_n (k := 1) (by decide +kernel) rfl (by decide)) rfl) <|
  mc_1 (mk_p (ms_iconst (n := 0) (by decide +kernel) (by decide +kernel)) rfl) <|
  mc_1 (mk_p (ms_istore_n (k := 2) (by decide +kernel) rfl (by decide)) rfl) <|
  mc_1 (mk_p (ms_iload_n (k := 2) (by decide +kernel) rfl) rfl) <|
  mc_1 (mk_p (ms_iconst (n := 4) (by decide +kernel) (by decide +kernel)) rfl) <|
  mc_1 (mk_p (ms_icmp_ge (off := (19)) (by decide +kernel) (by decide)) rfl) <|
  mc_1 (mk_p (ms_iload_n (k := 1) (by decide +kernel) rfl) rfl) <|
  mc_1 (mk_p (ms_if_eq (off := (15)) (by decide +kernel) (by decide)) rfl) <|
  mc_1 (mk_p (ms_aload_n (k := 0) (by decide +kernel) rfl) rfl) <|
  mc_1 (mk_p (ms_iload_n (k := 2) (by decide +kernel) rfl) rfl) <|
  mc_1 (mk_c (k := mq_59) rfl ⟨mo_59, 45, 651, none, ml_m_LeagueOffice_Reader_45, Or.inr (Or.inr (Or.inl ⟨5, TX5, 6, by decide, rfl, rfl, (by decide +kernel), ⟨1, rfl, mx_npd (by decide +kernel)⟩, ml_in_653, ml_se_8⟩))⟩) <| mc_0
theorem mw_45_2 : ∀ e ∈ mt_45_2, mx_Ok mx_MT mq_45 e.1 e.2 := 
  mc_1 (mk_p (ms_istore_n (k := 1) (by decide +kernel) rfl (by decide)) rfl) <|
  mc_1 (mk_p (ms_iinc (n := (1)) (by decide +kernel) (by decide +kernel) (by decide)) rfl) <|
  mc_1 (mk_p (ms_goto (off := (-18)) (by decide +kernel) (by decide)) rfl) <|
  mc_1 (mk_p (ms_aload_n (k := 0) (by decide +kernel) rfl) rfl) <|
  mc_1 (mk_p (ms_get (idx := 14) (w := 253) (host := none) mx_c5 (by decide) ml_f_LeagueOffice_Reader_14 (by decide +kernel)) rfl) <|
  mc_1 (mk_c (k := mq_75) rfl ⟨mo_75, 49, 578, none, ml_m_LeagueOffice_Reader_49, Or.inr (Or.inr (Or.inl ⟨6, TX6, 2, by decide, rfl, rfl, (by decide +kernel), ⟨0, rfl, mx_npd (by decide +kernel)⟩, ml_in_579, ml_se_580⟩))⟩) <| mc_0
theorem mw_45_3 : ∀ e ∈ mt_45_3, mx_Ok mx_MT mq_45 e.1 e.2 := 
  mc_1 (mk_p (ms_iload_n (k := 1) (by decide +kernel) rfl) rfl) <|
  mc_1 (mk_p (ms_if_eq (off := (17)) (by decide +kernel) (by decide)) rfl) <|
  mc_1 (mk_p (ms_aload_n (k := 0) (by decide +kernel) rfl) rfl) <|
  mc_1 (mk_p (ms_get (idx := 20) (w := 255) (host := none) mx_c5 (by decide) ml_f_LeagueOffice_Reader_20 (by decide +kernel)) rfl) <|
  mc_1 (mk_p (ms_aload_n (k := 0) (by decide +kernel) rfl) rfl) <|
  mc_1 (mk_p (ms_get (idx := 41) (w := 258) (host := none) mx_c5 (by decide) ml_f_LeagueOffice_Reader_41 (by decide +kernel)) rfl) <|
  mc_1 (mk_c (k := mq_68) rfl ⟨mo_68, 52, 590, none, ml_m_LeagueOffice_Reader_52, Or.inr (Or.inr (Or.inl ⟨6, TX6, 2, by decide, rfl, rfl, (by decide +kernel), ⟨1, rfl, mx_npd (by decide +kernel)⟩, ml_in_591, ml_se_592⟩))⟩) <|
  mc_1 (mk_p (ms_if_eq (off := (15)) (by decide +kernel) (by decide)) rfl) <| mc_0
theorem mw_45_4 : ∀ e ∈ mt_45_4, mx_Ok mx_MT mq_45 e.1 e.2 := 
  mc_1 (mk_p (ms_aload_n (k := 0) (by decide +kernel) rfl) rfl) <|
  mc_1 (mk_p (ms_get (idx := 23) (w := 256) (host := none) mx_c5 (by decide) ml_f_LeagueOffice_Reader_23 (by decide +kernel)) rfl) <|
  mc_1 (mk_p (ms_aload_n (k := 0) (by decide +kernel) rfl) rfl) <|
  mc_1 (mk_p (ms_get (idx := 41) (w := 258) (host := none) mx_c5 (by decide) ml_f_LeagueOffice_Reader_41 (by decide +kernel)) rfl) <|
  mc_1 (mk_c (k := mq_68) rfl ⟨mo_68, 52, 590, none, ml_m_LeagueOffice_Reader_52, Or.inr (Or.inr (Or.inl ⟨6, TX6, 2, by decide, rfl, rfl, (by decide +kernel), ⟨1, rfl, mx_npd (by decide +kernel)⟩, ml_in_591, ml_se_592⟩))⟩) <|
  mc_1 (mk_r (Or.inl ⟨rfl, by decide +kernel, _, rfl, mf_0⟩) rfl) <|
  mc_1 (mk_p (ms_aload_n (k := 0) (by decide +kernel) rfl) rfl) <|
  mc_1 (mk_p (ms_get (idx := 29) (w := 252) (host := none) mx_c5 (by decide) ml_f_LeagueOffice_Reader_29 (by decide +kernel)) rfl) <| mc_0
theorem mw_45_5 : ∀ e ∈ mt_45_5, mx_Ok mx_MT mq_45 e.1 e.2 := 
  mc_1 (mk_p (ms_dup (by decide +kernel)) rfl) <|
  mc_1 (mk_p (ms_get (idx := 56) (w := 216) (host := (some "LeagueOffice")) mx_c10 (by decide) ml_f_LeagueOffice_Reader_56 (by decide +kernel)) rfl) <|
  mc_1 (mk_p (ms_iconst (n := 1) (by decide +kernel) (by decide +kernel)) rfl) <|
  mc_1 (mk_p (ms_iadd (by decide +kernel)) rfl) <|
  mc_1 (mk_p (ms_put (idx := 56) (w := 216) (host := (some "LeagueOffice")) mx_c10 (by decide) ml_f_LeagueOffice_Reader_56 rfl rfl (by decide +kernel)) rfl) <|
  mc_1 (mk_p (ms_iconst (n := (-1)) (by decide +kernel) (by decide +kernel)) rfl) <|
  mc_1 (mk_r (Or.inl ⟨rfl, by decide +kernel, _, rfl, mf_0⟩) rfl) <| mc_0
theorem mw_45 : ∀ ch ∈ mt_45, ∀ e ∈ ch, mx_Ok mx_MT mq_45 e.1 e.2 := mc_2 mw_45_0 <| mc_2 mw_45_1 <| mc_2 mw_45_2 <| mc_2 mw_45_3 <| mc_2 mw_45_4 <| mc_2 mw_45_5 <| mc_3
/- 46 LeagueOffice$Reader.split()V -/
theorem mw_46_0 : ∀ e ∈ mt_46_0, mx_Ok mx_MT mq_46 e.1 e.2 := 
  mc_1 (mk_p (ms_aload_n (k := 0) (by decide +kernel) rfl) rfl) <|
  mc_1 (mk_p (ms_get (idx := 20) (w := 255) (host := none) mx_c5 (by decide) ml_f_LeagueOffice_Reader_20 (by decide +kernel)) rfl) <|
  mc_1 (mk_c (k := mq_75) rfl ⟨mo_75, 49, 578, none, ml_m_LeagueOffice_Reader_49, Or.inr (Or.inr (Or.inl ⟨6, TX6, 2, by decide, rfl, rfl, (by decide +kernel), ⟨0, rfl, mx_npd (by decide +kernel)⟩, ml_in_579, ml_se_580⟩))⟩) <|
  mc_1 (mk_p (ms_aload_n (k := 0) (by decide +kernel) rfl) rfl) <|
  mc_1 (mk_p (ms_get (idx := 23) (w := 256) (host := none) mx_c5 (by decide) ml_f_LeagueOffice_Reader_23 (by decide +kernel)) rfl) <|
  mc_1 (mk_c (k := mq_75) rfl ⟨mo_75, 49, 578, none, ml_m_LeagueOffice_Reader_49, Or.inr (Or.inr (Or.inl ⟨6, TX6, 2, by decide, rfl, rfl, (by decide +kernel), ⟨0, rfl, mx_npd (by decide +kernel)⟩, ml_in_579, ml_se_580⟩))⟩) <|
  mc_1 (mk_p (ms_aload_n (k := 0) (by decide +kernel) rfl) rfl) <|
  mc_1 (mk_p (ms_get (idx := 26) (w := 257) (host := none) mx_c5 (by decide) ml_f_LeagueOffice_Reader_26 (by decide +kernel)) rfl) <| mc_0
theorem mw_46_1 : ∀ e ∈ mt_46_1, mx_Ok mx_MT mq_46 e.1 e.2 := 
  mc_1 (mk_c (k := mq_75) rfl ⟨mo_75, 49, 578, none, ml_m_LeagueOffice_Reader_49, Or.inr (Or.inr (Or.inl ⟨6, TX6, 2, by decide, rfl, rfl, (by decide +kernel), ⟨0, rfl, mx_npd (by decide +kernel)⟩, ml_in_579, ml_se_580⟩))⟩) <|
  mc_1 (mk_p (ms_iconst (n := 0) (by decide +kernel) (by decide +kernel)) rfl) <|
  mc_1 (mk_p (ms_istore_n (k := 1) (by decide +kernel) rfl (by decide)) rfl) <|
  mc_1 (mk_p (ms_iconst (n := 1) (by decide +kernel) (by decide +kernel)) rfl) <|
  mc_1 (mk_p (ms_istore_n (k := 2) (by decide +kernel) rfl (by decide)) rfl) <|
  mc_1 (mk_p (ms_iconst (n := 0) (by decide +kernel) (by decide +kernel)) rfl) <|
  mc_1 (mk_p (ms_istore_n (k := 3) (by decide +kernel) rfl (by decide)) rfl) <|
  mc_1 (mk_p (ms_iload_n (k := 3) (by decide +kernel) rfl) rfl) <|
  mc_1 (mk_p (ms_sipush (n := 160) (by decide +kernel) (by decide +kernel)) rfl) <|
  mc_1 (mk_p (ms_icmp_gt (off := (187)) (by decide +kernel) (by decide)) rfl) <| mc_0
theorem mw_46_2 : ∀ e ∈ mt_46_2, mx_Ok mx_MT mq_46 e.1 e.2 := 
  mc_1 (mk_p (ms_iload_n (k := 2) (by decide +kernel) rfl) rfl) <|
  mc_1 (mk_p (ms_if_eq (off := (183)) (by decide +kernel) (by decide)) rfl) <|
  mc_1 (mk_p (ms_aload_n (k := 0) (by decide +kernel) rfl) rfl) <|
  mc_1 (mk_p (ms_iload_n (k := 1) (by decide +kernel) rfl) rfl) <|
  mc_1 (mk_c (k := mq_48) rfl ⟨mo_48, 59, 582, none, ml_m_LeagueOffice_Reader_59, Or.inr (Or.inr (Or.inl ⟨5, TX5, 6, by decide, rfl, rfl, (by decide +kernel), ⟨1, rfl, mx_npd (by decide +kernel)⟩, ml_in_584, ml_se_1⟩))⟩) <|
  mc_1 (mk_p (ms_istore_n (k := 1) (by decide +kernel) rfl (by decide)) rfl) <|
  mc_1 (mk_p (ms_aload_n (k := 0) (by decide +kernel) rfl) rfl) <|
  mc_1 (mk_p (ms_get (idx := 14) (w := 253) (host := none) mx_c5 (by decide) ml_f_LeagueOffice_Reader_14 (by decide +kernel)) rfl) <| mc_0
theorem mw_46_3 : ∀ e ∈ mt_46_3, mx_Ok mx_MT mq_46 e.1 e.2 := 
  mc_1 (mk_p (ms_iload_n (k := 1) (by decide +kernel) rfl) rfl) <|
  mc_1 (mk_c (k := mq_68) rfl ⟨mo_68, 52, 590, none, ml_m_LeagueOffice_Reader_52, Or.inr (Or.inr (Or.inl ⟨6, TX6, 2, by decide, rfl, rfl, (by decide +kernel), ⟨1, rfl, mx_npd (by decide +kernel)⟩, ml_in_591, ml_se_592⟩))⟩) <|
  mc_1 (mk_p (ms_istore (by decide +kernel) (by decide)) rfl) <|
  mc_1 (mk_p (ms_iload_n (k := 1) (by decide +kernel) rfl) rfl) <|
  mc_1 (mk_p (ms_iconst (n := 1) (by decide +kernel) (by decide +kernel)) rfl) <|
  mc_1 (mk_p (ms_iadd (by decide +kernel)) rfl) <|
  mc_1 (mk_p (ms_istore (by decide +kernel) (by decide)) rfl) <|
  mc_1 (mk_p (ms_iload_n (k := 1) (by decide +kernel) rfl) rfl) <|
  mc_1 (mk_p (ms_aload_n (k := 0) (by decide +kernel) rfl) rfl) <|
  mc_1 (mk_p (ms_get (idx := 14) (w := 253) (host := none) mx_c5 (by decide) ml_f_LeagueOffice_Reader_14 (by decide +kernel)) rfl) <| mc_0
theorem mw_46_4 : ∀ e ∈ mt_46_4, mx_Ok mx_MT mq_46 e.1 e.2 := 
  mc_1 (mk_c (k := mq_65) rfl ⟨mo_65, 62, 586, none, ml_m_LeagueOffice_Reader_62, Or.inr (Or.inr (Or.inl ⟨6, TX6, 2, by decide, rfl, rfl, (by decide +kernel), ⟨0, rfl, mx_npd (by decide +kernel)⟩, ml_in_587, ml_se_588⟩))⟩) <|
  mc_1 (mk_p (ms_icmp_lt (off := (13)) (by decide +kernel) (by decide)) rfl) <|
  mc_1 (mk_p (ms_aload_n (k := 0) (by decide +kernel) rfl) rfl) <|
  mc_1 (mk_p (ms_iconst (n := 0) (by decide +kernel) (by decide +kernel)) rfl) <|
  mc_1 (mk_p (ms_iload_n (k := 1) (by decide +kernel) rfl) rfl) <|
  mc_1 (mk_p (ms_iconst (n := 0) (by decide +kernel) (by decide +kernel)) rfl) <|
  mc_1 (mk_c (k := mq_47) rfl ⟨mo_47, 65, 594, none, ml_m_LeagueOffice_Reader_65, Or.inr (Or.inr (Or.inl ⟨5, TX5, 6, by decide, rfl, rfl, (by decide +kernel), ⟨3, rfl, mx_npd (by decide +kernel)⟩, ml_in_596, ml_se_2⟩))⟩) <|
  mc_1 (mk_p (ms_goto (off := (97)) (by decide +kernel) (by decide)) rfl) <| mc_0
theorem mw_46_5 : ∀ e ∈ mt_46_5, mx_Ok mx_MT mq_46 e.1 e.2 := 
  mc_1 (mk_p (ms_iload (by decide +kernel)) rfl) <|
  mc_1 (mk_c (k := mq_55) rfl ⟨mo_55, 69, 599, none, ml_m_LeagueOffice_Reader_69, Or.inl ⟨rfl, (by decide +kernel), mx_npd (by decide +kernel), ml_st_600⟩⟩) <|
  mc_1 (mk_p (ms_if_eq (off := (38)) (by decide +kernel) (by decide)) rfl) <|
  mc_1 (mk_p (ms_aload_n (k := 0) (by decide +kernel) rfl) rfl) <|
  mc_1 (mk_p (ms_iload_n (k := 1) (by decide +kernel) rfl) rfl) <|
  mc_1 (mk_c (k := mq_49) rfl ⟨mo_49, 72, 602, none, ml_m_LeagueOffice_Reader_72, Or.inr (Or.inr (Or.inl ⟨5, TX5, 6, by decide, rfl, rfl, (by decide +kernel), ⟨1, rfl, mx_npd (by decide +kernel)⟩, ml_in_604, ml_se_3⟩))⟩) <|
  mc_1 (mk_p (ms_istore (by decide +kernel) (by decide)) rfl) <|
  mc_1 (mk_p (ms_aload_n (k := 0) (by decide +kernel) rfl) rfl) <| mc_0
theorem mw_46_6 : ∀ e ∈ mt_46_6, mx_Ok mx_MT mq_46 e.1 e.2 := 
  mc_1 (mk_p (ms_iload (by decide +kernel)) rfl) <|
  mc_1 (mk_p (ms_iload_n (k := 1) (by decide +kernel) rfl) rfl) <|
  mc_1 (mk_p (ms_isub (by decide +kernel)) rfl) <|
  mc_1 (mk_p (ms_iconst (n := 4) (by decide +kernel) (by decide +kernel)) rfl) <|
  mc_1 (mk_p (ms_icmp_le (off := (7)) (by decide +kernel) (by decide)) rfl) <|
  mc_1 (mk_p (ms_iconst (n := 1) (by decide +kernel) (by decide +kernel)) rfl) <|
  mc_1 (mk_p (ms_goto (off := (4)) (by decide +kernel) (by decide)) rfl) <|
  mc_1 (mk_p (ms_iconst (n := 2) (by decide +kernel) (by decide +kernel)) rfl) <|
  mc_1 (mk_p (ms_iload_n (k := 1) (by decide +kernel) rfl) rfl) <|
  mc_1 (mk_p (ms_aload_n (k := 0) (by decide +kernel) rfl) rfl) <|
  mc_1 (mk_p (ms_iload_n (k := 1) (by decide +kernel) rfl) rfl) <| mc_0
theorem mw_46_7 : ∀ e ∈ mt_46_7, mx_Ok mx_MT mq_46 e.1 e.2 := 
  mc_1 (mk_p (ms_iload (by decide +kernel)) rfl) <|
  mc_1 (mk_c (k := mq_51) rfl ⟨mo_51, 75, 606, none, ml_m_LeagueOffice_Reader_75, Or.inr (Or.inr (Or.inl ⟨5, TX5, 6, by decide, rfl, rfl, (by decide +kernel), ⟨2, rfl, mx_npd (by decide +kernel)⟩, ml_in_608, ml_se_4⟩))⟩) <|
  mc_1 (mk_c (k := mq_47) rfl ⟨mo_47, 65, 594, none, ml_m_LeagueOffice_Reader_65, Or.inr (Or.inr (Or.inl ⟨5, TX5, 6, by decide, rfl, rfl, (by decide +kernel), ⟨3, rfl, mx_npd (by decide +kernel)⟩, ml_in_596, ml_se_2⟩))⟩) <|
  mc_1 (mk_p (ms_goto (off := (54)) (by decide +kernel) (by decide)) rfl) <|
  mc_1 (mk_p (ms_iload (by decide +kernel)) rfl) <|
  mc_1 (mk_c (k := mq_56) rfl ⟨mo_56, 79, 610, none, ml_m_LeagueOffice_Reader_79, Or.inl ⟨rfl, (by decide +kernel), mx_npd (by decide +kernel), ml_st_611⟩⟩) <| mc_0
theorem mw_46_8 : ∀ e ∈ mt_46_8, mx_Ok mx_MT mq_46 e.1 e.2 := 
  mc_1 (mk_p (ms_if_eq (off := (26)) (by decide +kernel) (by decide)) rfl) <|
  mc_1 (mk_p (ms_aload_n (k := 0) (by decide +kernel) rfl) rfl) <|
  mc_1 (mk_p (ms_iload_n (k := 1) (by decide +kernel) rfl) rfl) <|
  mc_1 (mk_c (k := mq_50) rfl ⟨mo_50, 82, 613, none, ml_m_LeagueOffice_Reader_82, Or.inr (Or.inr (Or.inl ⟨5, TX5, 6, by decide, rfl, rfl, (by decide +kernel), ⟨1, rfl, mx_npd (by decide +kernel)⟩, ml_in_615, ml_se_5⟩))⟩) <|
  mc_1 (mk_p (ms_istore (by decide +kernel) (by decide)) rfl) <|
  mc_1 (mk_p (ms_aload_n (k := 0) (by decide +kernel) rfl) rfl) <|
  mc_1 (mk_p (ms_aload_n (k := 0) (by decide +kernel) rfl) rfl) <|
  mc_1 (mk_p (ms_iload_n (k := 1) (by decide +kernel) rfl) rfl) <|
  mc_1 (mk_p (ms_iload (by decide +kernel)) rfl) <|
  mc_1 (mk_c (k := mq_52) rfl ⟨mo_52, 85, 617, none, ml_m_LeagueOffice_Reader_85, Or.inr (Or.inr (Or.inl ⟨5, TX5, 6, by decide, rfl, rfl, (by decide +kernel), ⟨2, rfl, mx_npd (by decide +kernel)⟩, ml_in_619, ml_se_6⟩))⟩) <| mc_0
theorem mw_46_9 : ∀ e ∈ mt_46_9, mx_Ok mx_MT mq_46 e.1 e.2 := 
  mc_1 (mk_p (ms_iload_n (k := 1) (by decide +kernel) rfl) rfl) <|
  mc_1 (mk_p (ms_iconst (n := 0) (by decide +kernel) (by decide +kernel)) rfl) <|
  mc_1 (mk_c (k := mq_47) rfl ⟨mo_47, 65, 594, none, ml_m_LeagueOffice_Reader_65, Or.inr (Or.inr (Or.inl ⟨5, TX5, 6, by decide, rfl, rfl, (by decide +kernel), ⟨3, rfl, mx_npd (by decide +kernel)⟩, ml_in_596, ml_se_2⟩))⟩) <|
  mc_1 (mk_p (ms_goto (off := (23)) (by decide +kernel) (by decide)) rfl) <|
  mc_1 (mk_p (ms_aload_n (k := 0) (by decide +kernel) rfl) rfl) <|
  mc_1 (mk_p (ms_iload (by decide +kernel)) rfl) <|
  mc_1 (mk_c (k := mq_57) rfl ⟨mo_57, 88, 643, none, ml_m_LeagueOffice_Reader_88, Or.inl ⟨rfl, (by decide +kernel), mx_npd (by decide +kernel), ml_st_644⟩⟩) <| mc_0
theorem mw_46_10 : ∀ e ∈ mt_46_10, mx_Ok mx_MT mq_46 e.1 e.2 := 
  mc_1 (mk_p (ms_if_eq (off := (8)) (by decide +kernel) (by decide)) rfl) <|
  mc_1 (mk_p (ms_iload (by decide +kernel)) rfl) <|
  mc_1 (mk_p (ms_goto (off := (4)) (by decide +kernel) (by decide)) rfl) <|
  mc_1 (mk_p (ms_iconst (n := 1) (by decide +kernel) (by decide +kernel)) rfl) <|
  mc_1 (mk_p (ms_iload_n (k := 1) (by decide +kernel) rfl) rfl) <|
  mc_1 (mk_p (ms_iconst (n := 0) (by decide +kernel) (by decide +kernel)) rfl) <|
  mc_1 (mk_c (k := mq_47) rfl ⟨mo_47, 65, 594, none, ml_m_LeagueOffice_Reader_65, Or.inr (Or.inr (Or.inl ⟨5, TX5, 6, by decide, rfl, rfl, (by decide +kernel), ⟨3, rfl, mx_npd (by decide +kernel)⟩, ml_in_596, ml_se_2⟩))⟩) <|
  mc_1 (mk_p (ms_aload_n (k := 0) (by decide +kernel) rfl) rfl) <|
  mc_1 (mk_p (ms_get (idx := 20) (w := 255) (host := none) mx_c5 (by decide) ml_f_LeagueOffice_Reader_20 (by decide +kernel)) rfl) <| mc_0
theorem mw_46_11 : ∀ e ∈ mt_46_11, mx_Ok mx_MT mq_46 e.1 e.2 := 
  mc_1 (mk_p (ms_aload_n (k := 0) (by decide +kernel) rfl) rfl) <|
  mc_1 (mk_p (ms_get (idx := 20) (w := 255) (host := none) mx_c5 (by decide) ml_f_LeagueOffice_Reader_20 (by decide +kernel)) rfl) <|
  mc_1 (mk_c (k := mq_65) rfl ⟨mo_65, 62, 586, none, ml_m_LeagueOffice_Reader_62, Or.inr (Or.inr (Or.inl ⟨6, TX6, 2, by decide, rfl, rfl, (by decide +kernel), ⟨0, rfl, mx_npd (by decide +kernel)⟩, ml_in_587, ml_se_588⟩))⟩) <|
  mc_1 (mk_p (ms_iconst (n := 1) (by decide +kernel) (by decide +kernel)) rfl) <|
  mc_1 (mk_p (ms_isub (by decide +kernel)) rfl) <|
  mc_1 (mk_c (k := mq_68) rfl ⟨mo_68, 52, 590, none, ml_m_LeagueOffice_Reader_52, Or.inr (Or.inr (Or.inl ⟨6, TX6, 2, by decide, rfl, rfl, (by decide +kernel), ⟨1, rfl, mx_npd (by decide +kernel)⟩, ml_in_591, ml_se_592⟩))⟩) <|
  mc_1 (mk_p (ms_istore (by decide +kernel) (by decide)) rfl) <| mc_0
theorem mw_46_12 : ∀ e ∈ mt_46_12, mx_Ok mx_MT mq_46 e.1 e.2 := 
  mc_1 (mk_p (ms_iload (by decide +kernel)) rfl) <|
  mc_1 (mk_p (ms_if_eq (off := (13)) (by decide +kernel) (by decide)) rfl) <|
  mc_1 (mk_p (ms_iload (by decide +kernel)) rfl) <|
  mc_1 (mk_p (ms_iconst (n := 1) (by decide +kernel) (by decide +kernel)) rfl) <|
  mc_1 (mk_p (ms_icmp_eq (off := (7)) (by decide +kernel) (by decide)) rfl) <|
  mc_1 (mk_p (ms_iconst (n := 1) (by decide +kernel) (by decide +kernel)) rfl) <|
  mc_1 (mk_p (ms_goto (off := (4)) (by decide +kernel) (by decide)) rfl) <|
  mc_1 (mk_p (ms_iconst (n := 0) (by decide +kernel) (by decide +kernel)) rfl) <| mc_0
theorem mw_46_13 : ∀ e ∈ mt_46_13, mx_Ok mx_MT mq_46 e.1 e.2 := 
  mc_1 (mk_p (ms_istore_n (k := 2) (by decide +kernel) rfl (by decide)) rfl) <|
  mc_1 (mk_p (ms_iload (by decide +kernel)) rfl) <|
  mc_1 (mk_p (ms_istore_n (k := 1) (by decide +kernel) rfl (by decide)) rfl) <|
  mc_1 (mk_p (ms_iinc (n := (1)) (by decide +kernel) (by decide +kernel) (by decide)) rfl) <|
  mc_1 (mk_p (ms_goto (off := (-188)) (by decide +kernel) (by decide)) rfl) <|
  mc_1 (mk_r (Or.inr (Or.inr (Or.inr ⟨rfl, by decide +kernel, rfl⟩))) rfl) <| mc_0
theorem mw_46 : ∀ ch ∈ mt_46, ∀ e ∈ ch, mx_Ok mx_MT mq_46 e.1 e.2 := mc_2 mw_46_0 <| mc_2 mw_46_1 <| mc_2 mw_46_2 <| mc_2 mw_46_3 <| mc_2 mw_46_4 <| mc_2 mw_46_5 <| mc_2 mw_46_6 <| mc_2 mw_46_7 <| mc_2 mw_46_8 <| mc_2 mw_46_9 <| mc_2 mw_46_10 <| mc_2 mw_46_11 <| mc_2 mw_46_12 <| mc_2 mw_46_13 <| mc_3
/- 47 LeagueOffice$Reader.addToken(III)V -/
theorem mw_47_0 : ∀ e ∈ mt_47_0, mx_Ok mx_MT mq_47 e.1 e.2 := 
  mc_1 (mk_p (ms_aload_n (k := 0) (by decide +kernel) rfl) rfl) <|
  mc_1 (mk_p (ms_get (idx := 20) (w := 255) (host := none) mx_c5 (by decide) ml_f_LeagueOffice_Reader_20 (by decide +kernel)) rfl) <|
  mc_1 (mk_p (ms_iload_n (k := 1) (by decide +kernel) rfl) rfl) <|
  mc_1 (mk_c (k := mq_71) rfl ⟨mo_71, 91, 598, none, ml_m_LeagueOffice_Reader_91, Or.inr (Or.inr (Or.inl ⟨6, TX6, 2, by decide, rfl, rfl, (by decide +kernel), ⟨1, rfl, mx_npd (by decide +kernel)⟩, ml_in_567, ml_se_568⟩))⟩) <|
  mc_1 (mk_p (ms_pop (by decide +kernel)) rfl) <|
  mc_1 (mk_p (ms_aload_n (k := 0) (by decide +kernel) rfl) rfl) <|
  mc_1 (mk_p (ms_get (idx := 23) (w := 256) (host := none) mx_c5 (by decide) ml_f_LeagueOffice_Reader_23 (by decide +kernel)) rfl) <|
  mc_1 (mk_p (ms_iload_n (k := 2) (by decide +kernel) rfl) rfl) <|
  mc_1 (mk_c (k := mq_71) rfl ⟨mo_71, 91, 598, none, ml_m_LeagueOffice_Reader_91, Or.inr (Or.inr (Or.inl ⟨6, TX6, 2, by decide, rfl, rfl, (by decide +kernel), ⟨1, rfl, mx_npd (by decide +kernel)⟩, ml_in_567, ml_se_568⟩))⟩) <| mc_0
theorem mw_47_1 : ∀ e ∈ mt_47_1, mx_Ok mx_MT mq_47 e.1 e.2 := 
  mc_1 (mk_p (ms_pop (by decide +kernel)) rfl) <|
  mc_1 (mk_p (ms_aload_n (k := 0) (by decide +kernel) rfl) rfl) <|
  mc_1 (mk_p (ms_get (idx := 26) (w := 257) (host := none) mx_c5 (by decide) ml_f_LeagueOffice_Reader_26 (by decide +kernel)) rfl) <|
  mc_1 (mk_p (ms_iload_n (k := 3) (by decide +kernel) rfl) rfl) <|
  mc_1 (mk_c (k := mq_71) rfl ⟨mo_71, 91, 598, none, ml_m_LeagueOffice_Reader_91, Or.inr (Or.inr (Or.inl ⟨6, TX6, 2, by decide, rfl, rfl, (by decide +kernel), ⟨1, rfl, mx_npd (by decide +kernel)⟩, ml_in_567, ml_se_568⟩))⟩) <|
  mc_1 (mk_p (ms_pop (by decide +kernel)) rfl) <|
  mc_1 (mk_r (Or.inr (Or.inr (Or.inr ⟨rfl, by decide +kernel, rfl⟩))) rfl) <| mc_0
theorem mw_47 : ∀ ch ∈ mt_47, ∀ e ∈ ch, mx_Ok mx_MT mq_47 e.1 e.2 := mc_2 mw_47_0 <| mc_2 mw_47_1 <| mc_3
/- 48 LeagueOffice$Reader.behindBlanks(I)I -/
theorem mw_48_0 : ∀ e ∈ mt_48_0, mx_Ok mx_MT mq_48 e.1 e.2 := 
  mc_1 (mk_p (ms_iload_n (k := 1) (by decide +kernel) rfl) rfl) <|
  mc_1 (mk_p (ms_istore_n (k := 2) (by decide +kernel) rfl (by decide)) rfl) <|
  mc_1 (mk_p (ms_iload_n (k := 2) (by decide +kernel) rfl) rfl) <|
  mc_1 (mk_p (ms_aload_n (k := 0) (by decide +kernel) rfl) rfl) <|
  mc_1 (mk_p (ms_get (idx := 14) (w := 253) (host := none) mx_c5 (by decide) ml_f_LeagueOffice_Reader_14 (by decide +kernel)) rfl) <|
  mc_1 (mk_c (k := mq_65) rfl ⟨mo_65, 62, 586, none, ml_m_LeagueOffice_Reader_62, Or.inr (Or.inr (Or.inl ⟨6, TX6, 2, by decide, rfl, rfl, (by decide +kernel), ⟨0, rfl, mx_npd (by decide +kernel)⟩, ml_in_587, ml_se_588⟩))⟩) <|
  mc_1 (mk_p (ms_icmp_ge (off := (35)) (by decide +kernel) (by decide)) rfl) <|
  mc_1 (mk_p (ms_aload_n (k := 0) (by decide +kernel) rfl) rfl) <|
  mc_1 (mk_p (ms_get (idx := 14) (w := 253) (host := none) mx_c5 (by decide) ml_f_LeagueOffice_Reader_14 (by decide +kernel)) rfl) <| mc_0
theorem mw_48_1 : ∀ e ∈ mt_48_1, mx_Ok mx_MT mq_48 e.1 e.2 := 
  mc_1 (mk_p (ms_iload_n (k := 2) (by decide +kernel) rfl) rfl) <|
  mc_1 (mk_c (k := mq_68) rfl ⟨mo_68, 52, 590, none, ml_m_LeagueOffice_Reader_52, Or.inr (Or.inr (Or.inl ⟨6, TX6, 2, by decide, rfl, rfl, (by decide +kernel), ⟨1, rfl, mx_npd (by decide +kernel)⟩, ml_in_591, ml_se_592⟩))⟩) <|
  mc_1 (mk_p (ms_bipush (n := 32) (by decide +kernel) (by decide +kernel)) rfl) <|
  mc_1 (mk_p (ms_icmp_eq (off := (16)) (by decide +kernel) (by decide)) rfl) <|
  mc_1 (mk_p (ms_aload_n (k := 0) (by decide +kernel) rfl) rfl) <|
  mc_1 (mk_p (ms_get (idx := 14) (w := 253) (host := none) mx_c5 (by decide) ml_f_LeagueOffice_Reader_14 (by decide +kernel)) rfl) <|
  mc_1 (mk_p (ms_iload_n (k := 2) (by decide +kernel) rfl) rfl) <|
  mc_1 (mk_c (k := mq_68) rfl ⟨mo_68, 52, 590, none, ml_m_LeagueOffice_Reader_52, Or.inr (Or.inr (Or.inl ⟨6, TX6, 2, by decide, rfl, rfl, (by decide +kernel), ⟨1, rfl, mx_npd (by decide +kernel)⟩, ml_in_591, ml_se_592⟩))⟩) <| mc_0
theorem mw_48_2 : ∀ e ∈ mt_48_2, mx_Ok mx_MT mq_48 e.1 e.2 := 
  mc_1 (mk_p (ms_bipush (n := 10) (by decide +kernel) (by decide +kernel)) rfl) <|
  mc_1 (mk_p (ms_icmp_ne (off := (9)) (by decide +kernel) (by decide)) rfl) <|
  mc_1 (mk_p (ms_iinc (n := (1)) (by decide +kernel) (by decide +kernel) (by decide)) rfl) <|
  mc_1 (mk_p (ms_goto (off := (-40)) (by decide +kernel) (by decide)) rfl) <|
  mc_1 (mk_p (ms_iload_n (k := 2) (by decide +kernel) rfl) rfl) <|
  mc_1 (mk_r (Or.inl ⟨rfl, by decide +kernel, _, rfl, mf_0⟩) rfl) <| mc_0
theorem mw_48 : ∀ ch ∈ mt_48, ∀ e ∈ ch, mx_Ok mx_MT mq_48 e.1 e.2 := mc_2 mw_48_0 <| mc_2 mw_48_1 <| mc_2 mw_48_2 <| mc_3
/- 49 LeagueOffice$Reader.behindDigits(I)I -/
theorem mw_49_0 : ∀ e ∈ mt_49_0, mx_Ok mx_MT mq_49 e.1 e.2 := 
  mc_1 (mk_p (ms_iload_n (k := 1) (by decide +kernel) rfl) rfl) <|
  mc_1 (mk_p (ms_istore_n (k := 2) (by decide +kernel) rfl (by decide)) rfl) <|
  mc_1 (mk_p (ms_iload_n (k := 2) (by decide +kernel) rfl) rfl) <|
  mc_1 (mk_p (ms_aload_n (k := 0) (by decide +kernel) rfl) rfl) <|
  mc_1 (mk_p (ms_get (idx := 14) (w := 253) (host := none) mx_c5 (by decide) ml_f_LeagueOffice_Reader_14 (by decide +kernel)) rfl) <|
  mc_1 (mk_c (k := mq_65) rfl ⟨mo_65, 62, 586, none, ml_m_LeagueOffice_Reader_62, Or.inr (Or.inr (Or.inl ⟨6, TX6, 2, by decide, rfl, rfl, (by decide +kernel), ⟨0, rfl, mx_npd (by decide +kernel)⟩, ml_in_587, ml_se_588⟩))⟩) <|
  mc_1 (mk_p (ms_icmp_ge (off := (23)) (by decide +kernel) (by decide)) rfl) <|
  mc_1 (mk_p (ms_aload_n (k := 0) (by decide +kernel) rfl) rfl) <|
  mc_1 (mk_p (ms_get (idx := 14) (w := 253) (host := none) mx_c5 (by decide) ml_f_LeagueOffice_Reader_14 (by decide +kernel)) rfl) <| mc_0
theorem mw_49_1 : ∀ e ∈ mt_49_1, mx_Ok mx_MT mq_49 e.1 e.2 := 
  mc_1 (mk_p (ms_iload_n (k := 2) (by decide +kernel) rfl) rfl) <|
  mc_1 (mk_c (k := mq_68) rfl ⟨mo_68, 52, 590, none, ml_m_LeagueOffice_Reader_52, Or.inr (Or.inr (Or.inl ⟨6, TX6, 2, by decide, rfl, rfl, (by decide +kernel), ⟨1, rfl, mx_npd (by decide +kernel)⟩, ml_in_591, ml_se_592⟩))⟩) <|
  mc_1 (mk_c (k := mq_55) rfl ⟨mo_55, 69, 599, none, ml_m_LeagueOffice_Reader_69, Or.inl ⟨rfl, (by decide +kernel), mx_npd (by decide +kernel), ml_st_600⟩⟩) <|
  mc_1 (mk_p (ms_if_eq (off := (9)) (by decide +kernel) (by decide)) rfl) <|
  mc_1 (mk_p (ms_iinc (n := (1)) (by decide +kernel) (by decide +kernel) (by decide)) rfl) <|
  mc_1 (mk_p (ms_goto (off := (-28)) (by decide +kernel) (by decide)) rfl) <| mc_0
theorem mw_49_2 : ∀ e ∈ mt_49_2, mx_Ok mx_MT mq_49 e.1 e.2 := 
  mc_1 (mk_p (ms_iload_n (k := 2) (by decide +kernel) rfl) rfl) <|
  mc_1 (mk_r (Or.inl ⟨rfl, by decide +kernel, _, rfl, mf_0⟩) rfl) <| mc_0
theorem mw_49 : ∀ ch ∈ mt_49, ∀ e ∈ ch, mx_Ok mx_MT mq_49 e.1 e.2 := mc_2 mw_49_0 <| mc_2 mw_49_1 <| mc_2 mw_49_2 <| mc_3
/- 50 LeagueOffice$Reader.behindLetters(I)I -/
theorem mw_50_0 : ∀ e ∈ mt_50_0, mx_Ok mx_MT mq_50 e.1 e.2 := 
  mc_1 (mk_p (ms_iload_n (k := 1) (by decide +kernel) rfl) rfl) <|
  mc_1 (mk_p (ms_istore_n (k := 2) (by decide +kernel) rfl (by decide)) rfl) <|
  mc_1 (mk_p (ms_iload_n (k := 2) (by decide +kernel) rfl) rfl) <|
  mc_1 (mk_p (ms_aload_n (k := 0) (by decide +kernel) rfl) rfl) <|
  mc_1 (mk_p (ms_get (idx := 14) (w := 253) (host := none) mx_c5 (by decide) ml_f_LeagueOffice_Reader_14 (by decide +kernel)) rfl) <|
  mc_1 (mk_c (k := mq_65) rfl ⟨mo_65, 62, 586, none, ml_m_LeagueOffice_Reader_62, Or.inr (Or.inr (Or.inl ⟨6, TX6, 2, by decide, rfl, rfl, (by decide +kernel), ⟨0, rfl, mx_npd (by decide +kernel)⟩, ml_in_587, ml_se_588⟩))⟩) <|
  mc_1 (mk_p (ms_icmp_ge (off := (23)) (by decide +kernel) (by decide)) rfl) <|
  mc_1 (mk_p (ms_aload_n (k := 0) (by decide +kernel) rfl) rfl) <|
  mc_1 (mk_p (ms_get (idx := 14) (w := 253) (host := none) mx_c5 (by decide) ml_f_LeagueOffice_Reader_14 (by decide +kernel)) rfl) <| mc_0
theorem mw_50_1 : ∀ e ∈ mt_50_1, mx_Ok mx_MT mq_50 e.1 e.2 := 
  mc_1 (mk_p (ms_iload_n (k := 2) (by decide +kernel) rfl) rfl) <|
  mc_1 (mk_c (k := mq_68) rfl ⟨mo_68, 52, 590, none, ml_m_LeagueOffice_Reader_52, Or.inr (Or.inr (Or.inl ⟨6, TX6, 2, by decide, rfl, rfl, (by decide +kernel), ⟨1, rfl, mx_npd (by decide +kernel)⟩, ml_in_591, ml_se_592⟩))⟩) <|
  mc_1 (mk_c (k := mq_56) rfl ⟨mo_56, 79, 610, none, ml_m_LeagueOffice_Reader_79, Or.inl ⟨rfl, (by decide +kernel), mx_npd (by decide +kernel), ml_st_611⟩⟩) <|
  mc_1 (mk_p (ms_if_eq (off := (9)) (by decide +kernel) (by decide)) rfl) <|
  mc_1 (mk_p (ms_iinc (n := (1)) (by decide +kernel) (by decide +kernel) (by decide)) rfl) <|
  mc_1 (mk_p (ms_goto (off := (-28)) (by decide +kernel) (by decide)) rfl) <| mc_0
theorem mw_50_2 : ∀ e ∈ mt_50_2, mx_Ok mx_MT mq_50 e.1 e.2 := 
  mc_1 (mk_p (ms_iload_n (k := 2) (by decide +kernel) rfl) rfl) <|
  mc_1 (mk_r (Or.inl ⟨rfl, by decide +kernel, _, rfl, mf_0⟩) rfl) <| mc_0
theorem mw_50 : ∀ ch ∈ mt_50, ∀ e ∈ ch, mx_Ok mx_MT mq_50 e.1 e.2 := mc_2 mw_50_0 <| mc_2 mw_50_1 <| mc_2 mw_50_2 <| mc_3
/- 51 LeagueOffice$Reader.numberAt(II)I -/
theorem mw_51_0 : ∀ e ∈ mt_51_0, mx_Ok mx_MT mq_51 e.1 e.2 := 
  mc_1 (mk_p (ms_iconst (n := 0) (by decide +kernel) (by decide +kernel)) rfl) <|
  mc_1 (mk_p (ms_istore_n (k := 3) (by decide +kernel) rfl (by decide)) rfl) <|
  mc_1 (mk_p (ms_iload_n (k := 1) (by decide +kernel) rfl) rfl) <|
  mc_1 (mk_p (ms_istore (by decide +kernel) (by decide)) rfl) <|
  mc_1 (mk_p (ms_iload (by decide +kernel)) rfl) <|
  mc_1 (mk_p (ms_iload_n (k := 2) (by decide +kernel) rfl) rfl) <|
  mc_1 (mk_p (ms_icmp_ge (off := (27)) (by decide +kernel) (by decide)) rfl) <|
  mc_1 (mk_p (ms_iload_n (k := 3) (by decide +kernel) rfl) rfl) <|
  mc_1 (mk_p (ms_bipush (n := 10) (by decide +kernel) (by decide +kernel)) rfl) <|
  mc_1 (mk_p (ms_imul (by decide +kernel)) rfl) <|
  mc_1 (mk_p (ms_aload_n (k := 0) (by decide +kernel) rfl) rfl) <| mc_0
theorem mw_51_1 : ∀ e ∈ mt_51_1, mx_Ok mx_MT mq_51 e.1 e.2 := 
  mc_1 (mk_p (ms_get (idx := 14) (w := 253) (host := none) mx_c5 (by decide) ml_f_LeagueOffice_Reader_14 (by decide +kernel)) rfl) <|
  mc_1 (mk_p (ms_iload (by decide +kernel)) rfl) <|
  mc_1 (mk_c (k := mq_68) rfl ⟨mo_68, 52, 590, none, ml_m_LeagueOffice_Reader_52, Or.inr (Or.inr (Or.inl ⟨6, TX6, 2, by decide, rfl, rfl, (by decide +kernel), ⟨1, rfl, mx_npd (by decide +kernel)⟩, ml_in_591, ml_se_592⟩))⟩) <|
  mc_1 (mk_p (ms_iadd (by decide +kernel)) rfl) <|
  mc_1 (mk_p (ms_bipush (n := 48) (by decide +kernel) (by decide +kernel)) rfl) <|
  mc_1 (mk_p (ms_isub (by decide +kernel)) rfl) <|
  mc_1 (mk_p (ms_istore_n (k := 3) (by decide +kernel) rfl (by decide)) rfl) <|
  mc_1 (mk_p (ms_iinc (n := (1)) (by decide +kernel) (by decide +kernel) (by decide)) rfl) <| mc_0
theorem mw_51_2 : ∀ e ∈ mt_51_2, mx_Ok mx_MT mq_51 e.1 e.2 := 
  mc_1 (mk_p (ms_goto (off := (-27)) (by decide +kernel) (by decide)) rfl) <|
  mc_1 (mk_p (ms_iload_n (k := 3) (by decide +kernel) rfl) rfl) <|
  mc_1 (mk_r (Or.inl ⟨rfl, by decide +kernel, _, rfl, mf_0⟩) rfl) <| mc_0
theorem mw_51 : ∀ ch ∈ mt_51, ∀ e ∈ ch, mx_Ok mx_MT mq_51 e.1 e.2 := mc_2 mw_51_0 <| mc_2 mw_51_1 <| mc_2 mw_51_2 <| mc_3
/- 52 LeagueOffice$Reader.wordAt(II)I -/
theorem mw_52_0 : ∀ e ∈ mt_52_0, mx_Ok mx_MT mq_52 e.1 e.2 := 
  mc_1 (mk_p (ms_iconst (n := 0) (by decide +kernel) (by decide +kernel)) rfl) <|
  mc_1 (mk_p (ms_istore_n (k := 3) (by decide +kernel) rfl (by decide)) rfl) <|
  mc_1 (mk_p (ms_iload_n (k := 3) (by decide +kernel) rfl) rfl) <|
  mc_1 (mk_p (ms_bipush (n := 13) (by decide +kernel) (by decide +kernel)) rfl) <|
  mc_1 (mk_p (ms_icmp_ge (off := (28)) (by decide +kernel) (by decide)) rfl) <|
  mc_1 (mk_p (ms_aload_n (k := 0) (by decide +kernel) rfl) rfl) <|
  mc_1 (mk_p (ms_iload_n (k := 3) (by decide +kernel) rfl) rfl) <|
  mc_1 (mk_c (k := mq_54) rfl ⟨mo_54, 94, 621, none, ml_m_LeagueOffice_Reader_94, Or.inl ⟨rfl, (by decide +kernel), mx_npd (by decide +kernel), ml_st_622⟩⟩) <|
  mc_1 (mk_p (ms_iload_n (k := 1) (by decide +kernel) rfl) rfl) <|
  mc_1 (mk_p (ms_iload_n (k := 2) (by decide +kernel) rfl) rfl) <|
  mc_1 (mk_c (k := mq_53) rfl ⟨mo_53, 98, 637, none, ml_m_LeagueOffice_Reader_98, Or.inr (Or.inr (Or.inl ⟨5, TX5, 6, by decide, rfl, rfl, (by decide +kernel), ⟨3, rfl, mx_npd (by decide +kernel)⟩, ml_in_639, ml_se_7⟩))⟩) <| mc_0
theorem mw_52_1 : ∀ e ∈ mt_52_1, mx_Ok mx_MT mq_52 e.1 e.2 := 
  mc_1 (mk_p (ms_if_eq (off := (9)) (by decide +kernel) (by decide)) rfl) <|
  mc_1 (mk_p (ms_sipush (n := 256) (by decide +kernel) (by decide +kernel)) rfl) <|
  mc_1 (mk_p (ms_iload_n (k := 3) (by decide +kernel) rfl) rfl) <|
  mc_1 (mk_p (ms_iadd (by decide +kernel)) rfl) <|
  mc_1 (mk_r (Or.inl ⟨rfl, by decide +kernel, _, rfl, mf_0⟩) rfl) <|
  mc_1 (mk_p (ms_iinc (n := (1)) (by decide +kernel) (by decide +kernel) (by decide)) rfl) <|
  mc_1 (mk_p (ms_goto (off := (-28)) (by decide +kernel) (by decide)) rfl) <| mc_0
theorem mw_52_2 : ∀ e ∈ mt_52_2, mx_Ok mx_MT mq_52 e.1 e.2 := 
  mc_1 (mk_p (ms_iconst (n := 1) (by decide +kernel) (by decide +kernel)) rfl) <|
  mc_1 (mk_r (Or.inl ⟨rfl, by decide +kernel, _, rfl, mf_0⟩) rfl) <| mc_0
theorem mw_52 : ∀ ch ∈ mt_52, ∀ e ∈ ch, mx_Ok mx_MT mq_52 e.1 e.2 := mc_2 mw_52_0 <| mc_2 mw_52_1 <| mc_2 mw_52_2 <| mc_3
/- 53 LeagueOffice$Reader.isWord(Ljava/lang/String;II)Z -/
theorem mw_53_0 : ∀ e ∈ mt_53_0, mx_Ok mx_MT mq_53 e.1 e.2 := 
  mc_1 (mk_p (ms_aload_n (k := 1) (by decide +kernel) rfl) rfl) <|
  mc_1 (mk_c (k := mq_266) rfl ⟨mo_266, 102, 641, none, ml_m_LeagueOffice_Reader_102, Or.inr (Or.inr (Or.inr ⟨rfl, rfl, rfl, (by decide +kernel), ⟨0, rfl, mx_npd (by decide +kernel)⟩, ml_in_519, ml_se_520⟩))⟩) <|
  mc_1 (mk_p (ms_iload_n (k := 3) (by decide +kernel) rfl) rfl) <|
  mc_1 (mk_p (ms_iload_n (k := 2) (by decide +kernel) rfl) rfl) <|
  mc_1 (mk_p (ms_isub (by decide +kernel)) rfl) <|
  mc_1 (mk_p (ms_icmp_eq (off := (5)) (by decide +kernel) (by decide)) rfl) <|
  mc_1 (mk_p (ms_iconst (n := 0) (by decide +kernel) (by decide +kernel)) rfl) <|
  mc_1 (mk_r (Or.inl ⟨rfl, by decide +kernel, _, rfl, mf_2⟩) rfl) <|
  mc_1 (mk_p (ms_iconst (n := 0) (by decide +kernel) (by decide +kernel)) rfl) <|
  mc_1 (mk_p (ms_istore (by decide +kernel) (by decide)) rfl) <|
  mc_1 (mk_p (ms_iload (by decide +kernel)) rfl) <| mc_0
theorem mw_53_1 : ∀ e ∈ mt_53_1, mx_Ok mx_MT mq_53 e.1 e.2 := 
  mc_1 (mk_p (ms_aload_n (k := 1) (by decide +kernel) rfl) rfl) <|
  mc_1 (mk_c (k := mq_266) rfl ⟨mo_266, 102, 641, none, ml_m_LeagueOffice_Reader_102, Or.inr (Or.inr (Or.inr ⟨rfl, rfl, rfl, (by decide +kernel), ⟨0, rfl, mx_npd (by decide +kernel)⟩, ml_in_519, ml_se_520⟩))⟩) <|
  mc_1 (mk_p (ms_icmp_ge (off := (31)) (by decide +kernel) (by decide)) rfl) <|
  mc_1 (mk_p (ms_aload_n (k := 1) (by decide +kernel) rfl) rfl) <|
  mc_1 (mk_p (ms_iload (by decide +kernel)) rfl) <|
  mc_1 (mk_c (k := mq_267) rfl ⟨mo_267, 107, 642, none, ml_m_LeagueOffice_Reader_107, Or.inr (Or.inr (Or.inr ⟨rfl, rfl, rfl, (by decide +kernel), ⟨1, rfl, mx_npd (by decide +kernel)⟩, ml_in_529, ml_se_530⟩))⟩) <|
  mc_1 (mk_p (ms_aload_n (k := 0) (by decide +kernel) rfl) rfl) <|
  mc_1 (mk_p (ms_get (idx := 14) (w := 253) (host := none) mx_c5 (by decide) ml_f_LeagueOffice_Reader_14 (by decide +kernel)) rfl) <| mc_0
theorem mw_53_2 : ∀ e ∈ mt_53_2, mx_Ok mx_MT mq_53 e.1 e.2 := 
  mc_1 (mk_p (ms_iload_n (k := 2) (by decide +kernel) rfl) rfl) <|
  mc_1 (mk_p (ms_iload (by decide +kernel)) rfl) <|
  mc_1 (mk_p (ms_iadd (by decide +kernel)) rfl) <|
  mc_1 (mk_c (k := mq_68) rfl ⟨mo_68, 52, 590, none, ml_m_LeagueOffice_Reader_52, Or.inr (Or.inr (Or.inl ⟨6, TX6, 2, by decide, rfl, rfl, (by decide +kernel), ⟨1, rfl, mx_npd (by decide +kernel)⟩, ml_in_591, ml_se_592⟩))⟩) <|
  mc_1 (mk_p (ms_icmp_eq (off := (5)) (by decide +kernel) (by decide)) rfl) <|
  mc_1 (mk_p (ms_iconst (n := 0) (by decide +kernel) (by decide +kernel)) rfl) <|
  mc_1 (mk_r (Or.inl ⟨rfl, by decide +kernel, _, rfl, mf_2⟩) rfl) <|
  mc_1 (mk_p (ms_iinc (n := (1)) (by decide +kernel) (by decide +kernel) (by decide)) rfl) <| mc_0
theorem mw_53_3 : ∀ e ∈ mt_53_3, mx_Ok mx_MT mq_53 e.1 e.2 := 
  mc_1 (mk_p (ms_goto (off := (-34)) (by decide +kernel) (by decide)) rfl) <|
  mc_1 (mk_p (ms_iconst (n := 1) (by decide +kernel) (by decide +kernel)) rfl) <|
  mc_1 (mk_r (Or.inl ⟨rfl, by decide +kernel, _, rfl, mf_2⟩) rfl) <| mc_0
theorem mw_53 : ∀ ch ∈ mt_53, ∀ e ∈ ch, mx_Ok mx_MT mq_53 e.1 e.2 := mc_2 mw_53_0 <| mc_2 mw_53_1 <| mc_2 mw_53_2 <| mc_2 mw_53_3 <| mc_3
/- 54 LeagueOffice$Reader.wordOf(I)Ljava/lang/String; -/
theorem mw_54_0 : ∀ e ∈ mt_54_0, mx_Ok mx_MT mq_54 e.1 e.2 := 
  mc_1 (mk_p (ms_iload_n (k := 0) (by decide +kernel) rfl) rfl) <|
  mc_1 (mk_p (ms_tsw (dflt := (99)) (lo := (0)) (hi := (11)) (offs := #[63, 66, 69, 72, 75, 78, 81, 84, 87, 90, 93, 96]) (len := 63) (by decide +kernel) (by decide +kernel) (by decide +kernel) (by decide +kernel) (by decide +kernel)) rfl) <| mc_0
theorem mw_54_1 : ∀ e ∈ mt_54_1, mx_Ok mx_MT mq_54 e.1 e.2 := mc_0
theorem mw_54_2 : ∀ e ∈ mt_54_2, mx_Ok mx_MT mq_54 e.1 e.2 := mc_0
theorem mw_54_3 : ∀ e ∈ mt_54_3, mx_Ok mx_MT mq_54 e.1 e.2 := mc_0
theorem mw_54_4 : ∀ e ∈ mt_54_4, mx_Ok mx_MT mq_54 e.1 e.2 := 
  mc_1 (mk_p (ms_ldcS (idx := 111) (tx := "goals") rfl (by decide +kernel)) rfl) <|
  mc_1 (mk_r (Or.inr (Or.inr (Or.inl ⟨rfl, by decide +kernel, _, rfl, rfl⟩))) rfl) <|
  mc_1 (mk_p (ms_ldcS (idx := 113) (tx := "made") rfl (by decide +kernel)) rfl) <|
  mc_1 (mk_r (Or.inr (Or.inr (Or.inl ⟨rfl, by decide +kernel, _, rfl, rfl⟩))) rfl) <|
  mc_1 (mk_p (ms_ldcS (idx := 115) (tx := "won") rfl (by decide +kernel)) rfl) <|
  mc_1 (mk_r (Or.inr (Or.inr (Or.inl ⟨rfl, by decide +kernel, _, rfl, rfl⟩))) rfl) <|
  mc_1 (mk_p (ms_ldcS (idx := 117) (tx := "cards") rfl (by decide +kernel)) rfl) <|
  mc_1 (mk_r (Or.inr (Or.inr (Or.inl ⟨rfl, by decide +kernel, _, rfl, rfl⟩))) rfl) <|
  mc_1 (mk_p (ms_ldcS (idx := 119) (tx := "kind") rfl (by decide +kernel)) rfl) <|
  mc_1 (mk_r (Or.inr (Or.inr (Or.inl ⟨rfl, by decide +kernel, _, rfl, rfl⟩))) rfl) <|
  mc_1 (mk_p (ms_ldcS (idx := 121) (tx := "late") rfl (by decide +kernel)) rfl) <| mc_0
theorem mw_54_5 : ∀ e ∈ mt_54_5, mx_Ok mx_MT mq_54 e.1 e.2 := 
  mc_1 (mk_r (Or.inr (Or.inr (Or.inl ⟨rfl, by decide +kernel, _, rfl, rfl⟩))) rfl) <|
  mc_1 (mk_p (ms_ldcS (idx := 123) (tx := "win") rfl (by decide +kernel)) rfl) <|
  mc_1 (mk_r (Or.inr (Or.inr (Or.inl ⟨rfl, by decide +kernel, _, rfl, rfl⟩))) rfl) <|
  mc_1 (mk_p (ms_ldcS (idx := 125) (tx := "draw") rfl (by decide +kernel)) rfl) <|
  mc_1 (mk_r (Or.inr (Or.inr (Or.inl ⟨rfl, by decide +kernel, _, rfl, rfl⟩))) rfl) <|
  mc_1 (mk_p (ms_ldcS (idx := 127) (tx := "like") rfl (by decide +kernel)) rfl) <|
  mc_1 (mk_r (Or.inr (Or.inr (Or.inl ⟨rfl, by decide +kernel, _, rfl, rfl⟩))) rfl) <|
  mc_1 (mk_p (ms_ldcS (idx := 129) (tx := "ban") rfl (by decide +kernel)) rfl) <|
  mc_1 (mk_r (Or.inr (Or.inr (Or.inl ⟨rfl, by decide +kernel, _, rfl, rfl⟩))) rfl) <|
  mc_1 (mk_p (ms_ldcS (idx := 131) (tx := "or") rfl (by decide +kernel)) rfl) <| mc_0
theorem mw_54_6 : ∀ e ∈ mt_54_6, mx_Ok mx_MT mq_54 e.1 e.2 := 
  mc_1 (mk_r (Or.inr (Or.inr (Or.inl ⟨rfl, by decide +kernel, _, rfl, rfl⟩))) rfl) <|
  mc_1 (mk_p (ms_ldcS (idx := 133) (tx := "and") rfl (by decide +kernel)) rfl) <|
  mc_1 (mk_r (Or.inr (Or.inr (Or.inl ⟨rfl, by decide +kernel, _, rfl, rfl⟩))) rfl) <|
  mc_1 (mk_p (ms_ldcS (idx := 135) (tx := "not") rfl (by decide +kernel)) rfl) <|
  mc_1 (mk_r (Or.inr (Or.inr (Or.inl ⟨rfl, by decide +kernel, _, rfl, rfl⟩))) rfl) <| mc_0
theorem mw_54 : ∀ ch ∈ mt_54, ∀ e ∈ ch, mx_Ok mx_MT mq_54 e.1 e.2 := mc_2 mw_54_0 <| mc_2 mw_54_1 <| mc_2 mw_54_2 <| mc_2 mw_54_3 <| mc_2 mw_54_4 <| mc_2 mw_54_5 <| mc_2 mw_54_6 <| mc_3
/- 55 LeagueOffice$Reader.isDigit(I)Z -/
theorem mw_55_0 : ∀ e ∈ mt_55_0, mx_Ok mx_MT mq_55 e.1 e.2 := 
  mc_1 (mk_p (ms_iload_n (k := 0) (by decide +kernel) rfl) rfl) <|
  mc_1 (mk_p (ms_bipush (n := 48) (by decide +kernel) (by decide +kernel)) rfl) <|
  mc_1 (mk_p (ms_icmp_lt (off := (13)) (by decide +kernel) (by decide)) rfl) <|
  mc_1 (mk_p (ms_iload_n (k := 0) (by decide +kernel) rfl) rfl) <|
  mc_1 (mk_p (ms_bipush (n := 57) (by decide +kernel) (by decide +kernel)) rfl) <|
  mc_1 (mk_p (ms_icmp_gt (off := (7)) (by decide +kernel) (by decide)) rfl) <|
  mc_1 (mk_p (ms_iconst (n := 1) (by decide +kernel) (by decide +kernel)) rfl) <|
  mc_1 (mk_p (ms_goto (off := (4)) (by decide +kernel) (by decide)) rfl) <| mc_0
theorem mw_55_1 : ∀ e ∈ mt_55_1, mx_Ok mx_MT mq_55 e.1 e.2 := 
  mc_1 (mk_p (ms_iconst (n := 0) (by decide +kernel) (by decide +kernel)) rfl) <|
  mc_1 (mk_r (Or.inl ⟨rfl, by decide +kernel, _, rfl, mf_2⟩) rfl) <| mc_0
theorem mw_55 : ∀ ch ∈ mt_55, ∀ e ∈ ch, mx_Ok mx_MT mq_55 e.1 e.2 := mc_2 mw_55_0 <| mc_2 mw_55_1 <| mc_3
/- 56 LeagueOffice$Reader.isLetter(I)Z -/
theorem mw_56_0 : ∀ e ∈ mt_56_0, mx_Ok mx_MT mq_56 e.1 e.2 := 
  mc_1 (mk_p (ms_iload_n (k := 0) (by decide +kernel) rfl) rfl) <|
  mc_1 (mk_p (ms_bipush (n := 97) (by decide +kernel) (by decide +kernel)) rfl) <|
  mc_1 (mk_p (ms_icmp_lt (off := (13)) (by decide +kernel) (by decide)) rfl) <|
  mc_1 (mk_p (ms_iload_n (k := 0) (by decide +kernel) rfl) rfl) <|
  mc_1 (mk_p (ms_bipush (n := 122) (by decide +kernel) (by decide +kernel)) rfl) <|
  mc_1 (mk_p (ms_icmp_gt (off := (7)) (by decide +kernel) (by decide)) rfl) <|
  mc_1 (mk_p (ms_iconst (n := 1) (by decide +kernel) (by decide +kernel)) rfl) <|
  mc_1 (mk_p (ms_goto (off := (4)) (by decide +kernel) (by decide)) rfl) <| mc_0
theorem mw_56_1 : ∀ e ∈ mt_56_1, mx_Ok mx_MT mq_56 e.1 e.2 := 
  mc_1 (mk_p (ms_iconst (n := 0) (by decide +kernel) (by decide +kernel)) rfl) <|
  mc_1 (mk_r (Or.inl ⟨rfl, by decide +kernel, _, rfl, mf_2⟩) rfl) <| mc_0
theorem mw_56 : ∀ ch ∈ mt_56, ∀ e ∈ ch, mx_Ok mx_MT mq_56 e.1 e.2 := mc_2 mw_56_0 <| mc_2 mw_56_1 <| mc_3
/- 57 LeagueOffice$Reader.isSign(I)Z -/
theorem mw_57_0 : ∀ e ∈ mt_57_0, mx_Ok mx_MT mq_57 e.1 e.2 := 
  mc_1 (mk_p (ms_iload_n (k := 0) (by decide +kernel) rfl) rfl) <|
  mc_1 (mk_p (ms_bipush (n := 40) (by decide +kernel) (by decide +kernel)) rfl) <|
  mc_1 (mk_p (ms_icmp_eq (off := (45)) (by decide +kernel) (by decide)) rfl) <|
  mc_1 (mk_p (ms_iload_n (k := 0) (by decide +kernel) rfl) rfl) <|
  mc_1 (mk_p (ms_bipush (n := 41) (by decide +kernel) (by decide +kernel)) rfl) <|
  mc_1 (mk_p (ms_icmp_eq (off := (39)) (by decide +kernel) (by decide)) rfl) <|
  mc_1 (mk_p (ms_iload_n (k := 0) (by decide +kernel) rfl) rfl) <|
  mc_1 (mk_p (ms_bipush (n := 59) (by decide +kernel) (by decide +kernel)) rfl) <|
  mc_1 (mk_p (ms_icmp_eq (off := (33)) (by decide +kernel) (by decide)) rfl) <| mc_0
theorem mw_57_1 : ∀ e ∈ mt_57_1, mx_Ok mx_MT mq_57 e.1 e.2 := 
  mc_1 (mk_p (ms_iload_n (k := 0) (by decide +kernel) rfl) rfl) <|
  mc_1 (mk_p (ms_bipush (n := 43) (by decide +kernel) (by decide +kernel)) rfl) <|
  mc_1 (mk_p (ms_icmp_eq (off := (27)) (by decide +kernel) (by decide)) rfl) <|
  mc_1 (mk_p (ms_iload_n (k := 0) (by decide +kernel) rfl) rfl) <|
  mc_1 (mk_p (ms_bipush (n := 45) (by decide +kernel) (by decide +kernel)) rfl) <|
  mc_1 (mk_p (ms_icmp_eq (off := (21)) (by decide +kernel) (by decide)) rfl) <|
  mc_1 (mk_p (ms_iload_n (k := 0) (by decide +kernel) rfl) rfl) <|
  mc_1 (mk_p (ms_bipush (n := 42) (by decide +kernel) (by decide +kernel)) rfl) <| mc_0
theorem mw_57_2 : ∀ e ∈ mt_57_2, mx_Ok mx_MT mq_57 e.1 e.2 := 
  mc_1 (mk_p (ms_icmp_eq (off := (15)) (by decide +kernel) (by decide)) rfl) <|
  mc_1 (mk_p (ms_iload_n (k := 0) (by decide +kernel) rfl) rfl) <|
  mc_1 (mk_p (ms_bipush (n := 60) (by decide +kernel) (by decide +kernel)) rfl) <|
  mc_1 (mk_p (ms_icmp_eq (off := (9)) (by decide +kernel) (by decide)) rfl) <|
  mc_1 (mk_p (ms_iload_n (k := 0) (by decide +kernel) rfl) rfl) <|
  mc_1 (mk_p (ms_bipush (n := 61) (by decide +kernel) (by decide +kernel)) rfl) <|
  mc_1 (mk_p (ms_icmp_ne (off := (7)) (by decide +kernel) (by decide)) rfl) <| mc_0
theorem mw_57_3 : ∀ e ∈ mt_57_3, mx_Ok mx_MT mq_57 e.1 e.2 := 
  mc_1 (mk_p (ms_iconst (n := 1) (by decide +kernel) (by decide +kernel)) rfl) <|
  mc_1 (mk_p (ms_goto (off := (4)) (by decide +kernel) (by decide)) rfl) <|
  mc_1 (mk_p (ms_iconst (n := 0) (by decide +kernel) (by decide +kernel)) rfl) <|
  mc_1 (mk_r (Or.inl ⟨rfl, by decide +kernel, _, rfl, mf_2⟩) rfl) <| mc_0
theorem mw_57 : ∀ ch ∈ mt_57, ∀ e ∈ ch, mx_Ok mx_MT mq_57 e.1 e.2 := mc_2 mw_57_0 <| mc_2 mw_57_1 <| mc_2 mw_57_2 <| mc_2 mw_57_3 <| mc_3
/- 58 LeagueOffice$Reader.readToken(I)Z -/
theorem mw_58_0 : ∀ e ∈ mt_58_0, mx_Ok mx_MT mq_58 e.1 e.2 := 
  mc_1 (mk_p (ms_aload_n (k := 0) (by decide +kernel) rfl) rfl) <|
  mc_1 (mk_p (ms_get (idx := 20) (w := 255) (host := none) mx_c5 (by decide) ml_f_LeagueOffice_Reader_20 (by decide +kernel)) rfl) <|
  mc_1 (mk_p (ms_aload_n (k := 0) (by decide +kernel) rfl) rfl) <|
  mc_1 (mk_p (ms_get (idx := 41) (w := 258) (host := none) mx_c5 (by decide) ml_f_LeagueOffice_Reader_41 (by decide +kernel)) rfl) <|
  mc_1 (mk_c (k := mq_68) rfl ⟨mo_68, 52, 590, none, ml_m_LeagueOffice_Reader_52, Or.inr (Or.inr (Or.inl ⟨6, TX6, 2, by decide, rfl, rfl, (by decide +kernel), ⟨1, rfl, mx_npd (by decide +kernel)⟩, ml_in_591, ml_se_592⟩))⟩) <|
  mc_1 (mk_p (ms_iload_n (k := 1) (by decide +kernel) rfl) rfl) <|
  mc_1 (mk_p (ms_icmp_eq (off := (5)) (by decide +kernel) (by decide)) rfl) <|
  mc_1 (mk_p (ms_iconst (n := 0) (by decide +kernel) (by decide +kernel)) rfl) <| mc_0
theorem mw_58_1 : ∀ e ∈ mt_58_1, mx_Ok mx_MT mq_58 e.1 e.2 := 
  mc_1 (mk_r (Or.inl ⟨rfl, by decide +kernel, _, rfl, mf_2⟩) rfl) <|
  mc_1 (mk_p (ms_aload_n (k := 0) (by decide +kernel) rfl) rfl) <|
  mc_1 (mk_p (ms_dup (by decide +kernel)) rfl) <|
  mc_1 (mk_p (ms_get (idx := 41) (w := 258) (host := none) mx_c5 (by decide) ml_f_LeagueOffice_Reader_41 (by decide +kernel)) rfl) <|
  mc_1 (mk_p (ms_iconst (n := 1) (by decide +kernel) (by decide +kernel)) rfl) <|
  mc_1 (mk_p (ms_iadd (by decide +kernel)) rfl) <|
  mc_1 (mk_p (ms_put (idx := 41) (w := 258) (host := none) mx_c5 (by decide) ml_f_LeagueOffice_Reader_41 rfl rfl (by decide +kernel)) rfl) <|
  mc_1 (mk_p (ms_iconst (n := 1) (by decide +kernel) (by decide +kernel)) rfl) <|
  mc_1 (mk_r (Or.inl ⟨rfl, by decide +kernel, _, rfl, mf_2⟩) rfl) <| mc_0
theorem mw_58 : ∀ ch ∈ mt_58, ∀ e ∈ ch, mx_Ok mx_MT mq_58 e.1 e.2 := mc_2 mw_58_0 <| mc_2 mw_58_1 <| mc_3
/- 59 LeagueOffice$Reader.readPart(I)Z -/
theorem mw_59_0 : ∀ e ∈ mt_59_0, mx_Ok mx_MT mq_59 e.1 e.2 := 
  mc_1 (mk_p (ms_aload_n (k := 0) (by decide +kernel) rfl) rfl) <|
  mc_1 (mk_p (ms_sipush (n := 262) (by decide +kernel) (by decide +kernel)) rfl) <|
  mc_1 (mk_p (ms_iload_n (k := 1) (by decide +kernel) rfl) rfl) <|
  mc_1 (mk_p (ms_iadd (by decide +kernel)) rfl) <|
  mc_1 (mk_c (k := mq_58) rfl ⟨mo_58, 137, 655, none, ml_m_LeagueOffice_Reader_137, Or.inr (Or.inr (Or.inl ⟨5, TX5, 6, by decide, rfl, rfl, (by decide +kernel), ⟨1, rfl, mx_npd (by decide +kernel)⟩, ml_in_657, ml_se_9⟩))⟩) <|
  mc_1 (mk_p (ms_if_ne (off := (5)) (by decide +kernel) (by decide)) rfl) <|
  mc_1 (mk_p (ms_iconst (n := 0) (by decide +kernel) (by decide +kernel)) rfl) <|
  mc_1 (mk_r (Or.inl ⟨rfl, by decide +kernel, _, rfl, mf_2⟩) rfl) <|
  mc_1 (mk_p (ms_aload_n (k := 0) (by decide +kernel) rfl) rfl) <|
  mc_1 (mk_p (ms_get (idx := 29) (w := 252) (host := none) mx_c5 (by decide) ml_f_LeagueOffice_Reader_29 (by decide +kernel)) rfl) <| mc_0
theorem mw_59_1 : ∀ e ∈ mt_59_1, mx_Ok mx_MT mq_59 e.1 e.2 := 
  mc_1 (mk_p (ms_iload_n (k := 1) (by decide +kernel) rfl) rfl) <|
  mc_1 (mk_c (k := mq_108) rfl ⟨mo_108, 140, 659, none, ml_m_LeagueOffice_Reader_140, Or.inr (Or.inr (Or.inl ⟨10, TX10, 8, by decide, rfl, rfl, (by decide +kernel), ⟨1, rfl, mx_npd (by decide +kernel)⟩, ml_in_660, ml_se_661⟩))⟩) <|
  mc_1 (mk_p (ms_aload_n (k := 0) (by decide +kernel) rfl) rfl) <|
  mc_1 (mk_p (ms_iconst (n := 0) (by decide +kernel) (by decide +kernel)) rfl) <|
  mc_1 (mk_p (ms_iconst (n := 0) (by decide +kernel) (by decide +kernel)) rfl) <|
  mc_1 (mk_c (k := mq_60) rfl ⟨mo_60, 143, 668, none, ml_m_LeagueOffice_Reader_143, Or.inr (Or.inr (Or.inl ⟨5, TX5, 6, by decide, rfl, rfl, (by decide +kernel), ⟨2, rfl, mx_npd (by decide +kernel)⟩, ml_in_670, ml_se_10⟩))⟩) <|
  mc_1 (mk_p (ms_if_ne (off := (5)) (by decide +kernel) (by decide)) rfl) <|
  mc_1 (mk_p (ms_iconst (n := 0) (by decide +kernel) (by decide +kernel)) rfl) <| mc_0
theorem mw_59_2 : ∀ e ∈ mt_59_2, mx_Ok mx_MT mq_59 e.1 e.2 := 
  mc_1 (mk_r (Or.inl ⟨rfl, by decide +kernel, _, rfl, mf_2⟩) rfl) <|
  mc_1 (mk_p (ms_aload_n (k := 0) (by decide +kernel) rfl) rfl) <|
  mc_1 (mk_p (ms_get (idx := 29) (w := 252) (host := none) mx_c5 (by decide) ml_f_LeagueOffice_Reader_29 (by decide +kernel)) rfl) <|
  mc_1 (mk_p (ms_iload_n (k := 1) (by decide +kernel) rfl) rfl) <|
  mc_1 (mk_c (k := mq_109) rfl ⟨mo_109, 147, 692, none, ml_m_LeagueOffice_Reader_147, Or.inr (Or.inr (Or.inl ⟨10, TX10, 8, by decide, rfl, rfl, (by decide +kernel), ⟨1, rfl, mx_npd (by decide +kernel)⟩, ml_in_693, ml_se_694⟩))⟩) <|
  mc_1 (mk_p (ms_aload_n (k := 0) (by decide +kernel) rfl) rfl) <|
  mc_1 (mk_p (ms_bipush (n := 59) (by decide +kernel) (by decide +kernel)) rfl) <|
  mc_1 (mk_c (k := mq_58) rfl ⟨mo_58, 137, 655, none, ml_m_LeagueOffice_Reader_137, Or.inr (Or.inr (Or.inl ⟨5, TX5, 6, by decide, rfl, rfl, (by decide +kernel), ⟨1, rfl, mx_npd (by decide +kernel)⟩, ml_in_657, ml_se_9⟩))⟩) <|
  mc_1 (mk_r (Or.inl ⟨rfl, by decide +kernel, _, rfl, mf_2⟩) rfl) <| mc_0
theorem mw_59 : ∀ ch ∈ mt_59, ∀ e ∈ ch, mx_Ok mx_MT mq_59 e.1 e.2 := mc_2 mw_59_0 <| mc_2 mw_59_1 <| mc_2 mw_59_2 <| mc_3
/- 60 LeagueOffice$Reader.readLevel(II)Z -/
theorem mw_60_0 : ∀ e ∈ mt_60_0, mx_Ok mx_MT mq_60 e.1 e.2 := 
  mc_1 (mk_p (ms_iload_n (k := 2) (by decide +kernel) rfl) rfl) <|
  mc_1 (mk_p (ms_iconst (n := 5) (by decide +kernel) (by decide +kernel)) rfl) <|
  mc_1 (mk_p (ms_icmp_le (off := (5)) (by decide +kernel) (by decide)) rfl) <|
  mc_1 (mk_p (ms_iconst (n := 0) (by decide +kernel) (by decide +kernel)) rfl) <|
  mc_1 (mk_r (Or.inl ⟨rfl, by decide +kernel, _, rfl, mf_2⟩) rfl) <|
  mc_1 (mk_p (ms_iload_n (k := 1) (by decide +kernel) rfl) rfl) <|
  mc_1 (mk_p (ms_iconst (n := 5) (by decide +kernel) (by decide +kernel)) rfl) <|
  mc_1 (mk_p (ms_icmp_lt (off := (9)) (by decide +kernel) (by decide)) rfl) <|
  mc_1 (mk_p (ms_aload_n (k := 0) (by decide +kernel) rfl) rfl) <|
  mc_1 (mk_p (ms_iload_n (k := 2) (by decide +kernel) rfl) rfl) <|
  mc_1 (mk_c (k := mq_63) rfl ⟨mo_63, 150, 672, none, ml_m_LeagueOffice_Reader_150, Or.inr (Or.inr (Or.inl ⟨5, TX5, 6, by decide, rfl, rfl, (by decide +kernel), ⟨1, rfl, mx_npd (by decide +kernel)⟩, ml_in_674, ml_se_11⟩))⟩) <| mc_0
theorem mw_60_1 : ∀ e ∈ mt_60_1, mx_Ok mx_MT mq_60 e.1 e.2 := 
  mc_1 (mk_r (Or.inl ⟨rfl, by decide +kernel, _, rfl, mf_2⟩) rfl) <|
  mc_1 (mk_p (ms_iload_n (k := 1) (by decide +kernel) rfl) rfl) <|
  mc_1 (mk_p (ms_iconst (n := 2) (by decide +kernel) (by decide +kernel)) rfl) <|
  mc_1 (mk_p (ms_icmp_ne (off := (26)) (by decide +kernel) (by decide)) rfl) <|
  mc_1 (mk_p (ms_aload_n (k := 0) (by decide +kernel) rfl) rfl) <|
  mc_1 (mk_p (ms_get (idx := 20) (w := 255) (host := none) mx_c5 (by decide) ml_f_LeagueOffice_Reader_20 (by decide +kernel)) rfl) <|
  mc_1 (mk_p (ms_aload_n (k := 0) (by decide +kernel) rfl) rfl) <|
  mc_1 (mk_p (ms_get (idx := 41) (w := 258) (host := none) mx_c5 (by decide) ml_f_LeagueOffice_Reader_41 (by decide +kernel)) rfl) <|
  mc_1 (mk_c (k := mq_68) rfl ⟨mo_68, 52, 590, none, ml_m_LeagueOffice_Reader_52, Or.inr (Or.inr (Or.inl ⟨6, TX6, 2, by decide, rfl, rfl, (by decide +kernel), ⟨1, rfl, mx_npd (by decide +kernel)⟩, ml_in_591, ml_se_592⟩))⟩) <| mc_0
theorem mw_60_2 : ∀ e ∈ mt_60_2, mx_Ok mx_MT mq_60 e.1 e.2 := 
  mc_1 (mk_p (ms_sipush (n := 268) (by decide +kernel) (by decide +kernel)) rfl) <|
  mc_1 (mk_p (ms_icmp_ne (off := (9)) (by decide +kernel) (by decide)) rfl) <|
  mc_1 (mk_p (ms_aload_n (k := 0) (by decide +kernel) rfl) rfl) <|
  mc_1 (mk_p (ms_iload_n (k := 2) (by decide +kernel) rfl) rfl) <|
  mc_1 (mk_c (k := mq_62) rfl ⟨mo_62, 153, 685, none, ml_m_LeagueOffice_Reader_153, Or.inr (Or.inr (Or.inl ⟨5, TX5, 6, by decide, rfl, rfl, (by decide +kernel), ⟨1, rfl, mx_npd (by decide +kernel)⟩, ml_in_687, ml_se_12⟩))⟩) <|
  mc_1 (mk_r (Or.inl ⟨rfl, by decide +kernel, _, rfl, mf_2⟩) rfl) <|
  mc_1 (mk_p (ms_aload_n (k := 0) (by decide +kernel) rfl) rfl) <|
  mc_1 (mk_p (ms_iload_n (k := 1) (by decide +kernel) rfl) rfl) <| mc_0
theorem mw_60_3 : ∀ e ∈ mt_60_3, mx_Ok mx_MT mq_60 e.1 e.2 := 
  mc_1 (mk_p (ms_iconst (n := 1) (by decide +kernel) (by decide +kernel)) rfl) <|
  mc_1 (mk_p (ms_iadd (by decide +kernel)) rfl) <|
  mc_1 (mk_p (ms_iload_n (k := 2) (by decide +kernel) rfl) rfl) <|
  mc_1 (mk_c (k := mq_60) rfl ⟨mo_60, 143, 668, none, ml_m_LeagueOffice_Reader_143, Or.inr (Or.inr (Or.inl ⟨5, TX5, 6, by decide, rfl, rfl, (by decide +kernel), ⟨2, rfl, mx_npd (by decide +kernel)⟩, ml_in_670, ml_se_10⟩))⟩) <|
  mc_1 (mk_p (ms_if_ne (off := (5)) (by decide +kernel) (by decide)) rfl) <|
  mc_1 (mk_p (ms_iconst (n := 0) (by decide +kernel) (by decide +kernel)) rfl) <|
  mc_1 (mk_r (Or.inl ⟨rfl, by decide +kernel, _, rfl, mf_2⟩) rfl) <|
  mc_1 (mk_p (ms_iconst (n := 0) (by decide +kernel) (by decide +kernel)) rfl) <|
  mc_1 (mk_p (ms_istore_n (k := 3) (by decide +kernel) rfl (by decide)) rfl) <|
  mc_1 (mk_p (ms_iload_n (k := 3) (by decide +kernel) rfl) rfl) <|
  mc_1 (mk_p (ms_sipush (n := 160) (by decide +kernel) (by decide +kernel)) rfl) <| mc_0
theorem mw_60_4 : ∀ e ∈ mt_60_4, mx_Ok mx_MT mq_60 e.1 e.2 := 
  mc_1 (mk_p (ms_icmp_ge (off := (73)) (by decide +kernel) (by decide)) rfl) <|
  mc_1 (mk_p (ms_iload_n (k := 1) (by decide +kernel) rfl) rfl) <|
  mc_1 (mk_p (ms_iload_n (k := 3) (by decide +kernel) rfl) rfl) <|
  mc_1 (mk_p (ms_aload_n (k := 0) (by decide +kernel) rfl) rfl) <|
  mc_1 (mk_p (ms_get (idx := 20) (w := 255) (host := none) mx_c5 (by decide) ml_f_LeagueOffice_Reader_20 (by decide +kernel)) rfl) <|
  mc_1 (mk_p (ms_aload_n (k := 0) (by decide +kernel) rfl) rfl) <|
  mc_1 (mk_p (ms_get (idx := 41) (w := 258) (host := none) mx_c5 (by decide) ml_f_LeagueOffice_Reader_41 (by decide +kernel)) rfl) <|
  mc_1 (mk_c (k := mq_68) rfl ⟨mo_68, 52, 590, none, ml_m_LeagueOffice_Reader_52, Or.inr (Or.inr (Or.inl ⟨6, TX6, 2, by decide, rfl, rfl, (by decide +kernel), ⟨1, rfl, mx_npd (by decide +kernel)⟩, ml_in_591, ml_se_592⟩))⟩) <| mc_0
theorem mw_60_5 : ∀ e ∈ mt_60_5, mx_Ok mx_MT mq_60 e.1 e.2 := 
  mc_1 (mk_c (k := mq_61) rfl ⟨mo_61, 156, 689, none, ml_m_LeagueOffice_Reader_156, Or.inl ⟨rfl, (by decide +kernel), mx_npd (by decide +kernel), ml_st_690⟩⟩) <|
  mc_1 (mk_p (ms_if_eq (off := (54)) (by decide +kernel) (by decide)) rfl) <|
  mc_1 (mk_p (ms_aload_n (k := 0) (by decide +kernel) rfl) rfl) <|
  mc_1 (mk_p (ms_get (idx := 20) (w := 255) (host := none) mx_c5 (by decide) ml_f_LeagueOffice_Reader_20 (by decide +kernel)) rfl) <|
  mc_1 (mk_p (ms_aload_n (k := 0) (by decide +kernel) rfl) rfl) <|
  mc_1 (mk_p (ms_get (idx := 41) (w := 258) (host := none) mx_c5 (by decide) ml_f_LeagueOffice_Reader_41 (by decide +kernel)) rfl) <|
  mc_1 (mk_c (k := mq_68) rfl ⟨mo_68, 52, 590, none, ml_m_LeagueOffice_Reader_52, Or.inr (Or.inr (Or.inl ⟨6, TX6, 2, by decide, rfl, rfl, (by decide +kernel), ⟨1, rfl, mx_npd (by decide +kernel)⟩, ml_in_591, ml_se_592⟩))⟩) <| mc_0
theorem mw_60_6 : ∀ e ∈ mt_60_6, mx_Ok mx_MT mq_60 e.1 e.2 := 
  mc_1 (mk_p (ms_istore (by decide +kernel) (by decide)) rfl) <|
  mc_1 (mk_p (ms_aload_n (k := 0) (by decide +kernel) rfl) rfl) <|
  mc_1 (mk_p (ms_dup (by decide +kernel)) rfl) <|
  mc_1 (mk_p (ms_get (idx := 41) (w := 258) (host := none) mx_c5 (by decide) ml_f_LeagueOffice_Reader_41 (by decide +kernel)) rfl) <|
  mc_1 (mk_p (ms_iconst (n := 1) (by decide +kernel) (by decide +kernel)) rfl) <|
  mc_1 (mk_p (ms_iadd (by decide +kernel)) rfl) <|
  mc_1 (mk_p (ms_put (idx := 41) (w := 258) (host := none) mx_c5 (by decide) ml_f_LeagueOffice_Reader_41 rfl rfl (by decide +kernel)) rfl) <|
  mc_1 (mk_p (ms_aload_n (k := 0) (by decide +kernel) rfl) rfl) <|
  mc_1 (mk_p (ms_iload_n (k := 1) (by decide +kernel) rfl) rfl) <| mc_0
theorem mw_60_7 : ∀ e ∈ mt_60_7, mx_Ok mx_MT mq_60 e.1 e.2 := 
  mc_1 (mk_p (ms_iconst (n := 1) (by decide +kernel) (by decide +kernel)) rfl) <|
  mc_1 (mk_p (ms_iadd (by decide +kernel)) rfl) <|
  mc_1 (mk_p (ms_iload_n (k := 2) (by decide +kernel) rfl) rfl) <|
  mc_1 (mk_c (k := mq_60) rfl ⟨mo_60, 143, 668, none, ml_m_LeagueOffice_Reader_143, Or.inr (Or.inr (Or.inl ⟨5, TX5, 6, by decide, rfl, rfl, (by decide +kernel), ⟨2, rfl, mx_npd (by decide +kernel)⟩, ml_in_670, ml_se_10⟩))⟩) <|
  mc_1 (mk_p (ms_if_ne (off := (5)) (by decide +kernel) (by decide)) rfl) <|
  mc_1 (mk_p (ms_iconst (n := 0) (by decide +kernel) (by decide +kernel)) rfl) <|
  mc_1 (mk_r (Or.inl ⟨rfl, by decide +kernel, _, rfl, mf_2⟩) rfl) <|
  mc_1 (mk_p (ms_aload_n (k := 0) (by decide +kernel) rfl) rfl) <|
  mc_1 (mk_p (ms_get (idx := 29) (w := 252) (host := none) mx_c5 (by decide) ml_f_LeagueOffice_Reader_29 (by decide +kernel)) rfl) <|
  mc_1 (mk_p (ms_iload (by decide +kernel)) rfl) <| mc_0
theorem mw_60_8 : ∀ e ∈ mt_60_8, mx_Ok mx_MT mq_60 e.1 e.2 := 
  mc_1 (mk_c (k := mq_111) rfl ⟨mo_111, 160, 681, none, ml_m_LeagueOffice_Reader_160, Or.inr (Or.inr (Or.inl ⟨10, TX10, 8, by decide, rfl, rfl, (by decide +kernel), ⟨1, rfl, mx_npd (by decide +kernel)⟩, ml_in_682, ml_se_683⟩))⟩) <|
  mc_1 (mk_p (ms_iinc (n := (1)) (by decide +kernel) (by decide +kernel) (by decide)) rfl) <|
  mc_1 (mk_p (ms_goto (off := (-74)) (by decide +kernel) (by decide)) rfl) <|
  mc_1 (mk_p (ms_iconst (n := 1) (by decide +kernel) (by decide +kernel)) rfl) <|
  mc_1 (mk_r (Or.inl ⟨rfl, by decide +kernel, _, rfl, mf_2⟩) rfl) <| mc_0
theorem mw_60 : ∀ ch ∈ mt_60, ∀ e ∈ ch, mx_Ok mx_MT mq_60 e.1 e.2 := mc_2 mw_60_0 <| mc_2 mw_60_1 <| mc_2 mw_60_2 <| mc_2 mw_60_3 <| mc_2 mw_60_4 <| mc_2 mw_60_5 <| mc_2 mw_60_6 <| mc_2 mw_60_7 <| mc_2 mw_60_8 <| mc_3
/- 61 LeagueOffice$Reader.joins(III)Z -/
theorem mw_61_0 : ∀ e ∈ mt_61_0, mx_Ok mx_MT mq_61 e.1 e.2 := 
  mc_1 (mk_p (ms_iload_n (k := 0) (by decide +kernel) rfl) rfl) <|
  mc_1 (mk_p (ms_tsw (dflt := (113)) (lo := (0)) (hi := (4)) (offs := #[35, 48, 61, 83, 101]) (len := 35) (by decide +kernel) (by decide +kernel) (by decide +kernel) (by decide +kernel) (by decide +kernel)) rfl) <| mc_0
theorem mw_61_1 : ∀ e ∈ mt_61_1, mx_Ok mx_MT mq_61 e.1 e.2 := mc_0
theorem mw_61_2 : ∀ e ∈ mt_61_2, mx_Ok mx_MT mq_61 e.1 e.2 := 
  mc_1 (mk_p (ms_iload_n (k := 2) (by decide +kernel) rfl) rfl) <|
  mc_1 (mk_p (ms_sipush (n := 266) (by decide +kernel) (by decide +kernel)) rfl) <|
  mc_1 (mk_p (ms_icmp_ne (off := (7)) (by decide +kernel) (by decide)) rfl) <|
  mc_1 (mk_p (ms_iconst (n := 1) (by decide +kernel) (by decide +kernel)) rfl) <|
  mc_1 (mk_p (ms_goto (off := (4)) (by decide +kernel) (by decide)) rfl) <|
  mc_1 (mk_p (ms_iconst (n := 0) (by decide +kernel) (by decide +kernel)) rfl) <| mc_0
theorem mw_61_3 : ∀ e ∈ mt_61_3, mx_Ok mx_MT mq_61 e.1 e.2 := 
  mc_1 (mk_r (Or.inl ⟨rfl, by decide +kernel, _, rfl, mf_2⟩) rfl) <|
  mc_1 (mk_p (ms_iload_n (k := 2) (by decide +kernel) rfl) rfl) <|
  mc_1 (mk_p (ms_sipush (n := 267) (by decide +kernel) (by decide +kernel)) rfl) <|
  mc_1 (mk_p (ms_icmp_ne (off := (7)) (by decide +kernel) (by decide)) rfl) <|
  mc_1 (mk_p (ms_iconst (n := 1) (by decide +kernel) (by decide +kernel)) rfl) <|
  mc_1 (mk_p (ms_goto (off := (4)) (by decide +kernel) (by decide)) rfl) <|
  mc_1 (mk_p (ms_iconst (n := 0) (by decide +kernel) (by decide +kernel)) rfl) <|
  mc_1 (mk_r (Or.inl ⟨rfl, by decide +kernel, _, rfl, mf_2⟩) rfl) <|
  mc_1 (mk_p (ms_iload_n (k := 1) (by decide +kernel) rfl) rfl) <|
  mc_1 (mk_p (ms_if_ne (off := (19)) (by decide +kernel) (by decide)) rfl) <| mc_0
theorem mw_61_4 : ∀ e ∈ mt_61_4, mx_Ok mx_MT mq_61 e.1 e.2 := 
  mc_1 (mk_p (ms_iload_n (k := 2) (by decide +kernel) rfl) rfl) <|
  mc_1 (mk_p (ms_bipush (n := 60) (by decide +kernel) (by decide +kernel)) rfl) <|
  mc_1 (mk_p (ms_icmp_eq (off := (9)) (by decide +kernel) (by decide)) rfl) <|
  mc_1 (mk_p (ms_iload_n (k := 2) (by decide +kernel) rfl) rfl) <|
  mc_1 (mk_p (ms_bipush (n := 61) (by decide +kernel) (by decide +kernel)) rfl) <|
  mc_1 (mk_p (ms_icmp_ne (off := (7)) (by decide +kernel) (by decide)) rfl) <|
  mc_1 (mk_p (ms_iconst (n := 1) (by decide +kernel) (by decide +kernel)) rfl) <|
  mc_1 (mk_p (ms_goto (off := (4)) (by decide +kernel) (by decide)) rfl) <| mc_0
theorem mw_61_5 : ∀ e ∈ mt_61_5, mx_Ok mx_MT mq_61 e.1 e.2 := 
  mc_1 (mk_p (ms_iconst (n := 0) (by decide +kernel) (by decide +kernel)) rfl) <|
  mc_1 (mk_r (Or.inl ⟨rfl, by decide +kernel, _, rfl, mf_2⟩) rfl) <|
  mc_1 (mk_p (ms_iload_n (k := 2) (by decide +kernel) rfl) rfl) <|
  mc_1 (mk_p (ms_bipush (n := 43) (by decide +kernel) (by decide +kernel)) rfl) <|
  mc_1 (mk_p (ms_icmp_eq (off := (9)) (by decide +kernel) (by decide)) rfl) <|
  mc_1 (mk_p (ms_iload_n (k := 2) (by decide +kernel) rfl) rfl) <|
  mc_1 (mk_p (ms_bipush (n := 45) (by decide +kernel) (by decide +kernel)) rfl) <|
  mc_1 (mk_p (ms_icmp_ne (off := (7)) (by decide +kernel) (by decide)) rfl) <| mc_0
theorem mw_61_6 : ∀ e ∈ mt_61_6, mx_Ok mx_MT mq_61 e.1 e.2 := 
  mc_1 (mk_p (ms_iconst (n := 1) (by decide +kernel) (by decide +kernel)) rfl) <|
  mc_1 (mk_p (ms_goto (off := (4)) (by decide +kernel) (by decide)) rfl) <|
  mc_1 (mk_p (ms_iconst (n := 0) (by decide +kernel) (by decide +kernel)) rfl) <|
  mc_1 (mk_r (Or.inl ⟨rfl, by decide +kernel, _, rfl, mf_2⟩) rfl) <|
  mc_1 (mk_p (ms_iload_n (k := 2) (by decide +kernel) rfl) rfl) <|
  mc_1 (mk_p (ms_bipush (n := 42) (by decide +kernel) (by decide +kernel)) rfl) <|
  mc_1 (mk_p (ms_icmp_ne (off := (7)) (by decide +kernel) (by decide)) rfl) <|
  mc_1 (mk_p (ms_iconst (n := 1) (by decide +kernel) (by decide +kernel)) rfl) <|
  mc_1 (mk_p (ms_goto (off := (4)) (by decide +kernel) (by decide)) rfl) <| mc_0
theorem mw_61_7 : ∀ e ∈ mt_61_7, mx_Ok mx_MT mq_61 e.1 e.2 := 
  mc_1 (mk_p (ms_iconst (n := 0) (by decide +kernel) (by decide +kernel)) rfl) <|
  mc_1 (mk_r (Or.inl ⟨rfl, by decide +kernel, _, rfl, mf_2⟩) rfl) <|
  mc_1 (mk_p (ms_iconst (n := 0) (by decide +kernel) (by decide +kernel)) rfl) <|
  mc_1 (mk_r (Or.inl ⟨rfl, by decide +kernel, _, rfl, mf_2⟩) rfl) <| mc_0
theorem mw_61 : ∀ ch ∈ mt_61, ∀ e ∈ ch, mx_Ok mx_MT mq_61 e.1 e.2 := mc_2 mw_61_0 <| mc_2 mw_61_1 <| mc_2 mw_61_2 <| mc_2 mw_61_3 <| mc_2 mw_61_4 <| mc_2 mw_61_5 <| mc_2 mw_61_6 <| mc_2 mw_61_7 <| mc_3
/- 62 LeagueOffice$Reader.readNot(I)Z -/
theorem mw_62_0 : ∀ e ∈ mt_62_0, mx_Ok mx_MT mq_62 e.1 e.2 := 
  mc_1 (mk_p (ms_iload_n (k := 1) (by decide +kernel) rfl) rfl) <|
  mc_1 (mk_p (ms_iconst (n := 5) (by decide +kernel) (by decide +kernel)) rfl) <|
  mc_1 (mk_p (ms_icmp_ge (off := (13)) (by decide +kernel) (by decide)) rfl) <|
  mc_1 (mk_p (ms_aload_n (k := 0) (by decide +kernel) rfl) rfl) <|
  mc_1 (mk_p (ms_sipush (n := 268) (by decide +kernel) (by decide +kernel)) rfl) <|
  mc_1 (mk_c (k := mq_58) rfl ⟨mo_58, 137, 655, none, ml_m_LeagueOffice_Reader_137, Or.inr (Or.inr (Or.inl ⟨5, TX5, 6, by decide, rfl, rfl, (by decide +kernel), ⟨1, rfl, mx_npd (by decide +kernel)⟩, ml_in_657, ml_se_9⟩))⟩) <|
  mc_1 (mk_p (ms_if_ne (off := (5)) (by decide +kernel) (by decide)) rfl) <|
  mc_1 (mk_p (ms_iconst (n := 0) (by decide +kernel) (by decide +kernel)) rfl) <| mc_0
theorem mw_62_1 : ∀ e ∈ mt_62_1, mx_Ok mx_MT mq_62 e.1 e.2 := 
  mc_1 (mk_r (Or.inl ⟨rfl, by decide +kernel, _, rfl, mf_2⟩) rfl) <|
  mc_1 (mk_p (ms_aload_n (k := 0) (by decide +kernel) rfl) rfl) <|
  mc_1 (mk_p (ms_iconst (n := 2) (by decide +kernel) (by decide +kernel)) rfl) <|
  mc_1 (mk_p (ms_iload_n (k := 1) (by decide +kernel) rfl) rfl) <|
  mc_1 (mk_p (ms_iconst (n := 1) (by decide +kernel) (by decide +kernel)) rfl) <|
  mc_1 (mk_p (ms_iadd (by decide +kernel)) rfl) <|
  mc_1 (mk_c (k := mq_60) rfl ⟨mo_60, 143, 668, none, ml_m_LeagueOffice_Reader_143, Or.inr (Or.inr (Or.inl ⟨5, TX5, 6, by decide, rfl, rfl, (by decide +kernel), ⟨2, rfl, mx_npd (by decide +kernel)⟩, ml_in_670, ml_se_10⟩))⟩) <|
  mc_1 (mk_p (ms_if_ne (off := (5)) (by decide +kernel) (by decide)) rfl) <|
  mc_1 (mk_p (ms_iconst (n := 0) (by decide +kernel) (by decide +kernel)) rfl) <|
  mc_1 (mk_r (Or.inl ⟨rfl, by decide +kernel, _, rfl, mf_2⟩) rfl) <|
  mc_1 (mk_p (ms_aload_n (k := 0) (by decide +kernel) rfl) rfl) <|
  mc_1 (mk_p (ms_get (idx := 29) (w := 252) (host := none) mx_c5 (by decide) ml_f_LeagueOffice_Reader_29 (by decide +kernel)) rfl) <| mc_0
theorem mw_62_2 : ∀ e ∈ mt_62_2, mx_Ok mx_MT mq_62 e.1 e.2 := 
  mc_1 (mk_p (ms_sipush (n := 268) (by decide +kernel) (by decide +kernel)) rfl) <|
  mc_1 (mk_c (k := mq_111) rfl ⟨mo_111, 160, 681, none, ml_m_LeagueOffice_Reader_160, Or.inr (Or.inr (Or.inl ⟨10, TX10, 8, by decide, rfl, rfl, (by decide +kernel), ⟨1, rfl, mx_npd (by decide +kernel)⟩, ml_in_682, ml_se_683⟩))⟩) <|
  mc_1 (mk_p (ms_iconst (n := 1) (by decide +kernel) (by decide +kernel)) rfl) <|
  mc_1 (mk_r (Or.inl ⟨rfl, by decide +kernel, _, rfl, mf_2⟩) rfl) <| mc_0
theorem mw_62 : ∀ ch ∈ mt_62, ∀ e ∈ ch, mx_Ok mx_MT mq_62 e.1 e.2 := mc_2 mw_62_0 <| mc_2 mw_62_1 <| mc_2 mw_62_2 <| mc_3
/- 63 LeagueOffice$Reader.readOne(I)Z -/
theorem mw_63_0 : ∀ e ∈ mt_63_0, mx_Ok mx_MT mq_63 e.1 e.2 := 
  mc_1 (mk_p (ms_aload_n (k := 0) (by decide +kernel) rfl) rfl) <|
  mc_1 (mk_p (ms_get (idx := 20) (w := 255) (host := none) mx_c5 (by decide) ml_f_LeagueOffice_Reader_20 (by decide +kernel)) rfl) <|
  mc_1 (mk_p (ms_aload_n (k := 0) (by decide +kernel) rfl) rfl) <|
  mc_1 (mk_p (ms_get (idx := 41) (w := 258) (host := none) mx_c5 (by decide) ml_f_LeagueOffice_Reader_41 (by decide +kernel)) rfl) <|
  mc_1 (mk_c (k := mq_68) rfl ⟨mo_68, 52, 590, none, ml_m_LeagueOffice_Reader_52, Or.inr (Or.inr (Or.inl ⟨6, TX6, 2, by decide, rfl, rfl, (by decide +kernel), ⟨1, rfl, mx_npd (by decide +kernel)⟩, ml_in_591, ml_se_592⟩))⟩) <|
  mc_1 (mk_p (ms_istore_n (k := 2) (by decide +kernel) rfl (by decide)) rfl) <|
  mc_1 (mk_p (ms_iload_n (k := 2) (by decide +kernel) rfl) rfl) <|
  mc_1 (mk_p (ms_iconst (n := 2) (by decide +kernel) (by decide +kernel)) rfl) <|
  mc_1 (mk_p (ms_icmp_ne (off := (33)) (by decide +kernel) (by decide)) rfl) <| mc_0
theorem mw_63_1 : ∀ e ∈ mt_63_1, mx_Ok mx_MT mq_63 e.1 e.2 := 
  mc_1 (mk_p (ms_aload_n (k := 0) (by decide +kernel) rfl) rfl) <|
  mc_1 (mk_p (ms_get (idx := 29) (w := 252) (host := none) mx_c5 (by decide) ml_f_LeagueOffice_Reader_29 (by decide +kernel)) rfl) <|
  mc_1 (mk_p (ms_aload_n (k := 0) (by decide +kernel) rfl) rfl) <|
  mc_1 (mk_p (ms_get (idx := 26) (w := 257) (host := none) mx_c5 (by decide) ml_f_LeagueOffice_Reader_26 (by decide +kernel)) rfl) <|
  mc_1 (mk_p (ms_aload_n (k := 0) (by decide +kernel) rfl) rfl) <|
  mc_1 (mk_p (ms_get (idx := 41) (w := 258) (host := none) mx_c5 (by decide) ml_f_LeagueOffice_Reader_41 (by decide +kernel)) rfl) <|
  mc_1 (mk_c (k := mq_68) rfl ⟨mo_68, 52, 590, none, ml_m_LeagueOffice_Reader_52, Or.inr (Or.inr (Or.inl ⟨6, TX6, 2, by decide, rfl, rfl, (by decide +kernel), ⟨1, rfl, mx_npd (by decide +kernel)⟩, ml_in_591, ml_se_592⟩))⟩) <| mc_0
theorem mw_63_2 : ∀ e ∈ mt_63_2, mx_Ok mx_MT mq_63 e.1 e.2 := 
  mc_1 (mk_c (k := mq_110) rfl ⟨mo_110, 163, 676, none, ml_m_LeagueOffice_Reader_163, Or.inr (Or.inr (Or.inl ⟨10, TX10, 8, by decide, rfl, rfl, (by decide +kernel), ⟨1, rfl, mx_npd (by decide +kernel)⟩, ml_in_677, ml_se_678⟩))⟩) <|
  mc_1 (mk_p (ms_aload_n (k := 0) (by decide +kernel) rfl) rfl) <|
  mc_1 (mk_p (ms_dup (by decide +kernel)) rfl) <|
  mc_1 (mk_p (ms_get (idx := 41) (w := 258) (host := none) mx_c5 (by decide) ml_f_LeagueOffice_Reader_41 (by decide +kernel)) rfl) <|
  mc_1 (mk_p (ms_iconst (n := 1) (by decide +kernel) (by decide +kernel)) rfl) <|
  mc_1 (mk_p (ms_iadd (by decide +kernel)) rfl) <|
  mc_1 (mk_p (ms_put (idx := 41) (w := 258) (host := none) mx_c5 (by decide) ml_f_LeagueOffice_Reader_41 rfl rfl (by decide +kernel)) rfl) <|
  mc_1 (mk_p (ms_iconst (n := 1) (by decide +kernel) (by decide +kernel)) rfl) <|
  mc_1 (mk_r (Or.inl ⟨rfl, by decide +kernel, _, rfl, mf_2⟩) rfl) <|
  mc_1 (mk_p (ms_iload_n (k := 2) (by decide +kernel) rfl) rfl) <| mc_0
theorem mw_63_3 : ∀ e ∈ mt_63_3, mx_Ok mx_MT mq_63 e.1 e.2 := 
  mc_1 (mk_p (ms_sipush (n := 256) (by decide +kernel) (by decide +kernel)) rfl) <|
  mc_1 (mk_p (ms_icmp_lt (off := (30)) (by decide +kernel) (by decide)) rfl) <|
  mc_1 (mk_p (ms_iload_n (k := 2) (by decide +kernel) rfl) rfl) <|
  mc_1 (mk_p (ms_sipush (n := 262) (by decide +kernel) (by decide +kernel)) rfl) <|
  mc_1 (mk_p (ms_icmp_ge (off := (23)) (by decide +kernel) (by decide)) rfl) <|
  mc_1 (mk_p (ms_aload_n (k := 0) (by decide +kernel) rfl) rfl) <|
  mc_1 (mk_p (ms_get (idx := 29) (w := 252) (host := none) mx_c5 (by decide) ml_f_LeagueOffice_Reader_29 (by decide +kernel)) rfl) <| mc_0
theorem mw_63_4 : ∀ e ∈ mt_63_4, mx_Ok mx_MT mq_63 e.1 e.2 := 
  mc_1 (mk_p (ms_iload_n (k := 2) (by decide +kernel) rfl) rfl) <|
  mc_1 (mk_c (k := mq_111) rfl ⟨mo_111, 160, 681, none, ml_m_LeagueOffice_Reader_160, Or.inr (Or.inr (Or.inl ⟨10, TX10, 8, by decide, rfl, rfl, (by decide +kernel), ⟨1, rfl, mx_npd (by decide +kernel)⟩, ml_in_682, ml_se_683⟩))⟩) <|
  mc_1 (mk_p (ms_aload_n (k := 0) (by decide +kernel) rfl) rfl) <|
  mc_1 (mk_p (ms_dup (by decide +kernel)) rfl) <|
  mc_1 (mk_p (ms_get (idx := 41) (w := 258) (host := none) mx_c5 (by decide) ml_f_LeagueOffice_Reader_41 (by decide +kernel)) rfl) <|
  mc_1 (mk_p (ms_iconst (n := 1) (by decide +kernel) (by decide +kernel)) rfl) <|
  mc_1 (mk_p (ms_iadd (by decide +kernel)) rfl) <|
  mc_1 (mk_p (ms_put (idx := 41) (w := 258) (host := none) mx_c5 (by decide) ml_f_LeagueOffice_Reader_41 rfl rfl (by decide +kernel)) rfl) <|
  mc_1 (mk_p (ms_iconst (n := 1) (by decide +kernel) (by decide +kernel)) rfl) <| mc_0
theorem mw_63_5 : ∀ e ∈ mt_63_5, mx_Ok mx_MT mq_63 e.1 e.2 := 
  mc_1 (mk_r (Or.inl ⟨rfl, by decide +kernel, _, rfl, mf_2⟩) rfl) <|
  mc_1 (mk_p (ms_iload_n (k := 1) (by decide +kernel) rfl) rfl) <|
  mc_1 (mk_p (ms_iconst (n := 5) (by decide +kernel) (by decide +kernel)) rfl) <|
  mc_1 (mk_p (ms_icmp_lt (off := (5)) (by decide +kernel) (by decide)) rfl) <|
  mc_1 (mk_p (ms_iconst (n := 0) (by decide +kernel) (by decide +kernel)) rfl) <|
  mc_1 (mk_r (Or.inl ⟨rfl, by decide +kernel, _, rfl, mf_2⟩) rfl) <|
  mc_1 (mk_p (ms_aload_n (k := 0) (by decide +kernel) rfl) rfl) <|
  mc_1 (mk_p (ms_bipush (n := 40) (by decide +kernel) (by decide +kernel)) rfl) <|
  mc_1 (mk_c (k := mq_58) rfl ⟨mo_58, 137, 655, none, ml_m_LeagueOffice_Reader_137, Or.inr (Or.inr (Or.inl ⟨5, TX5, 6, by decide, rfl, rfl, (by decide +kernel), ⟨1, rfl, mx_npd (by decide +kernel)⟩, ml_in_657, ml_se_9⟩))⟩) <|
  mc_1 (mk_p (ms_if_eq (off := (29)) (by decide +kernel) (by decide)) rfl) <| mc_0
theorem mw_63_6 : ∀ e ∈ mt_63_6, mx_Ok mx_MT mq_63 e.1 e.2 := 
  mc_1 (mk_p (ms_aload_n (k := 0) (by decide +kernel) rfl) rfl) <|
  mc_1 (mk_p (ms_iconst (n := 0) (by decide +kernel) (by decide +kernel)) rfl) <|
  mc_1 (mk_p (ms_iload_n (k := 1) (by decide +kernel) rfl) rfl) <|
  mc_1 (mk_p (ms_iconst (n := 1) (by decide +kernel) (by decide +kernel)) rfl) <|
  mc_1 (mk_p (ms_iadd (by decide +kernel)) rfl) <|
  mc_1 (mk_c (k := mq_60) rfl ⟨mo_60, 143, 668, none, ml_m_LeagueOffice_Reader_143, Or.inr (Or.inr (Or.inl ⟨5, TX5, 6, by decide, rfl, rfl, (by decide +kernel), ⟨2, rfl, mx_npd (by decide +kernel)⟩, ml_in_670, ml_se_10⟩))⟩) <|
  mc_1 (mk_p (ms_if_eq (off := (16)) (by decide +kernel) (by decide)) rfl) <|
  mc_1 (mk_p (ms_aload_n (k := 0) (by decide +kernel) rfl) rfl) <|
  mc_1 (mk_p (ms_bipush (n := 41) (by decide +kernel) (by decide +kernel)) rfl) <|
  mc_1 (mk_c (k := mq_58) rfl ⟨mo_58, 137, 655, none, ml_m_LeagueOffice_Reader_137, Or.inr (Or.inr (Or.inl ⟨5, TX5, 6, by decide, rfl, rfl, (by decide +kernel), ⟨1, rfl, mx_npd (by decide +kernel)⟩, ml_in_657, ml_se_9⟩))⟩) <| mc_0
theorem mw_63_7 : ∀ e ∈ mt_63_7, mx_Ok mx_MT mq_63 e.1 e.2 := 
  mc_1 (mk_p (ms_if_eq (off := (7)) (by decide +kernel) (by decide)) rfl) <|
  mc_1 (mk_p (ms_iconst (n := 1) (by decide +kernel) (by decide +kernel)) rfl) <|
  mc_1 (mk_p (ms_goto (off := (4)) (by decide +kernel) (by decide)) rfl) <|
  mc_1 (mk_p (ms_iconst (n := 0) (by decide +kernel) (by decide +kernel)) rfl) <|
  mc_1 (mk_r (Or.inl ⟨rfl, by decide +kernel, _, rfl, mf_2⟩) rfl) <|
  mc_1 (mk_p (ms_aload_n (k := 0) (by decide +kernel) rfl) rfl) <|
  mc_1 (mk_p (ms_bipush (n := 45) (by decide +kernel) (by decide +kernel)) rfl) <|
  mc_1 (mk_c (k := mq_58) rfl ⟨mo_58, 137, 655, none, ml_m_LeagueOffice_Reader_137, Or.inr (Or.inr (Or.inl ⟨5, TX5, 6, by decide, rfl, rfl, (by decide +kernel), ⟨1, rfl, mx_npd (by decide +kernel)⟩, ml_in_657, ml_se_9⟩))⟩) <| mc_0
theorem mw_63_8 : ∀ e ∈ mt_63_8, mx_Ok mx_MT mq_63 e.1 e.2 := 
  mc_1 (mk_p (ms_if_eq (off := (14)) (by decide +kernel) (by decide)) rfl) <|
  mc_1 (mk_p (ms_aload_n (k := 0) (by decide +kernel) rfl) rfl) <|
  mc_1 (mk_p (ms_iconst (n := 5) (by decide +kernel) (by decide +kernel)) rfl) <|
  mc_1 (mk_p (ms_iload_n (k := 1) (by decide +kernel) rfl) rfl) <|
  mc_1 (mk_p (ms_iconst (n := 1) (by decide +kernel) (by decide +kernel)) rfl) <|
  mc_1 (mk_p (ms_iadd (by decide +kernel)) rfl) <|
  mc_1 (mk_c (k := mq_60) rfl ⟨mo_60, 143, 668, none, ml_m_LeagueOffice_Reader_143, Or.inr (Or.inr (Or.inl ⟨5, TX5, 6, by decide, rfl, rfl, (by decide +kernel), ⟨2, rfl, mx_npd (by decide +kernel)⟩, ml_in_670, ml_se_10⟩))⟩) <|
  mc_1 (mk_p (ms_if_ne (off := (5)) (by decide +kernel) (by decide)) rfl) <|
  mc_1 (mk_p (ms_iconst (n := 0) (by decide +kernel) (by decide +kernel)) rfl) <| mc_0
theorem mw_63_9 : ∀ e ∈ mt_63_9, mx_Ok mx_MT mq_63 e.1 e.2 := 
  mc_1 (mk_r (Or.inl ⟨rfl, by decide +kernel, _, rfl, mf_2⟩) rfl) <|
  mc_1 (mk_p (ms_aload_n (k := 0) (by decide +kernel) rfl) rfl) <|
  mc_1 (mk_p (ms_get (idx := 29) (w := 252) (host := none) mx_c5 (by decide) ml_f_LeagueOffice_Reader_29 (by decide +kernel)) rfl) <|
  mc_1 (mk_p (ms_iconst (n := 3) (by decide +kernel) (by decide +kernel)) rfl) <|
  mc_1 (mk_c (k := mq_111) rfl ⟨mo_111, 160, 681, none, ml_m_LeagueOffice_Reader_160, Or.inr (Or.inr (Or.inl ⟨10, TX10, 8, by decide, rfl, rfl, (by decide +kernel), ⟨1, rfl, mx_npd (by decide +kernel)⟩, ml_in_682, ml_se_683⟩))⟩) <|
  mc_1 (mk_p (ms_iconst (n := 1) (by decide +kernel) (by decide +kernel)) rfl) <|
  mc_1 (mk_r (Or.inl ⟨rfl, by decide +kernel, _, rfl, mf_2⟩) rfl) <| mc_0
theorem mw_63 : ∀ ch ∈ mt_63, ∀ e ∈ ch, mx_Ok mx_MT mq_63 e.1 e.2 := mc_2 mw_63_0 <| mc_2 mw_63_1 <| mc_2 mw_63_2 <| mc_2 mw_63_3 <| mc_2 mw_63_4 <| mc_2 mw_63_5 <| mc_2 mw_63_6 <| mc_2 mw_63_7 <| mc_2 mw_63_8 <| mc_2 mw_63_9 <| mc_3
/- 64 LeagueOffice$Row.<init>(I)V -/
theorem mw_64_0 : ∀ e ∈ mt_64_0, mx_Ok mx_MT mq_64 e.1 e.2 := 
  mc_1 (mk_p (ms_aload_n (k := 0) (by decide +kernel) rfl) rfl) <|
  mc_1 (mk_p (ms_obj (idx := 1) 116 103 104 (by decide +kernel) (by decide +kernel) (by decide +kernel) (by decide +kernel)) rfl) <|
  mc_1 (mk_p (ms_aload_n (k := 0) (by decide +kernel) rfl) rfl) <|
  mc_1 (mk_p (ms_iload_n (k := 1) (by decide +kernel) rfl) rfl) <|
  mc_1 (mk_p (ms_iconst (n := 0) (by decide +kernel) (by decide +kernel)) rfl) <|
  mc_1 (mk_p (ms_max (idx := 7) 117 118 80 119 (by decide +kernel) (by decide +kernel) (by decide +kernel) (by decide +kernel) (by decide +kernel)) rfl) <|
  mc_1 (mk_p (ms_newa (at' := .int) 128 (by decide) rfl (by decide +kernel) (by decide) (by decide +kernel)) rfl) <|
  mc_1 (mk_p (ms_putF (idx := 13) (w := 120) mx_c6 (by decide) ml_f_LeagueOffice_Row_13 rfl rfl rfl rfl (by decide +kernel)) rfl) <|
  mc_1 (mk_r (Or.inr (Or.inr (Or.inr ⟨rfl, by decide +kernel, rfl⟩))) rfl) <| mc_0
theorem mw_64 : ∀ ch ∈ mt_64, ∀ e ∈ ch, mx_Ok mx_MT mq_64 e.1 e.2 := mc_2 mw_64_0 <| mc_3
/- 65 LeagueOffice$Row.size()I -/
theorem mw_65_0 : ∀ e ∈ mt_65_0, mx_Ok mx_MT mq_65 e.1 e.2 := 
  mc_1 (mk_p (ms_aload_n (k := 0) (by decide +kernel) rfl) rfl) <|
  mc_1 (mk_p (ms_get (idx := 19) (w := 121) (host := none) mx_c6 (by decide) ml_f_LeagueOffice_Row_19 (by decide +kernel)) rfl) <|
  mc_1 (mk_r (Or.inl ⟨rfl, by decide +kernel, _, rfl, mf_0⟩) rfl) <| mc_0
theorem mw_65 : ∀ ch ∈ mt_65, ∀ e ∈ ch, mx_Ok mx_MT mq_65 e.1 e.2 := mc_2 mw_65_0 <| mc_3
/- 66 LeagueOffice$Row.isFull()Z -/
theorem mw_66_0 : ∀ e ∈ mt_66_0, mx_Ok mx_MT mq_66 e.1 e.2 := 
  mc_1 (mk_p (ms_aload_n (k := 0) (by decide +kernel) rfl) rfl) <|
  mc_1 (mk_p (ms_get (idx := 19) (w := 121) (host := none) mx_c6 (by decide) ml_f_LeagueOffice_Row_19 (by decide +kernel)) rfl) <|
  mc_1 (mk_p (ms_aload_n (k := 0) (by decide +kernel) rfl) rfl) <|
  mc_1 (mk_p (ms_get (idx := 13) (w := 120) (host := none) mx_c6 (by decide) ml_f_LeagueOffice_Row_13 (by decide +kernel)) rfl) <|
  mc_1 (mk_p (ms_alen (by decide +kernel)) rfl) <|
  mc_1 (mk_p (ms_icmp_lt (off := (7)) (by decide +kernel) (by decide)) rfl) <|
  mc_1 (mk_p (ms_iconst (n := 1) (by decide +kernel) (by decide +kernel)) rfl) <|
  mc_1 (mk_p (ms_goto (off := (4)) (by decide +kernel) (by decide)) rfl) <| mc_0
theorem mw_66_1 : ∀ e ∈ mt_66_1, mx_Ok mx_MT mq_66 e.1 e.2 := 
  mc_1 (mk_p (ms_iconst (n := 0) (by decide +kernel) (by decide +kernel)) rfl) <|
  mc_1 (mk_r (Or.inl ⟨rfl, by decide +kernel, _, rfl, mf_2⟩) rfl) <| mc_0
theorem mw_66 : ∀ ch ∈ mt_66, ∀ e ∈ ch, mx_Ok mx_MT mq_66 e.1 e.2 := mc_2 mw_66_0 <| mc_2 mw_66_1 <| mc_3
/- 67 LeagueOffice$Row.has(I)Z -/
theorem mw_67_0 : ∀ e ∈ mt_67_0, mx_Ok mx_MT mq_67 e.1 e.2 := 
  mc_1 (mk_p (ms_iload_n (k := 1) (by decide +kernel) rfl) rfl) <|
  mc_1 (mk_p (ms_if_lt (off := (15)) (by decide +kernel) (by decide)) rfl) <|
  mc_1 (mk_p (ms_iload_n (k := 1) (by decide +kernel) rfl) rfl) <|
  mc_1 (mk_p (ms_aload_n (k := 0) (by decide +kernel) rfl) rfl) <|
  mc_1 (mk_p (ms_get (idx := 19) (w := 121) (host := none) mx_c6 (by decide) ml_f_LeagueOffice_Row_19 (by decide +kernel)) rfl) <|
  mc_1 (mk_p (ms_icmp_ge (off := (7)) (by decide +kernel) (by decide)) rfl) <|
  mc_1 (mk_p (ms_iconst (n := 1) (by decide +kernel) (by decide +kernel)) rfl) <|
  mc_1 (mk_p (ms_goto (off := (4)) (by decide +kernel) (by decide)) rfl) <| mc_0
theorem mw_67_1 : ∀ e ∈ mt_67_1, mx_Ok mx_MT mq_67 e.1 e.2 := 
  mc_1 (mk_p (ms_iconst (n := 0) (by decide +kernel) (by decide +kernel)) rfl) <|
  mc_1 (mk_r (Or.inl ⟨rfl, by decide +kernel, _, rfl, mf_2⟩) rfl) <| mc_0
theorem mw_67 : ∀ ch ∈ mt_67, ∀ e ∈ ch, mx_Ok mx_MT mq_67 e.1 e.2 := mc_2 mw_67_0 <| mc_2 mw_67_1 <| mc_3
/- 68 LeagueOffice$Row.get(I)I -/
theorem mw_68_0 : ∀ e ∈ mt_68_0, mx_Ok mx_MT mq_68 e.1 e.2 := 
  mc_1 (mk_p (ms_iload_n (k := 1) (by decide +kernel) rfl) rfl) <|
  mc_1 (mk_p (ms_if_lt (off := (21)) (by decide +kernel) (by decide)) rfl) <|
  mc_1 (mk_p (ms_iload_n (k := 1) (by decide +kernel) rfl) rfl) <|
  mc_1 (mk_p (ms_aload_n (k := 0) (by decide +kernel) rfl) rfl) <|
  mc_1 (mk_p (ms_get (idx := 13) (w := 120) (host := none) mx_c6 (by decide) ml_f_LeagueOffice_Row_13 (by decide +kernel)) rfl) <|
  mc_1 (mk_p (ms_alen (by decide +kernel)) rfl) <|
  mc_1 (mk_p (ms_icmp_ge (off := (12)) (by decide +kernel) (by decide)) rfl) <|
  mc_1 (mk_p (ms_aload_n (k := 0) (by decide +kernel) rfl) rfl) <|
  mc_1 (mk_p (ms_get (idx := 13) (w := 120) (host := none) mx_c6 (by decide) ml_f_LeagueOffice_Row_13 (by decide +kernel)) rfl) <| mc_0
theorem mw_68_1 : ∀ e ∈ mt_68_1, mx_Ok mx_MT mq_68 e.1 e.2 := 
  mc_1 (mk_p (ms_iload_n (k := 1) (by decide +kernel) rfl) rfl) <|
  mc_1 (mk_p (ms_ald (Or.inl ⟨rfl, by decide +kernel⟩)) rfl) <|
  mc_1 (mk_p (ms_goto (off := (4)) (by decide +kernel) (by decide)) rfl) <|
  mc_1 (mk_p (ms_iconst (n := 0) (by decide +kernel) (by decide +kernel)) rfl) <|
  mc_1 (mk_r (Or.inl ⟨rfl, by decide +kernel, _, rfl, mf_0⟩) rfl) <| mc_0
theorem mw_68 : ∀ ch ∈ mt_68, ∀ e ∈ ch, mx_Ok mx_MT mq_68 e.1 e.2 := mc_2 mw_68_0 <| mc_2 mw_68_1 <| mc_3
/- 69 LeagueOffice$Row.put(II)V -/
theorem mw_69_0 : ∀ e ∈ mt_69_0, mx_Ok mx_MT mq_69 e.1 e.2 := 
  mc_1 (mk_p (ms_iload_n (k := 1) (by decide +kernel) rfl) rfl) <|
  mc_1 (mk_p (ms_if_lt (off := (19)) (by decide +kernel) (by decide)) rfl) <|
  mc_1 (mk_p (ms_iload_n (k := 1) (by decide +kernel) rfl) rfl) <|
  mc_1 (mk_p (ms_aload_n (k := 0) (by decide +kernel) rfl) rfl) <|
  mc_1 (mk_p (ms_get (idx := 13) (w := 120) (host := none) mx_c6 (by decide) ml_f_LeagueOffice_Row_13 (by decide +kernel)) rfl) <|
  mc_1 (mk_p (ms_alen (by decide +kernel)) rfl) <|
  mc_1 (mk_p (ms_icmp_ge (off := (10)) (by decide +kernel) (by decide)) rfl) <|
  mc_1 (mk_p (ms_aload_n (k := 0) (by decide +kernel) rfl) rfl) <|
  mc_1 (mk_p (ms_get (idx := 13) (w := 120) (host := none) mx_c6 (by decide) ml_f_LeagueOffice_Row_13 (by decide +kernel)) rfl) <| mc_0
theorem mw_69_1 : ∀ e ∈ mt_69_1, mx_Ok mx_MT mq_69 e.1 e.2 := 
  mc_1 (mk_p (ms_iload_n (k := 1) (by decide +kernel) rfl) rfl) <|
  mc_1 (mk_p (ms_iload_n (k := 2) (by decide +kernel) rfl) rfl) <|
  mc_1 (mk_p (ms_ast (Or.inl ⟨rfl, by decide +kernel⟩)) rfl) <|
  mc_1 (mk_r (Or.inr (Or.inr (Or.inr ⟨rfl, by decide +kernel, rfl⟩))) rfl) <| mc_0
theorem mw_69 : ∀ ch ∈ mt_69, ∀ e ∈ ch, mx_Ok mx_MT mq_69 e.1 e.2 := mc_2 mw_69_0 <| mc_2 mw_69_1 <| mc_3
/- 70 LeagueOffice$Row.raise(II)V -/
theorem mw_70_0 : ∀ e ∈ mt_70_0, mx_Ok mx_MT mq_70 e.1 e.2 := 
  mc_1 (mk_p (ms_iload_n (k := 1) (by decide +kernel) rfl) rfl) <|
  mc_1 (mk_p (ms_if_lt (off := (22)) (by decide +kernel) (by decide)) rfl) <|
  mc_1 (mk_p (ms_iload_n (k := 1) (by decide +kernel) rfl) rfl) <|
  mc_1 (mk_p (ms_aload_n (k := 0) (by decide +kernel) rfl) rfl) <|
  mc_1 (mk_p (ms_get (idx := 13) (w := 120) (host := none) mx_c6 (by decide) ml_f_LeagueOffice_Row_13 (by decide +kernel)) rfl) <|
  mc_1 (mk_p (ms_alen (by decide +kernel)) rfl) <|
  mc_1 (mk_p (ms_icmp_ge (off := (13)) (by decide +kernel) (by decide)) rfl) <|
  mc_1 (mk_p (ms_aload_n (k := 0) (by decide +kernel) rfl) rfl) <|
  mc_1 (mk_p (ms_get (idx := 13) (w := 120) (host := none) mx_c6 (by decide) ml_f_LeagueOffice_Row_13 (by decide +kernel)) rfl) <| mc_0
theorem mw_70_1 : ∀ e ∈ mt_70_1, mx_Ok mx_MT mq_70 e.1 e.2 := 
  mc_1 (mk_p (ms_iload_n (k := 1) (by decide +kernel) rfl) rfl) <|
  mc_1 (mk_p (ms_dup2 (by decide +kernel)) rfl) <|
  mc_1 (mk_p (ms_ald (Or.inl ⟨rfl, by decide +kernel⟩)) rfl) <|
  mc_1 (mk_p (ms_iload_n (k := 2) (by decide +kernel) rfl) rfl) <|
  mc_1 (mk_p (ms_iadd (by decide +kernel)) rfl) <|
  mc_1 (mk_p (ms_ast (Or.inl ⟨rfl, by decide +kernel⟩)) rfl) <|
  mc_1 (mk_r (Or.inr (Or.inr (Or.inr ⟨rfl, by decide +kernel, rfl⟩))) rfl) <| mc_0
theorem mw_70 : ∀ ch ∈ mt_70, ∀ e ∈ ch, mx_Ok mx_MT mq_70 e.1 e.2 := mc_2 mw_70_0 <| mc_2 mw_70_1 <| mc_3
/- 71 LeagueOffice$Row.add(I)I -/
theorem mw_71_0 : ∀ e ∈ mt_71_0, mx_Ok mx_MT mq_71 e.1 e.2 := 
  mc_1 (mk_p (ms_aload_n (k := 0) (by decide +kernel) rfl) rfl) <|
  mc_1 (mk_p (ms_get (idx := 19) (w := 121) (host := none) mx_c6 (by decide) ml_f_LeagueOffice_Row_19 (by decide +kernel)) rfl) <|
  mc_1 (mk_p (ms_if_lt (off := (35)) (by decide +kernel) (by decide)) rfl) <|
  mc_1 (mk_p (ms_aload_n (k := 0) (by decide +kernel) rfl) rfl) <|
  mc_1 (mk_p (ms_get (idx := 19) (w := 121) (host := none) mx_c6 (by decide) ml_f_LeagueOffice_Row_19 (by decide +kernel)) rfl) <|
  mc_1 (mk_p (ms_aload_n (k := 0) (by decide +kernel) rfl) rfl) <|
  mc_1 (mk_p (ms_get (idx := 13) (w := 120) (host := none) mx_c6 (by decide) ml_f_LeagueOffice_Row_13 (by decide +kernel)) rfl) <|
  mc_1 (mk_p (ms_alen (by decide +kernel)) rfl) <| mc_0
theorem mw_71_1 : ∀ e ∈ mt_71_1, mx_Ok mx_MT mq_71 e.1 e.2 := 
  mc_1 (mk_p (ms_icmp_ge (off := (23)) (by decide +kernel) (by decide)) rfl) <|
  mc_1 (mk_p (ms_aload_n (k := 0) (by decide +kernel) rfl) rfl) <|
  mc_1 (mk_p (ms_get (idx := 13) (w := 120) (host := none) mx_c6 (by decide) ml_f_LeagueOffice_Row_13 (by decide +kernel)) rfl) <|
  mc_1 (mk_p (ms_aload_n (k := 0) (by decide +kernel) rfl) rfl) <|
  mc_1 (mk_p (ms_get (idx := 19) (w := 121) (host := none) mx_c6 (by decide) ml_f_LeagueOffice_Row_19 (by decide +kernel)) rfl) <|
  mc_1 (mk_p (ms_iload_n (k := 1) (by decide +kernel) rfl) rfl) <|
  mc_1 (mk_p (ms_ast (Or.inl ⟨rfl, by decide +kernel⟩)) rfl) <|
  mc_1 (mk_p (ms_aload_n (k := 0) (by decide +kernel) rfl) rfl) <|
  mc_1 (mk_p (ms_dup (by decide +kernel)) rfl) <|
  mc_1 (mk_p (ms_get (idx := 19) (w := 121) (host := none) mx_c6 (by decide) ml_f_LeagueOffice_Row_19 (by decide +kernel)) rfl) <| mc_0
theorem mw_71_2 : ∀ e ∈ mt_71_2, mx_Ok mx_MT mq_71 e.1 e.2 := 
  mc_1 (mk_p (ms_iconst (n := 1) (by decide +kernel) (by decide +kernel)) rfl) <|
  mc_1 (mk_p (ms_iadd (by decide +kernel)) rfl) <|
  mc_1 (mk_p (ms_put (idx := 19) (w := 121) (host := none) mx_c6 (by decide) ml_f_LeagueOffice_Row_19 rfl rfl (by decide +kernel)) rfl) <|
  mc_1 (mk_p (ms_aload_n (k := 0) (by decide +kernel) rfl) rfl) <|
  mc_1 (mk_p (ms_get (idx := 19) (w := 121) (host := none) mx_c6 (by decide) ml_f_LeagueOffice_Row_19 (by decide +kernel)) rfl) <|
  mc_1 (mk_r (Or.inl ⟨rfl, by decide +kernel, _, rfl, mf_0⟩) rfl) <| mc_0
theorem mw_71 : ∀ ch ∈ mt_71, ∀ e ∈ ch, mx_Ok mx_MT mq_71 e.1 e.2 := mc_2 mw_71_0 <| mc_2 mw_71_1 <| mc_2 mw_71_2 <| mc_3
/- 72 LeagueOffice$Row.pop()I -/
theorem mw_72_0 : ∀ e ∈ mt_72_0, mx_Ok mx_MT mq_72 e.1 e.2 := 
  mc_1 (mk_p (ms_aload_n (k := 0) (by decide +kernel) rfl) rfl) <|
  mc_1 (mk_p (ms_get (idx := 19) (w := 121) (host := none) mx_c6 (by decide) ml_f_LeagueOffice_Row_19 (by decide +kernel)) rfl) <|
  mc_1 (mk_p (ms_if_le (off := (15)) (by decide +kernel) (by decide)) rfl) <|
  mc_1 (mk_p (ms_aload_n (k := 0) (by decide +kernel) rfl) rfl) <|
  mc_1 (mk_p (ms_get (idx := 19) (w := 121) (host := none) mx_c6 (by decide) ml_f_LeagueOffice_Row_19 (by decide +kernel)) rfl) <|
  mc_1 (mk_p (ms_aload_n (k := 0) (by decide +kernel) rfl) rfl) <|
  mc_1 (mk_p (ms_get (idx := 13) (w := 120) (host := none) mx_c6 (by decide) ml_f_LeagueOffice_Row_13 (by decide +kernel)) rfl) <|
  mc_1 (mk_p (ms_alen (by decide +kernel)) rfl) <| mc_0
theorem mw_72_1 : ∀ e ∈ mt_72_1, mx_Ok mx_MT mq_72 e.1 e.2 := 
  mc_1 (mk_p (ms_icmp_le (off := (5)) (by decide +kernel) (by decide)) rfl) <|
  mc_1 (mk_p (ms_iconst (n := 0) (by decide +kernel) (by decide +kernel)) rfl) <|
  mc_1 (mk_r (Or.inl ⟨rfl, by decide +kernel, _, rfl, mf_0⟩) rfl) <|
  mc_1 (mk_p (ms_aload_n (k := 0) (by decide +kernel) rfl) rfl) <|
  mc_1 (mk_p (ms_dup (by decide +kernel)) rfl) <|
  mc_1 (mk_p (ms_get (idx := 19) (w := 121) (host := none) mx_c6 (by decide) ml_f_LeagueOffice_Row_19 (by decide +kernel)) rfl) <|
  mc_1 (mk_p (ms_iconst (n := 1) (by decide +kernel) (by decide +kernel)) rfl) <|
  mc_1 (mk_p (ms_isub (by decide +kernel)) rfl) <|
  mc_1 (mk_p (ms_put (idx := 19) (w := 121) (host := none) mx_c6 (by decide) ml_f_LeagueOffice_Row_19 rfl rfl (by decide +kernel)) rfl) <|
  mc_1 (mk_p (ms_aload_n (k := 0) (by decide +kernel) rfl) rfl) <| mc_0
theorem mw_72_2 : ∀ e ∈ mt_72_2, mx_Ok mx_MT mq_72 e.1 e.2 := 
  mc_1 (mk_p (ms_get (idx := 13) (w := 120) (host := none) mx_c6 (by decide) ml_f_LeagueOffice_Row_13 (by decide +kernel)) rfl) <|
  mc_1 (mk_p (ms_aload_n (k := 0) (by decide +kernel) rfl) rfl) <|
  mc_1 (mk_p (ms_get (idx := 19) (w := 121) (host := none) mx_c6 (by decide) ml_f_LeagueOffice_Row_19 (by decide +kernel)) rfl) <|
  mc_1 (mk_p (ms_ald (Or.inl ⟨rfl, by decide +kernel⟩)) rfl) <|
  mc_1 (mk_r (Or.inl ⟨rfl, by decide +kernel, _, rfl, mf_0⟩) rfl) <| mc_0
theorem mw_72 : ∀ ch ∈ mt_72, ∀ e ∈ ch, mx_Ok mx_MT mq_72 e.1 e.2 := mc_2 mw_72_0 <| mc_2 mw_72_1 <| mc_2 mw_72_2 <| mc_3
/- 73 LeagueOffice$Row.insert(II)V -/
theorem mw_73_0 : ∀ e ∈ mt_73_0, mx_Ok mx_MT mq_73 e.1 e.2 := 
  mc_1 (mk_p (ms_aload_n (k := 0) (by decide +kernel) rfl) rfl) <|
  mc_1 (mk_p (ms_get (idx := 19) (w := 121) (host := none) mx_c6 (by decide) ml_f_LeagueOffice_Row_19 (by decide +kernel)) rfl) <|
  mc_1 (mk_p (ms_aload_n (k := 0) (by decide +kernel) rfl) rfl) <|
  mc_1 (mk_p (ms_get (idx := 13) (w := 120) (host := none) mx_c6 (by decide) ml_f_LeagueOffice_Row_13 (by decide +kernel)) rfl) <|
  mc_1 (mk_p (ms_alen (by decide +kernel)) rfl) <|
  mc_1 (mk_p (ms_icmp_ge (off := (15)) (by decide +kernel) (by decide)) rfl) <|
  mc_1 (mk_p (ms_iload_n (k := 1) (by decide +kernel) rfl) rfl) <|
  mc_1 (mk_p (ms_if_lt (off := (11)) (by decide +kernel) (by decide)) rfl) <| mc_0
theorem mw_73_1 : ∀ e ∈ mt_73_1, mx_Ok mx_MT mq_73 e.1 e.2 := 
  mc_1 (mk_p (ms_iload_n (k := 1) (by decide +kernel) rfl) rfl) <|
  mc_1 (mk_p (ms_aload_n (k := 0) (by decide +kernel) rfl) rfl) <|
  mc_1 (mk_p (ms_get (idx := 19) (w := 121) (host := none) mx_c6 (by decide) ml_f_LeagueOffice_Row_19 (by decide +kernel)) rfl) <|
  mc_1 (mk_p (ms_icmp_le (off := (4)) (by decide +kernel) (by decide)) rfl) <|
  mc_1 (mk_r (Or.inr (Or.inr (Or.inr ⟨rfl, by decide +kernel, rfl⟩))) rfl) <|
  mc_1 (mk_p (ms_aload_n (k := 0) (by decide +kernel) rfl) rfl) <|
  mc_1 (mk_p (ms_get (idx := 13) (w := 120) (host := none) mx_c6 (by decide) ml_f_LeagueOffice_Row_13 (by decide +kernel)) rfl) <|
  mc_1 (mk_p (ms_iload_n (k := 1) (by decide +kernel) rfl) rfl) <|
  mc_1 (mk_p (ms_aload_n (k := 0) (by decide +kernel) rfl) rfl) <|
  mc_1 (mk_p (ms_get (idx := 13) (w := 120) (host := none) mx_c6 (by decide) ml_f_LeagueOffice_Row_13 (by decide +kernel)) rfl) <| mc_0
theorem mw_73_2 : ∀ e ∈ mt_73_2, mx_Ok mx_MT mq_73 e.1 e.2 := 
  mc_1 (mk_p (ms_iload_n (k := 1) (by decide +kernel) rfl) rfl) <|
  mc_1 (mk_p (ms_iconst (n := 1) (by decide +kernel) (by decide +kernel)) rfl) <|
  mc_1 (mk_p (ms_iadd (by decide +kernel)) rfl) <|
  mc_1 (mk_p (ms_aload_n (k := 0) (by decide +kernel) rfl) rfl) <|
  mc_1 (mk_p (ms_get (idx := 19) (w := 121) (host := none) mx_c6 (by decide) ml_f_LeagueOffice_Row_19 (by decide +kernel)) rfl) <|
  mc_1 (mk_p (ms_iload_n (k := 1) (by decide +kernel) rfl) rfl) <|
  mc_1 (mk_p (ms_isub (by decide +kernel)) rfl) <|
  mc_1 (mk_p (ms_copy (idx := 23) 771 773 772 95 (by decide +kernel) (by decide +kernel) (by decide +kernel) (by decide +kernel) (by decide +kernel)) rfl) <|
  mc_1 (mk_p (ms_aload_n (k := 0) (by decide +kernel) rfl) rfl) <|
  mc_1 (mk_p (ms_get (idx := 13) (w := 120) (host := none) mx_c6 (by decide) ml_f_LeagueOffice_Row_13 (by decide +kernel)) rfl) <| mc_0
theorem mw_73_3 : ∀ e ∈ mt_73_3, mx_Ok mx_MT mq_73 e.1 e.2 := 
  mc_1 (mk_p (ms_iload_n (k := 1) (by decide +kernel) rfl) rfl) <|
  mc_1 (mk_p (ms_iload_n (k := 2) (by decide +kernel) rfl) rfl) <|
  mc_1 (mk_p (ms_ast (Or.inl ⟨rfl, by decide +kernel⟩)) rfl) <|
  mc_1 (mk_p (ms_aload_n (k := 0) (by decide +kernel) rfl) rfl) <|
  mc_1 (mk_p (ms_dup (by decide +kernel)) rfl) <|
  mc_1 (mk_p (ms_get (idx := 19) (w := 121) (host := none) mx_c6 (by decide) ml_f_LeagueOffice_Row_19 (by decide +kernel)) rfl) <|
  mc_1 (mk_p (ms_iconst (n := 1) (by decide +kernel) (by decide +kernel)) rfl) <|
  mc_1 (mk_p (ms_iadd (by decide +kernel)) rfl) <|
  mc_1 (mk_p (ms_put (idx := 19) (w := 121) (host := none) mx_c6 (by decide) ml_f_LeagueOffice_Row_19 rfl rfl (by decide +kernel)) rfl) <|
  mc_1 (mk_r (Or.inr (Or.inr (Or.inr ⟨rfl, by decide +kernel, rfl⟩))) rfl) <| mc_0
theorem mw_73 : ∀ ch ∈ mt_73, ∀ e ∈ ch, mx_Ok mx_MT mq_73 e.1 e.2 := mc_2 mw_73_0 <| mc_2 mw_73_1 <| mc_2 mw_73_2 <| mc_2 mw_73_3 <| mc_3
/- 74 LeagueOffice$Row.move(III)V -/
theorem mw_74_0 : ∀ e ∈ mt_74_0, mx_Ok mx_MT mq_74 e.1 e.2 := 
  mc_1 (mk_p (ms_iload_n (k := 1) (by decide +kernel) rfl) rfl) <|
  mc_1 (mk_p (ms_if_lt (off := (33)) (by decide +kernel) (by decide)) rfl) <|
  mc_1 (mk_p (ms_iload_n (k := 2) (by decide +kernel) rfl) rfl) <|
  mc_1 (mk_p (ms_if_lt (off := (29)) (by decide +kernel) (by decide)) rfl) <|
  mc_1 (mk_p (ms_iload_n (k := 3) (by decide +kernel) rfl) rfl) <|
  mc_1 (mk_p (ms_if_lt (off := (25)) (by decide +kernel) (by decide)) rfl) <|
  mc_1 (mk_p (ms_iload_n (k := 3) (by decide +kernel) rfl) rfl) <|
  mc_1 (mk_p (ms_aload_n (k := 0) (by decide +kernel) rfl) rfl) <|
  mc_1 (mk_p (ms_get (idx := 13) (w := 120) (host := none) mx_c6 (by decide) ml_f_LeagueOffice_Row_13 (by decide +kernel)) rfl) <| mc_0
theorem mw_74_1 : ∀ e ∈ mt_74_1, mx_Ok mx_MT mq_74 e.1 e.2 := 
  mc_1 (mk_p (ms_alen (by decide +kernel)) rfl) <|
  mc_1 (mk_p (ms_iload_n (k := 1) (by decide +kernel) rfl) rfl) <|
  mc_1 (mk_p (ms_isub (by decide +kernel)) rfl) <|
  mc_1 (mk_p (ms_icmp_gt (off := (14)) (by decide +kernel) (by decide)) rfl) <|
  mc_1 (mk_p (ms_iload_n (k := 3) (by decide +kernel) rfl) rfl) <|
  mc_1 (mk_p (ms_aload_n (k := 0) (by decide +kernel) rfl) rfl) <|
  mc_1 (mk_p (ms_get (idx := 13) (w := 120) (host := none) mx_c6 (by decide) ml_f_LeagueOffice_Row_13 (by decide +kernel)) rfl) <|
  mc_1 (mk_p (ms_alen (by decide +kernel)) rfl) <|
  mc_1 (mk_p (ms_iload_n (k := 2) (by decide +kernel) rfl) rfl) <|
  mc_1 (mk_p (ms_isub (by decide +kernel)) rfl) <|
  mc_1 (mk_p (ms_icmp_le (off := (4)) (by decide +kernel) (by decide)) rfl) <| mc_0
theorem mw_74_2 : ∀ e ∈ mt_74_2, mx_Ok mx_MT mq_74 e.1 e.2 := 
  mc_1 (mk_r (Or.inr (Or.inr (Or.inr ⟨rfl, by decide +kernel, rfl⟩))) rfl) <|
  mc_1 (mk_p (ms_aload_n (k := 0) (by decide +kernel) rfl) rfl) <|
  mc_1 (mk_p (ms_get (idx := 13) (w := 120) (host := none) mx_c6 (by decide) ml_f_LeagueOffice_Row_13 (by decide +kernel)) rfl) <|
  mc_1 (mk_p (ms_iload_n (k := 1) (by decide +kernel) rfl) rfl) <|
  mc_1 (mk_p (ms_aload_n (k := 0) (by decide +kernel) rfl) rfl) <|
  mc_1 (mk_p (ms_get (idx := 13) (w := 120) (host := none) mx_c6 (by decide) ml_f_LeagueOffice_Row_13 (by decide +kernel)) rfl) <|
  mc_1 (mk_p (ms_iload_n (k := 2) (by decide +kernel) rfl) rfl) <|
  mc_1 (mk_p (ms_iload_n (k := 3) (by decide +kernel) rfl) rfl) <|
  mc_1 (mk_p (ms_copy (idx := 23) 771 773 772 95 (by decide +kernel) (by decide +kernel) (by decide +kernel) (by decide +kernel) (by decide +kernel)) rfl) <| mc_0
theorem mw_74_3 : ∀ e ∈ mt_74_3, mx_Ok mx_MT mq_74 e.1 e.2 := 
  mc_1 (mk_r (Or.inr (Or.inr (Or.inr ⟨rfl, by decide +kernel, rfl⟩))) rfl) <| mc_0
theorem mw_74 : ∀ ch ∈ mt_74, ∀ e ∈ ch, mx_Ok mx_MT mq_74 e.1 e.2 := mc_2 mw_74_0 <| mc_2 mw_74_1 <| mc_2 mw_74_2 <| mc_2 mw_74_3 <| mc_3
/- 75 LeagueOffice$Row.clear()V -/
theorem mw_75_0 : ∀ e ∈ mt_75_0, mx_Ok mx_MT mq_75 e.1 e.2 := 
  mc_1 (mk_p (ms_aload_n (k := 0) (by decide +kernel) rfl) rfl) <|
  mc_1 (mk_p (ms_iconst (n := 0) (by decide +kernel) (by decide +kernel)) rfl) <|
  mc_1 (mk_p (ms_put (idx := 19) (w := 121) (host := none) mx_c6 (by decide) ml_f_LeagueOffice_Row_19 rfl rfl (by decide +kernel)) rfl) <|
  mc_1 (mk_r (Or.inr (Or.inr (Or.inr ⟨rfl, by decide +kernel, rfl⟩))) rfl) <| mc_0
theorem mw_75 : ∀ ch ∈ mt_75, ∀ e ∈ ch, mx_Ok mx_MT mq_75 e.1 e.2 := mc_2 mw_75_0 <| mc_3
/- 76 LeagueOffice$Row.fill(I)V -/
theorem mw_76_0 : ∀ e ∈ mt_76_0, mx_Ok mx_MT mq_76 e.1 e.2 := 
  mc_1 (mk_p (ms_aload_n (k := 0) (by decide +kernel) rfl) rfl) <|
  mc_1 (mk_p (ms_get (idx := 13) (w := 120) (host := none) mx_c6 (by decide) ml_f_LeagueOffice_Row_13 (by decide +kernel)) rfl) <|
  mc_1 (mk_p (ms_iload_n (k := 1) (by decide +kernel) rfl) rfl) <|
  mc_1 (mk_c (k := mq_273) rfl ⟨mo_273, 29, 860, none, ml_m_LeagueOffice_Row_29, Or.inl ⟨rfl, (by decide +kernel), mx_npd (by decide +kernel), ml_st_861⟩⟩) <|
  mc_1 (mk_r (Or.inr (Or.inr (Or.inr ⟨rfl, by decide +kernel, rfl⟩))) rfl) <| mc_0
theorem mw_76 : ∀ ch ∈ mt_76, ∀ e ∈ ch, mx_Ok mx_MT mq_76 e.1 e.2 := mc_2 mw_76_0 <| mc_3
/- 77 LeagueOffice$Sheets.<init>()V -/
theorem mw_77_0 : ∀ e ∈ mt_77_0, mx_Ok mx_MT mq_77 e.1 e.2 := 
  mc_1 (mk_p (ms_aload_n (k := 0) (by decide +kernel) rfl) rfl) <|
  mc_1 (mk_p (ms_obj (idx := 3) 504 103 104 (by decide +kernel) (by decide +kernel) (by decide +kernel) (by decide +kernel)) rfl) <|
  mc_1 (mk_p (ms_aload_n (k := 0) (by decide +kernel) rfl) rfl) <|
  mc_1 (mk_p (mn_6 (idx := 9) 505 (by decide +kernel) (by decide +kernel)) rfl) <|
  mc_1 (mk_p (ms_dup (by decide +kernel)) rfl) <|
  mc_1 (mk_p (ms_iconst (n := 4) (by decide +kernel) (by decide +kernel)) rfl) <|
  mc_1 (mk_c (k := mq_64) rfl ⟨mo_64, 11, 506, none, ml_m_LeagueOffice_Sheets_11, Or.inr (Or.inl ⟨rfl, (by decide +kernel), ⟨1, rfl, mx_npd (by decide +kernel)⟩, ml_in_114, rfl, rfl⟩)⟩) <|
  mc_1 (mk_p (ms_putF (idx := 14) (w := 507) mx_c7 (by decide) ml_f_LeagueOffice_Sheets_14 rfl rfl rfl rfl (by decide +kernel)) rfl) <| mc_0
theorem mw_77_1 : ∀ e ∈ mt_77_1, mx_Ok mx_MT mq_77 e.1 e.2 := 
  mc_1 (mk_p (ms_aload_n (k := 0) (by decide +kernel) rfl) rfl) <|
  mc_1 (mk_p (mn_6 (idx := 9) 505 (by decide +kernel) (by decide +kernel)) rfl) <|
  mc_1 (mk_p (ms_dup (by decide +kernel)) rfl) <|
  mc_1 (mk_p (ms_iconst (n := 4) (by decide +kernel) (by decide +kernel)) rfl) <|
  mc_1 (mk_c (k := mq_64) rfl ⟨mo_64, 11, 506, none, ml_m_LeagueOffice_Sheets_11, Or.inr (Or.inl ⟨rfl, (by decide +kernel), ⟨1, rfl, mx_npd (by decide +kernel)⟩, ml_in_114, rfl, rfl⟩)⟩) <|
  mc_1 (mk_p (ms_putF (idx := 20) (w := 508) mx_c7 (by decide) ml_f_LeagueOffice_Sheets_20 rfl rfl rfl rfl (by decide +kernel)) rfl) <|
  mc_1 (mk_p (ms_aload_n (k := 0) (by decide +kernel) rfl) rfl) <|
  mc_1 (mk_p (mn_6 (idx := 9) 505 (by decide +kernel) (by decide +kernel)) rfl) <| mc_0
theorem mw_77_2 : ∀ e ∈ mt_77_2, mx_Ok mx_MT mq_77 e.1 e.2 := 
  mc_1 (mk_p (ms_dup (by decide +kernel)) rfl) <|
  mc_1 (mk_p (ms_sipush (n := 160) (by decide +kernel) (by decide +kernel)) rfl) <|
  mc_1 (mk_c (k := mq_64) rfl ⟨mo_64, 11, 506, none, ml_m_LeagueOffice_Sheets_11, Or.inr (Or.inl ⟨rfl, (by decide +kernel), ⟨1, rfl, mx_npd (by decide +kernel)⟩, ml_in_114, rfl, rfl⟩)⟩) <|
  mc_1 (mk_p (ms_putF (idx := 23) (w := 509) mx_c7 (by decide) ml_f_LeagueOffice_Sheets_23 rfl rfl rfl rfl (by decide +kernel)) rfl) <|
  mc_1 (mk_r (Or.inr (Or.inr (Or.inr ⟨rfl, by decide +kernel, rfl⟩))) rfl) <| mc_0
theorem mw_77 : ∀ ch ∈ mt_77, ∀ e ∈ ch, mx_Ok mx_MT mq_77 e.1 e.2 := mc_2 mw_77_0 <| mc_2 mw_77_1 <| mc_2 mw_77_2 <| mc_3
/- 78 LeagueOffice$Sheets.remove(I)I -/
theorem mw_78_0 : ∀ e ∈ mt_78_0, mx_Ok mx_MT mq_78 e.1 e.2 := 
  mc_1 (mk_p (ms_aload_n (k := 0) (by decide +kernel) rfl) rfl) <|
  mc_1 (mk_p (ms_get (idx := 14) (w := 507) (host := none) mx_c7 (by decide) ml_f_LeagueOffice_Sheets_14 (by decide +kernel)) rfl) <|
  mc_1 (mk_p (ms_iload_n (k := 1) (by decide +kernel) rfl) rfl) <|
  mc_1 (mk_p (ms_iconst (n := 0) (by decide +kernel) (by decide +kernel)) rfl) <|
  mc_1 (mk_c (k := mq_69) rfl ⟨mo_69, 26, 1262, none, ml_m_LeagueOffice_Sheets_26, Or.inr (Or.inr (Or.inl ⟨6, TX6, 2, by decide, rfl, rfl, (by decide +kernel), ⟨2, rfl, mx_npd (by decide +kernel)⟩, ml_in_665, ml_se_666⟩))⟩) <|
  mc_1 (mk_p (ms_iconst (n := 1) (by decide +kernel) (by decide +kernel)) rfl) <|
  mc_1 (mk_r (Or.inl ⟨rfl, by decide +kernel, _, rfl, mf_0⟩) rfl) <| mc_0
theorem mw_78 : ∀ ch ∈ mt_78, ∀ e ∈ ch, mx_Ok mx_MT mq_78 e.1 e.2 := mc_2 mw_78_0 <| mc_3
/- 79 LeagueOffice$Sheets.lay(III)I -/
theorem mw_79_0 : ∀ e ∈ mt_79_0, mx_Ok mx_MT mq_79 e.1 e.2 := 
  mc_1 (mk_p (ms_aload_n (k := 0) (by decide +kernel) rfl) rfl) <|
  mc_1 (mk_p (ms_get (idx := 14) (w := 507) (host := none) mx_c7 (by decide) ml_f_LeagueOffice_Sheets_14 (by decide +kernel)) rfl) <|
  mc_1 (mk_p (ms_iload_n (k := 1) (by decide +kernel) rfl) rfl) <|
  mc_1 (mk_p (ms_iload_n (k := 2) (by decide +kernel) rfl) rfl) <|
  mc_1 (mk_p (ms_iconst (n := 1) (by decide +kernel) (by decide +kernel)) rfl) <|
  mc_1 (mk_p (ms_iadd (by decide +kernel)) rfl) <|
  mc_1 (mk_c (k := mq_69) rfl ⟨mo_69, 26, 1262, none, ml_m_LeagueOffice_Sheets_26, Or.inr (Or.inr (Or.inl ⟨6, TX6, 2, by decide, rfl, rfl, (by decide +kernel), ⟨2, rfl, mx_npd (by decide +kernel)⟩, ml_in_665, ml_se_666⟩))⟩) <|
  mc_1 (mk_p (ms_aload_n (k := 0) (by decide +kernel) rfl) rfl) <|
  mc_1 (mk_p (ms_get (idx := 20) (w := 508) (host := none) mx_c7 (by decide) ml_f_LeagueOffice_Sheets_20 (by decide +kernel)) rfl) <|
  mc_1 (mk_p (ms_iload_n (k := 1) (by decide +kernel) rfl) rfl) <| mc_0
theorem mw_79_1 : ∀ e ∈ mt_79_1, mx_Ok mx_MT mq_79 e.1 e.2 := 
  mc_1 (mk_p (ms_iload_n (k := 3) (by decide +kernel) rfl) rfl) <|
  mc_1 (mk_c (k := mq_69) rfl ⟨mo_69, 26, 1262, none, ml_m_LeagueOffice_Sheets_26, Or.inr (Or.inr (Or.inl ⟨6, TX6, 2, by decide, rfl, rfl, (by decide +kernel), ⟨2, rfl, mx_npd (by decide +kernel)⟩, ml_in_665, ml_se_666⟩))⟩) <|
  mc_1 (mk_p (ms_iconst (n := 0) (by decide +kernel) (by decide +kernel)) rfl) <|
  mc_1 (mk_p (ms_istore (by decide +kernel) (by decide)) rfl) <|
  mc_1 (mk_p (ms_iload (by decide +kernel)) rfl) <|
  mc_1 (mk_p (ms_bipush (n := 40) (by decide +kernel) (by decide +kernel)) rfl) <|
  mc_1 (mk_p (ms_icmp_ge (off := (24)) (by decide +kernel) (by decide)) rfl) <|
  mc_1 (mk_p (ms_aload_n (k := 0) (by decide +kernel) rfl) rfl) <|
  mc_1 (mk_p (ms_get (idx := 23) (w := 509) (host := none) mx_c7 (by decide) ml_f_LeagueOffice_Sheets_23 (by decide +kernel)) rfl) <| mc_0
theorem mw_79_2 : ∀ e ∈ mt_79_2, mx_Ok mx_MT mq_79 e.1 e.2 := 
  mc_1 (mk_p (ms_iload_n (k := 1) (by decide +kernel) rfl) rfl) <|
  mc_1 (mk_p (ms_bipush (n := 40) (by decide +kernel) (by decide +kernel)) rfl) <|
  mc_1 (mk_p (ms_imul (by decide +kernel)) rfl) <|
  mc_1 (mk_p (ms_iload (by decide +kernel)) rfl) <|
  mc_1 (mk_p (ms_iadd (by decide +kernel)) rfl) <|
  mc_1 (mk_p (ms_iconst (n := 0) (by decide +kernel) (by decide +kernel)) rfl) <|
  mc_1 (mk_c (k := mq_69) rfl ⟨mo_69, 26, 1262, none, ml_m_LeagueOffice_Sheets_26, Or.inr (Or.inr (Or.inl ⟨6, TX6, 2, by decide, rfl, rfl, (by decide +kernel), ⟨2, rfl, mx_npd (by decide +kernel)⟩, ml_in_665, ml_se_666⟩))⟩) <|
  mc_1 (mk_p (ms_iinc (n := (1)) (by decide +kernel) (by decide +kernel) (by decide)) rfl) <| mc_0
theorem mw_79_3 : ∀ e ∈ mt_79_3, mx_Ok mx_MT mq_79 e.1 e.2 := 
  mc_1 (mk_p (ms_goto (off := (-25)) (by decide +kernel) (by decide)) rfl) <|
  mc_1 (mk_p (ms_iconst (n := 1) (by decide +kernel) (by decide +kernel)) rfl) <|
  mc_1 (mk_r (Or.inl ⟨rfl, by decide +kernel, _, rfl, mf_0⟩) rfl) <| mc_0
theorem mw_79 : ∀ ch ∈ mt_79, ∀ e ∈ ch, mx_Ok mx_MT mq_79 e.1 e.2 := mc_2 mw_79_0 <| mc_2 mw_79_1 <| mc_2 mw_79_2 <| mc_2 mw_79_3 <| mc_3
/- 80 LeagueOffice$Sheets.isMissing(I)Z -/
theorem mw_80_0 : ∀ e ∈ mt_80_0, mx_Ok mx_MT mq_80 e.1 e.2 := 
  mc_1 (mk_p (ms_aload_n (k := 0) (by decide +kernel) rfl) rfl) <|
  mc_1 (mk_p (ms_get (idx := 14) (w := 507) (host := none) mx_c7 (by decide) ml_f_LeagueOffice_Sheets_14 (by decide +kernel)) rfl) <|
  mc_1 (mk_p (ms_iload_n (k := 1) (by decide +kernel) rfl) rfl) <|
  mc_1 (mk_c (k := mq_68) rfl ⟨mo_68, 30, 1275, none, ml_m_LeagueOffice_Sheets_30, Or.inr (Or.inr (Or.inl ⟨6, TX6, 2, by decide, rfl, rfl, (by decide +kernel), ⟨1, rfl, mx_npd (by decide +kernel)⟩, ml_in_591, ml_se_592⟩))⟩) <|
  mc_1 (mk_p (ms_if_ne (off := (7)) (by decide +kernel) (by decide)) rfl) <|
  mc_1 (mk_p (ms_iconst (n := 1) (by decide +kernel) (by decide +kernel)) rfl) <|
  mc_1 (mk_p (ms_goto (off := (4)) (by decide +kernel) (by decide)) rfl) <|
  mc_1 (mk_p (ms_iconst (n := 0) (by decide +kernel) (by decide +kernel)) rfl) <| mc_0
theorem mw_80_1 : ∀ e ∈ mt_80_1, mx_Ok mx_MT mq_80 e.1 e.2 := 
  mc_1 (mk_r (Or.inl ⟨rfl, by decide +kernel, _, rfl, mf_2⟩) rfl) <| mc_0
theorem mw_80 : ∀ ch ∈ mt_80, ∀ e ∈ ch, mx_Ok mx_MT mq_80 e.1 e.2 := mc_2 mw_80_0 <| mc_2 mw_80_1 <| mc_3
/- 81 LeagueOffice$Sheets.sortOf(I)I -/
theorem mw_81_0 : ∀ e ∈ mt_81_0, mx_Ok mx_MT mq_81 e.1 e.2 := 
  mc_1 (mk_p (ms_aload_n (k := 0) (by decide +kernel) rfl) rfl) <|
  mc_1 (mk_p (ms_get (idx := 14) (w := 507) (host := none) mx_c7 (by decide) ml_f_LeagueOffice_Sheets_14 (by decide +kernel)) rfl) <|
  mc_1 (mk_p (ms_iload_n (k := 1) (by decide +kernel) rfl) rfl) <|
  mc_1 (mk_c (k := mq_68) rfl ⟨mo_68, 30, 1275, none, ml_m_LeagueOffice_Sheets_30, Or.inr (Or.inr (Or.inl ⟨6, TX6, 2, by decide, rfl, rfl, (by decide +kernel), ⟨1, rfl, mx_npd (by decide +kernel)⟩, ml_in_591, ml_se_592⟩))⟩) <|
  mc_1 (mk_p (ms_iconst (n := 1) (by decide +kernel) (by decide +kernel)) rfl) <|
  mc_1 (mk_p (ms_isub (by decide +kernel)) rfl) <|
  mc_1 (mk_r (Or.inl ⟨rfl, by decide +kernel, _, rfl, mf_0⟩) rfl) <| mc_0
theorem mw_81 : ∀ ch ∈ mt_81, ∀ e ∈ ch, mx_Ok mx_MT mq_81 e.1 e.2 := mc_2 mw_81_0 <| mc_3
/- 82 LeagueOffice$Sheets.holds(III)Z -/
theorem mw_82_0 : ∀ e ∈ mt_82_0, mx_Ok mx_MT mq_82 e.1 e.2 := 
  mc_1 (mk_p (ms_iload_n (k := 2) (by decide +kernel) rfl) rfl) <|
  mc_1 (mk_p (ms_if_lt (off := (37)) (by decide +kernel) (by decide)) rfl) <|
  mc_1 (mk_p (ms_iload_n (k := 3) (by decide +kernel) rfl) rfl) <|
  mc_1 (mk_p (ms_if_lt (off := (33)) (by decide +kernel) (by decide)) rfl) <|
  mc_1 (mk_p (ms_iload_n (k := 2) (by decide +kernel) rfl) rfl) <|
  mc_1 (mk_p (ms_aload_n (k := 0) (by decide +kernel) rfl) rfl) <|
  mc_1 (mk_p (ms_get (idx := 20) (w := 508) (host := none) mx_c7 (by decide) ml_f_LeagueOffice_Sheets_20 (by decide +kernel)) rfl) <|
  mc_1 (mk_p (ms_iload_n (k := 1) (by decide +kernel) rfl) rfl) <|
  mc_1 (mk_c (k := mq_68) rfl ⟨mo_68, 30, 1275, none, ml_m_LeagueOffice_Sheets_30, Or.inr (Or.inr (Or.inl ⟨6, TX6, 2, by decide, rfl, rfl, (by decide +kernel), ⟨1, rfl, mx_npd (by decide +kernel)⟩, ml_in_591, ml_se_592⟩))⟩) <| mc_0
theorem mw_82_1 : ∀ e ∈ mt_82_1, mx_Ok mx_MT mq_82 e.1 e.2 := 
  mc_1 (mk_p (ms_icmp_gt (off := (21)) (by decide +kernel) (by decide)) rfl) <|
  mc_1 (mk_p (ms_iload_n (k := 3) (by decide +kernel) rfl) rfl) <|
  mc_1 (mk_p (ms_aload_n (k := 0) (by decide +kernel) rfl) rfl) <|
  mc_1 (mk_p (ms_get (idx := 20) (w := 508) (host := none) mx_c7 (by decide) ml_f_LeagueOffice_Sheets_20 (by decide +kernel)) rfl) <|
  mc_1 (mk_p (ms_iload_n (k := 1) (by decide +kernel) rfl) rfl) <|
  mc_1 (mk_c (k := mq_68) rfl ⟨mo_68, 30, 1275, none, ml_m_LeagueOffice_Sheets_30, Or.inr (Or.inr (Or.inl ⟨6, TX6, 2, by decide, rfl, rfl, (by decide +kernel), ⟨1, rfl, mx_npd (by decide +kernel)⟩, ml_in_591, ml_se_592⟩))⟩) <|
  mc_1 (mk_p (ms_iload_n (k := 2) (by decide +kernel) rfl) rfl) <|
  mc_1 (mk_p (ms_isub (by decide +kernel)) rfl) <|
  mc_1 (mk_p (ms_icmp_gt (off := (7)) (by decide +kernel) (by decide)) rfl) <| mc_0
theorem mw_82_2 : ∀ e ∈ mt_82_2, mx_Ok mx_MT mq_82 e.1 e.2 := 
  mc_1 (mk_p (ms_iconst (n := 1) (by decide +kernel) (by decide +kernel)) rfl) <|
  mc_1 (mk_p (ms_goto (off := (4)) (by decide +kernel) (by decide)) rfl) <|
  mc_1 (mk_p (ms_iconst (n := 0) (by decide +kernel) (by decide +kernel)) rfl) <|
  mc_1 (mk_r (Or.inl ⟨rfl, by decide +kernel, _, rfl, mf_2⟩) rfl) <| mc_0
theorem mw_82 : ∀ ch ∈ mt_82, ∀ e ∈ ch, mx_Ok mx_MT mq_82 e.1 e.2 := mc_2 mw_82_0 <| mc_2 mw_82_1 <| mc_2 mw_82_2 <| mc_3
/- 83 LeagueOffice$Sheets.read(II)I -/
theorem mw_83_0 : ∀ e ∈ mt_83_0, mx_Ok mx_MT mq_83 e.1 e.2 := 
  mc_1 (mk_p (ms_aload_n (k := 0) (by decide +kernel) rfl) rfl) <|
  mc_1 (mk_p (ms_get (idx := 23) (w := 509) (host := none) mx_c7 (by decide) ml_f_LeagueOffice_Sheets_23 (by decide +kernel)) rfl) <|
  mc_1 (mk_p (ms_iload_n (k := 1) (by decide +kernel) rfl) rfl) <|
  mc_1 (mk_p (ms_bipush (n := 40) (by decide +kernel) (by decide +kernel)) rfl) <|
  mc_1 (mk_p (ms_imul (by decide +kernel)) rfl) <|
  mc_1 (mk_p (ms_iload_n (k := 2) (by decide +kernel) rfl) rfl) <|
  mc_1 (mk_p (ms_iadd (by decide +kernel)) rfl) <|
  mc_1 (mk_c (k := mq_68) rfl ⟨mo_68, 30, 1275, none, ml_m_LeagueOffice_Sheets_30, Or.inr (Or.inr (Or.inl ⟨6, TX6, 2, by decide, rfl, rfl, (by decide +kernel), ⟨1, rfl, mx_npd (by decide +kernel)⟩, ml_in_591, ml_se_592⟩))⟩) <|
  mc_1 (mk_r (Or.inl ⟨rfl, by decide +kernel, _, rfl, mf_0⟩) rfl) <| mc_0
theorem mw_83 : ∀ ch ∈ mt_83, ∀ e ∈ ch, mx_Ok mx_MT mq_83 e.1 e.2 := mc_2 mw_83_0 <| mc_3
