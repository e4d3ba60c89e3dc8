/- 165 LeagueOfficeModel.pass(I)I -/
theorem mw_165_0 : ∀ e ∈ mt_165_0, mx_Ok mx_MT mq_165 e.1 e.2 := 
  mc_1 (mk_p (ms_iload_n (k := 1) (by decide +kernel) rfl) rfl) <|
  mc_1 (mk_p (ms_iconst (n := 1) (by decide +kernel) (by decide +kernel)) rfl) <|
  mc_1 (mk_p (ms_bipush (n := 60) (by decide +kernel) (by decide +kernel)) rfl) <|
  mc_1 (mk_c (k := mq_163) rfl ⟨mo_163, 7, 1318, none, ml_m_LeagueOfficeModel_7, Or.inl ⟨rfl, (by decide +kernel), mx_npd (by decide +kernel), ml_st_1319⟩⟩) <|
  mc_1 (mk_p (ms_if_ne (off := (6)) (by decide +kernel) (by decide)) rfl) <|
  mc_1 (mk_p (ms_bipush (n := (-2)) (by decide +kernel) (by decide +kernel)) rfl) <|
  mc_1 (mk_r (Or.inl ⟨rfl, by decide +kernel, _, rfl, mf_0⟩) rfl) <|
  mc_1 (mk_p (ms_aload_n (k := 0) (by decide +kernel) rfl) rfl) <|
  mc_1 (mk_p (ms_get (idx := 11) (w := 1453) (host := none) mx_c12 (by decide) ml_f_LeagueOfficeModel_11 (by decide +kernel)) rfl) <| mc_0
theorem mw_165_1 : ∀ e ∈ mt_165_1, mx_Ok mx_MT mq_165 e.1 e.2 := 
  mc_1 (mk_p (ms_iload_n (k := 1) (by decide +kernel) rfl) rfl) <|
  mc_1 (mk_p (ms_iadd (by decide +kernel)) rfl) <|
  mc_1 (mk_p (ms_sipush (n := 399) (by decide +kernel) (by decide +kernel)) rfl) <|
  mc_1 (mk_p (ms_icmp_le (off := (6)) (by decide +kernel) (by decide)) rfl) <|
  mc_1 (mk_p (ms_bipush (n := (-4)) (by decide +kernel) (by decide +kernel)) rfl) <|
  mc_1 (mk_r (Or.inl ⟨rfl, by decide +kernel, _, rfl, mf_0⟩) rfl) <|
  mc_1 (mk_p (ms_aload_n (k := 0) (by decide +kernel) rfl) rfl) <|
  mc_1 (mk_p (ms_dup (by decide +kernel)) rfl) <|
  mc_1 (mk_p (ms_get (idx := 11) (w := 1453) (host := none) mx_c12 (by decide) ml_f_LeagueOfficeModel_11 (by decide +kernel)) rfl) <| mc_0
theorem mw_165_2 : ∀ e ∈ mt_165_2, mx_Ok mx_MT mq_165 e.1 e.2 := 
  mc_1 (mk_p (ms_iload_n (k := 1) (by decide +kernel) rfl) rfl) <|
  mc_1 (mk_p (ms_iadd (by decide +kernel)) rfl) <|
  mc_1 (mk_p (ms_put (idx := 11) (w := 1453) (host := none) mx_c12 (by decide) ml_f_LeagueOfficeModel_11 rfl rfl (by decide +kernel)) rfl) <|
  mc_1 (mk_p (ms_aload_n (k := 0) (by decide +kernel) rfl) rfl) <|
  mc_1 (mk_p (ms_get (idx := 11) (w := 1453) (host := none) mx_c12 (by decide) ml_f_LeagueOfficeModel_11 (by decide +kernel)) rfl) <|
  mc_1 (mk_r (Or.inl ⟨rfl, by decide +kernel, _, rfl, mf_0⟩) rfl) <| mc_0
theorem mw_165 : ∀ ch ∈ mt_165, ∀ e ∈ ch, mx_Ok mx_MT mq_165 e.1 e.2 := mc_2 mw_165_0 <| mc_2 mw_165_1 <| mc_2 mw_165_2 <| mc_3
/- 166 LeagueOfficeModel.isClub(I)Z -/
theorem mw_166_0 : ∀ e ∈ mt_166_0, mx_Ok mx_MT mq_166 e.1 e.2 := 
  mc_1 (mk_p (ms_iload_n (k := 1) (by decide +kernel) rfl) rfl) <|
  mc_1 (mk_p (ms_iconst (n := 0) (by decide +kernel) (by decide +kernel)) rfl) <|
  mc_1 (mk_p (ms_aload_n (k := 0) (by decide +kernel) rfl) rfl) <|
  mc_1 (mk_p (ms_get (idx := 14) (w := 1454) (host := none) mx_c12 (by decide) ml_f_LeagueOfficeModel_14 (by decide +kernel)) rfl) <|
  mc_1 (mk_p (ms_iconst (n := 1) (by decide +kernel) (by decide +kernel)) rfl) <|
  mc_1 (mk_p (ms_isub (by decide +kernel)) rfl) <|
  mc_1 (mk_c (k := mq_163) rfl ⟨mo_163, 7, 1318, none, ml_m_LeagueOfficeModel_7, Or.inl ⟨rfl, (by decide +kernel), mx_npd (by decide +kernel), ml_st_1319⟩⟩) <|
  mc_1 (mk_r (Or.inl ⟨rfl, by decide +kernel, _, rfl, mf_2⟩) rfl) <| mc_0
theorem mw_166 : ∀ ch ∈ mt_166, ∀ e ∈ ch, mx_Ok mx_MT mq_166 e.1 e.2 := mc_2 mw_166_0 <| mc_3
/- 167 LeagueOfficeModel.isStep(I)Z -/
theorem mw_167_0 : ∀ e ∈ mt_167_0, mx_Ok mx_MT mq_167 e.1 e.2 := 
  mc_1 (mk_p (ms_iload_n (k := 0) (by decide +kernel) rfl) rfl) <|
  mc_1 (mk_p (ms_iconst (n := 0) (by decide +kernel) (by decide +kernel)) rfl) <|
  mc_1 (mk_p (ms_iconst (n := 3) (by decide +kernel) (by decide +kernel)) rfl) <|
  mc_1 (mk_c (k := mq_163) rfl ⟨mo_163, 7, 1318, none, ml_m_LeagueOfficeModel_7, Or.inl ⟨rfl, (by decide +kernel), mx_npd (by decide +kernel), ml_st_1319⟩⟩) <|
  mc_1 (mk_r (Or.inl ⟨rfl, by decide +kernel, _, rfl, mf_2⟩) rfl) <| mc_0
theorem mw_167 : ∀ ch ∈ mt_167, ∀ e ∈ ch, mx_Ok mx_MT mq_167 e.1 e.2 := mc_2 mw_167_0 <| mc_3
/- 168 LeagueOfficeModel.club(II)I -/
theorem mw_168_0 : ∀ e ∈ mt_168_0, mx_Ok mx_MT mq_168 e.1 e.2 := 
  mc_1 (mk_p (ms_iload_n (k := 1) (by decide +kernel) rfl) rfl) <|
  mc_1 (mk_c (k := mq_167) rfl ⟨mo_167, 17, 1325, none, ml_m_LeagueOfficeModel_17, Or.inl ⟨rfl, (by decide +kernel), mx_npd (by decide +kernel), ml_st_1326⟩⟩) <|
  mc_1 (mk_p (ms_if_eq (off := (13)) (by decide +kernel) (by decide)) rfl) <|
  mc_1 (mk_p (ms_iload_n (k := 2) (by decide +kernel) rfl) rfl) <|
  mc_1 (mk_p (ms_iconst (n := 0) (by decide +kernel) (by decide +kernel)) rfl) <|
  mc_1 (mk_p (ms_bipush (n := 7) (by decide +kernel) (by decide +kernel)) rfl) <|
  mc_1 (mk_c (k := mq_163) rfl ⟨mo_163, 7, 1318, none, ml_m_LeagueOfficeModel_7, Or.inl ⟨rfl, (by decide +kernel), mx_npd (by decide +kernel), ml_st_1319⟩⟩) <|
  mc_1 (mk_p (ms_if_ne (off := (6)) (by decide +kernel) (by decide)) rfl) <| mc_0
theorem mw_168_1 : ∀ e ∈ mt_168_1, mx_Ok mx_MT mq_168 e.1 e.2 := 
  mc_1 (mk_p (ms_bipush (n := (-2)) (by decide +kernel) (by decide +kernel)) rfl) <|
  mc_1 (mk_r (Or.inl ⟨rfl, by decide +kernel, _, rfl, mf_0⟩) rfl) <|
  mc_1 (mk_p (ms_aload_n (k := 0) (by decide +kernel) rfl) rfl) <|
  mc_1 (mk_p (ms_get (idx := 14) (w := 1454) (host := none) mx_c12 (by decide) ml_f_LeagueOfficeModel_14 (by decide +kernel)) rfl) <|
  mc_1 (mk_p (ms_bipush (n := 12) (by decide +kernel) (by decide +kernel)) rfl) <|
  mc_1 (mk_p (ms_icmp_ne (off := (6)) (by decide +kernel) (by decide)) rfl) <|
  mc_1 (mk_p (ms_bipush (n := (-4)) (by decide +kernel) (by decide +kernel)) rfl) <|
  mc_1 (mk_r (Or.inl ⟨rfl, by decide +kernel, _, rfl, mf_0⟩) rfl) <| mc_0
theorem mw_168_2 : ∀ e ∈ mt_168_2, mx_Ok mx_MT mq_168 e.1 e.2 := 
  mc_1 (mk_p (ms_aload_n (k := 0) (by decide +kernel) rfl) rfl) <|
  mc_1 (mk_p (ms_get (idx := 21) (w := 1455) (host := none) mx_c12 (by decide) ml_f_LeagueOfficeModel_21 (by decide +kernel)) rfl) <|
  mc_1 (mk_p (ms_aload_n (k := 0) (by decide +kernel) rfl) rfl) <|
  mc_1 (mk_p (ms_get (idx := 14) (w := 1454) (host := none) mx_c12 (by decide) ml_f_LeagueOfficeModel_14 (by decide +kernel)) rfl) <|
  mc_1 (mk_p (ms_iload_n (k := 1) (by decide +kernel) rfl) rfl) <|
  mc_1 (mk_p (ms_ast (Or.inl ⟨rfl, by decide +kernel⟩)) rfl) <|
  mc_1 (mk_p (ms_aload_n (k := 0) (by decide +kernel) rfl) rfl) <|
  mc_1 (mk_p (ms_get (idx := 25) (w := 1456) (host := none) mx_c12 (by decide) ml_f_LeagueOfficeModel_25 (by decide +kernel)) rfl) <|
  mc_1 (mk_p (ms_aload_n (k := 0) (by decide +kernel) rfl) rfl) <|
  mc_1 (mk_p (ms_get (idx := 14) (w := 1454) (host := none) mx_c12 (by decide) ml_f_LeagueOfficeModel_14 (by decide +kernel)) rfl) <| mc_0
theorem mw_168_3 : ∀ e ∈ mt_168_3, mx_Ok mx_MT mq_168 e.1 e.2 := 
  mc_1 (mk_p (ms_iload_n (k := 2) (by decide +kernel) rfl) rfl) <|
  mc_1 (mk_p (ms_ast (Or.inl ⟨rfl, by decide +kernel⟩)) rfl) <|
  mc_1 (mk_p (ms_aload_n (k := 0) (by decide +kernel) rfl) rfl) <|
  mc_1 (mk_p (ms_dup (by decide +kernel)) rfl) <|
  mc_1 (mk_p (ms_get (idx := 14) (w := 1454) (host := none) mx_c12 (by decide) ml_f_LeagueOfficeModel_14 (by decide +kernel)) rfl) <|
  mc_1 (mk_p (ms_iconst (n := 1) (by decide +kernel) (by decide +kernel)) rfl) <|
  mc_1 (mk_p (ms_iadd (by decide +kernel)) rfl) <|
  mc_1 (mk_p (ms_put (idx := 14) (w := 1454) (host := none) mx_c12 (by decide) ml_f_LeagueOfficeModel_14 rfl rfl (by decide +kernel)) rfl) <|
  mc_1 (mk_p (ms_aload_n (k := 0) (by decide +kernel) rfl) rfl) <|
  mc_1 (mk_p (ms_get (idx := 14) (w := 1454) (host := none) mx_c12 (by decide) ml_f_LeagueOfficeModel_14 (by decide +kernel)) rfl) <| mc_0
theorem mw_168_4 : ∀ e ∈ mt_168_4, mx_Ok mx_MT mq_168 e.1 e.2 := 
  mc_1 (mk_p (ms_iconst (n := 1) (by decide +kernel) (by decide +kernel)) rfl) <|
  mc_1 (mk_p (ms_isub (by decide +kernel)) rfl) <|
  mc_1 (mk_r (Or.inl ⟨rfl, by decide +kernel, _, rfl, mf_0⟩) rfl) <| mc_0
theorem mw_168 : ∀ ch ∈ mt_168, ∀ e ∈ ch, mx_Ok mx_MT mq_168 e.1 e.2 := mc_2 mw_168_0 <| mc_2 mw_168_1 <| mc_2 mw_168_2 <| mc_2 mw_168_3 <| mc_2 mw_168_4 <| mc_3
/- 169 LeagueOfficeModel.step(II)I -/
theorem mw_169_0 : ∀ e ∈ mt_169_0, mx_Ok mx_MT mq_169 e.1 e.2 := 
  mc_1 (mk_p (ms_aload_n (k := 0) (by decide +kernel) rfl) rfl) <|
  mc_1 (mk_p (ms_iload_n (k := 1) (by decide +kernel) rfl) rfl) <|
  mc_1 (mk_c (k := mq_166) rfl ⟨mo_166, 28, 1332, none, ml_m_LeagueOfficeModel_28, Or.inr (Or.inr (Or.inl ⟨12, TX12, 78, by decide, rfl, rfl, (by decide +kernel), ⟨1, rfl, mx_npd (by decide +kernel)⟩, ml_in_1334, ml_se_30⟩))⟩) <|
  mc_1 (mk_p (ms_if_eq (off := (10)) (by decide +kernel) (by decide)) rfl) <|
  mc_1 (mk_p (ms_iload_n (k := 2) (by decide +kernel) rfl) rfl) <|
  mc_1 (mk_c (k := mq_167) rfl ⟨mo_167, 17, 1325, none, ml_m_LeagueOfficeModel_17, Or.inl ⟨rfl, (by decide +kernel), mx_npd (by decide +kernel), ml_st_1326⟩⟩) <|
  mc_1 (mk_p (ms_if_ne (off := (6)) (by decide +kernel) (by decide)) rfl) <|
  mc_1 (mk_p (ms_bipush (n := (-2)) (by decide +kernel) (by decide +kernel)) rfl) <| mc_0
theorem mw_169_1 : ∀ e ∈ mt_169_1, mx_Ok mx_MT mq_169 e.1 e.2 := 
  mc_1 (mk_r (Or.inl ⟨rfl, by decide +kernel, _, rfl, mf_0⟩) rfl) <|
  mc_1 (mk_p (ms_aload_n (k := 0) (by decide +kernel) rfl) rfl) <|
  mc_1 (mk_p (ms_get (idx := 21) (w := 1455) (host := none) mx_c12 (by decide) ml_f_LeagueOfficeModel_21 (by decide +kernel)) rfl) <|
  mc_1 (mk_p (ms_iload_n (k := 1) (by decide +kernel) rfl) rfl) <|
  mc_1 (mk_p (ms_ald (Or.inl ⟨rfl, by decide +kernel⟩)) rfl) <|
  mc_1 (mk_p (ms_istore_n (k := 3) (by decide +kernel) rfl (by decide)) rfl) <|
  mc_1 (mk_p (ms_aload_n (k := 0) (by decide +kernel) rfl) rfl) <|
  mc_1 (mk_p (ms_get (idx := 21) (w := 1455) (host := none) mx_c12 (by decide) ml_f_LeagueOfficeModel_21 (by decide +kernel)) rfl) <|
  mc_1 (mk_p (ms_iload_n (k := 1) (by decide +kernel) rfl) rfl) <|
  mc_1 (mk_p (ms_iload_n (k := 2) (by decide +kernel) rfl) rfl) <|
  mc_1 (mk_p (ms_ast (Or.inl ⟨rfl, by decide +kernel⟩)) rfl) <| mc_0
theorem mw_169_2 : ∀ e ∈ mt_169_2, mx_Ok mx_MT mq_169 e.1 e.2 := 
  mc_1 (mk_p (ms_iload_n (k := 3) (by decide +kernel) rfl) rfl) <|
  mc_1 (mk_r (Or.inl ⟨rfl, by decide +kernel, _, rfl, mf_0⟩) rfl) <| mc_0
theorem mw_169 : ∀ ch ∈ mt_169, ∀ e ∈ ch, mx_Ok mx_MT mq_169 e.1 e.2 := mc_2 mw_169_0 <| mc_2 mw_169_1 <| mc_2 mw_169_2 <| mc_3
/- 170 LeagueOfficeModel.isGame(I)Z -/
theorem mw_170_0 : ∀ e ∈ mt_170_0, mx_Ok mx_MT mq_170 e.1 e.2 := 
  mc_1 (mk_p (ms_iload_n (k := 1) (by decide +kernel) rfl) rfl) <|
  mc_1 (mk_p (ms_iconst (n := 0) (by decide +kernel) (by decide +kernel)) rfl) <|
  mc_1 (mk_p (ms_aload_n (k := 0) (by decide +kernel) rfl) rfl) <|
  mc_1 (mk_p (ms_get (idx := 31) (w := 1457) (host := none) mx_c12 (by decide) ml_f_LeagueOfficeModel_31 (by decide +kernel)) rfl) <|
  mc_1 (mk_p (ms_iconst (n := 1) (by decide +kernel) (by decide +kernel)) rfl) <|
  mc_1 (mk_p (ms_isub (by decide +kernel)) rfl) <|
  mc_1 (mk_c (k := mq_163) rfl ⟨mo_163, 7, 1318, none, ml_m_LeagueOfficeModel_7, Or.inl ⟨rfl, (by decide +kernel), mx_npd (by decide +kernel), ml_st_1319⟩⟩) <|
  mc_1 (mk_r (Or.inl ⟨rfl, by decide +kernel, _, rfl, mf_2⟩) rfl) <| mc_0
theorem mw_170 : ∀ ch ∈ mt_170, ∀ e ∈ ch, mx_Ok mx_MT mq_170 e.1 e.2 := mc_2 mw_170_0 <| mc_3
/- 171 LeagueOfficeModel.isUnder(II)Z -/
theorem mw_171_0 : ∀ e ∈ mt_171_0, mx_Ok mx_MT mq_171 e.1 e.2 := 
  mc_1 (mk_p (ms_iload_n (k := 1) (by decide +kernel) rfl) rfl) <|
  mc_1 (mk_p (ms_if_eq (off := (28)) (by decide +kernel) (by decide)) rfl) <|
  mc_1 (mk_p (ms_iload_n (k := 0) (by decide +kernel) rfl) rfl) <|
  mc_1 (mk_p (ms_iload_n (k := 1) (by decide +kernel) rfl) rfl) <|
  mc_1 (mk_p (ms_icmp_eq (off := (23)) (by decide +kernel) (by decide)) rfl) <|
  mc_1 (mk_p (ms_iload_n (k := 1) (by decide +kernel) rfl) rfl) <|
  mc_1 (mk_p (ms_iconst (n := 2) (by decide +kernel) (by decide +kernel)) rfl) <|
  mc_1 (mk_p (ms_icmp_ne (off := (8)) (by decide +kernel) (by decide)) rfl) <|
  mc_1 (mk_p (ms_iload_n (k := 0) (by decide +kernel) rfl) rfl) <|
  mc_1 (mk_p (ms_iconst (n := 4) (by decide +kernel) (by decide +kernel)) rfl) <| mc_0
theorem mw_171_1 : ∀ e ∈ mt_171_1, mx_Ok mx_MT mq_171 e.1 e.2 := 
  mc_1 (mk_p (ms_icmp_eq (off := (13)) (by decide +kernel) (by decide)) rfl) <|
  mc_1 (mk_p (ms_iload_n (k := 1) (by decide +kernel) rfl) rfl) <|
  mc_1 (mk_p (ms_iconst (n := 3) (by decide +kernel) (by decide +kernel)) rfl) <|
  mc_1 (mk_p (ms_icmp_ne (off := (12)) (by decide +kernel) (by decide)) rfl) <|
  mc_1 (mk_p (ms_iload_n (k := 0) (by decide +kernel) rfl) rfl) <|
  mc_1 (mk_p (ms_iconst (n := 5) (by decide +kernel) (by decide +kernel)) rfl) <|
  mc_1 (mk_p (ms_icmp_ne (off := (7)) (by decide +kernel) (by decide)) rfl) <|
  mc_1 (mk_p (ms_iconst (n := 1) (by decide +kernel) (by decide +kernel)) rfl) <|
  mc_1 (mk_p (ms_goto (off := (4)) (by decide +kernel) (by decide)) rfl) <| mc_0
theorem mw_171_2 : ∀ e ∈ mt_171_2, mx_Ok mx_MT mq_171 e.1 e.2 := 
  mc_1 (mk_p (ms_iconst (n := 0) (by decide +kernel) (by decide +kernel)) rfl) <|
  mc_1 (mk_r (Or.inl ⟨rfl, by decide +kernel, _, rfl, mf_2⟩) rfl) <| mc_0
theorem mw_171 : ∀ ch ∈ mt_171, ∀ e ∈ ch, mx_Ok mx_MT mq_171 e.1 e.2 := mc_2 mw_171_0 <| mc_2 mw_171_1 <| mc_2 mw_171_2 <| mc_3
/- 172 LeagueOfficeModel.counts(I)Z -/
theorem mw_172_0 : ∀ e ∈ mt_172_0, mx_Ok mx_MT mq_172 e.1 e.2 := 
  mc_1 (mk_p (ms_iload_n (k := 0) (by decide +kernel) rfl) rfl) <|
  mc_1 (mk_p (ms_iconst (n := 1) (by decide +kernel) (by decide +kernel)) rfl) <|
  mc_1 (mk_p (ms_icmp_eq (off := (12)) (by decide +kernel) (by decide)) rfl) <|
  mc_1 (mk_p (ms_iload_n (k := 0) (by decide +kernel) rfl) rfl) <|
  mc_1 (mk_p (ms_iconst (n := 5) (by decide +kernel) (by decide +kernel)) rfl) <|
  mc_1 (mk_p (ms_icmp_eq (off := (7)) (by decide +kernel) (by decide)) rfl) <|
  mc_1 (mk_p (ms_iconst (n := 1) (by decide +kernel) (by decide +kernel)) rfl) <|
  mc_1 (mk_p (ms_goto (off := (4)) (by decide +kernel) (by decide)) rfl) <|
  mc_1 (mk_p (ms_iconst (n := 0) (by decide +kernel) (by decide +kernel)) rfl) <|
  mc_1 (mk_r (Or.inl ⟨rfl, by decide +kernel, _, rfl, mf_2⟩) rfl) <| mc_0
theorem mw_172 : ∀ ch ∈ mt_172, ∀ e ∈ ch, mx_Ok mx_MT mq_172 e.1 e.2 := mc_2 mw_172_0 <| mc_3
/- 173 LeagueOfficeModel.serves(I)Z -/
theorem mw_173_0 : ∀ e ∈ mt_173_0, mx_Ok mx_MT mq_173 e.1 e.2 := 
  mc_1 (mk_p (ms_iload_n (k := 0) (by decide +kernel) rfl) rfl) <|
  mc_1 (mk_p (ms_if_eq (off := (13)) (by decide +kernel) (by decide)) rfl) <|
  mc_1 (mk_p (ms_iload_n (k := 0) (by decide +kernel) rfl) rfl) <|
  mc_1 (mk_p (ms_iconst (n := 2) (by decide +kernel) (by decide +kernel)) rfl) <|
  mc_1 (mk_p (ms_icmp_eq (off := (8)) (by decide +kernel) (by decide)) rfl) <|
  mc_1 (mk_p (ms_iload_n (k := 0) (by decide +kernel) rfl) rfl) <|
  mc_1 (mk_p (ms_iconst (n := 4) (by decide +kernel) (by decide +kernel)) rfl) <|
  mc_1 (mk_p (ms_icmp_ne (off := (7)) (by decide +kernel) (by decide)) rfl) <|
  mc_1 (mk_p (ms_iconst (n := 1) (by decide +kernel) (by decide +kernel)) rfl) <|
  mc_1 (mk_p (ms_goto (off := (4)) (by decide +kernel) (by decide)) rfl) <| mc_0
theorem mw_173_1 : ∀ e ∈ mt_173_1, mx_Ok mx_MT mq_173 e.1 e.2 := 
  mc_1 (mk_p (ms_iconst (n := 0) (by decide +kernel) (by decide +kernel)) rfl) <|
  mc_1 (mk_r (Or.inl ⟨rfl, by decide +kernel, _, rfl, mf_2⟩) rfl) <| mc_0
theorem mw_173 : ∀ ch ∈ mt_173, ∀ e ∈ ch, mx_Ok mx_MT mq_173 e.1 e.2 := mc_2 mw_173_0 <| mc_2 mw_173_1 <| mc_3
/- 174 LeagueOfficeModel.gate(I)I -/
theorem mw_174_0 : ∀ e ∈ mt_174_0, mx_Ok mx_MT mq_174 e.1 e.2 := 
  mc_1 (mk_p (ms_iload_n (k := 0) (by decide +kernel) rfl) rfl) <|
  mc_1 (mk_p (ms_tsw (dflt := (51)) (lo := (0)) (hi := (4)) (offs := #[35, 39, 43, 51, 47]) (len := 35) (by decide +kernel) (by decide +kernel) (by decide +kernel) (by decide +kernel) (by decide +kernel)) rfl) <| mc_0
theorem mw_174_1 : ∀ e ∈ mt_174_1, mx_Ok mx_MT mq_174 e.1 e.2 := mc_0
theorem mw_174_2 : ∀ e ∈ mt_174_2, mx_Ok mx_MT mq_174 e.1 e.2 := 
  mc_1 (mk_p (ms_sipush (n := 300) (by decide +kernel) (by decide +kernel)) rfl) <|
  mc_1 (mk_r (Or.inl ⟨rfl, by decide +kernel, _, rfl, mf_0⟩) rfl) <|
  mc_1 (mk_p (ms_sipush (n := 150) (by decide +kernel) (by decide +kernel)) rfl) <|
  mc_1 (mk_r (Or.inl ⟨rfl, by decide +kernel, _, rfl, mf_0⟩) rfl) <|
  mc_1 (mk_p (ms_sipush (n := 240) (by decide +kernel) (by decide +kernel)) rfl) <|
  mc_1 (mk_r (Or.inl ⟨rfl, by decide +kernel, _, rfl, mf_0⟩) rfl) <| mc_0
theorem mw_174_3 : ∀ e ∈ mt_174_3, mx_Ok mx_MT mq_174 e.1 e.2 := 
  mc_1 (mk_p (ms_sipush (n := 480) (by decide +kernel) (by decide +kernel)) rfl) <|
  mc_1 (mk_r (Or.inl ⟨rfl, by decide +kernel, _, rfl, mf_0⟩) rfl) <|
  mc_1 (mk_p (ms_iconst (n := 0) (by decide +kernel) (by decide +kernel)) rfl) <|
  mc_1 (mk_r (Or.inl ⟨rfl, by decide +kernel, _, rfl, mf_0⟩) rfl) <| mc_0
theorem mw_174 : ∀ ch ∈ mt_174, ∀ e ∈ ch, mx_Ok mx_MT mq_174 e.1 e.2 := mc_2 mw_174_0 <| mc_2 mw_174_1 <| mc_2 mw_174_2 <| mc_2 mw_174_3 <| mc_3
/- 175 LeagueOfficeModel.homePart(I)I -/
theorem mw_175_0 : ∀ e ∈ mt_175_0, mx_Ok mx_MT mq_175 e.1 e.2 := 
  mc_1 (mk_p (ms_iload_n (k := 0) (by decide +kernel) rfl) rfl) <|
  mc_1 (mk_p (ms_iconst (n := 1) (by decide +kernel) (by decide +kernel)) rfl) <|
  mc_1 (mk_p (ms_icmp_ne (off := (8)) (by decide +kernel) (by decide)) rfl) <|
  mc_1 (mk_p (ms_bipush (n := 50) (by decide +kernel) (by decide +kernel)) rfl) <|
  mc_1 (mk_p (ms_goto (off := (15)) (by decide +kernel) (by decide)) rfl) <|
  mc_1 (mk_p (ms_iload_n (k := 0) (by decide +kernel) rfl) rfl) <|
  mc_1 (mk_p (ms_iconst (n := 4) (by decide +kernel) (by decide +kernel)) rfl) <|
  mc_1 (mk_p (ms_icmp_ne (off := (8)) (by decide +kernel) (by decide)) rfl) <|
  mc_1 (mk_p (ms_bipush (n := 80) (by decide +kernel) (by decide +kernel)) rfl) <| mc_0
theorem mw_175_1 : ∀ e ∈ mt_175_1, mx_Ok mx_MT mq_175 e.1 e.2 := 
  mc_1 (mk_p (ms_goto (off := (5)) (by decide +kernel) (by decide)) rfl) <|
  mc_1 (mk_p (ms_bipush (n := 100) (by decide +kernel) (by decide +kernel)) rfl) <|
  mc_1 (mk_r (Or.inl ⟨rfl, by decide +kernel, _, rfl, mf_0⟩) rfl) <| mc_0
theorem mw_175 : ∀ ch ∈ mt_175, ∀ e ∈ ch, mx_Ok mx_MT mq_175 e.1 e.2 := mc_2 mw_175_0 <| mc_2 mw_175_1 <| mc_3
/- 176 LeagueOfficeModel.game(IIII)I -/
theorem mw_176_0 : ∀ e ∈ mt_176_0, mx_Ok mx_MT mq_176 e.1 e.2 := 
  mc_1 (mk_p (ms_iload_n (k := 1) (by decide +kernel) rfl) rfl) <|
  mc_1 (mk_p (ms_iconst (n := 0) (by decide +kernel) (by decide +kernel)) rfl) <|
  mc_1 (mk_p (ms_iconst (n := 5) (by decide +kernel) (by decide +kernel)) rfl) <|
  mc_1 (mk_c (k := mq_163) rfl ⟨mo_163, 7, 1318, none, ml_m_LeagueOfficeModel_7, Or.inl ⟨rfl, (by decide +kernel), mx_npd (by decide +kernel), ml_st_1319⟩⟩) <|
  mc_1 (mk_p (ms_if_eq (off := (32)) (by decide +kernel) (by decide)) rfl) <|
  mc_1 (mk_p (ms_aload_n (k := 0) (by decide +kernel) rfl) rfl) <|
  mc_1 (mk_p (ms_iload_n (k := 2) (by decide +kernel) rfl) rfl) <|
  mc_1 (mk_c (k := mq_166) rfl ⟨mo_166, 28, 1332, none, ml_m_LeagueOfficeModel_28, Or.inr (Or.inr (Or.inl ⟨12, TX12, 78, by decide, rfl, rfl, (by decide +kernel), ⟨1, rfl, mx_npd (by decide +kernel)⟩, ml_in_1334, ml_se_30⟩))⟩) <|
  mc_1 (mk_p (ms_if_eq (off := (24)) (by decide +kernel) (by decide)) rfl) <| mc_0
theorem mw_176_1 : ∀ e ∈ mt_176_1, mx_Ok mx_MT mq_176 e.1 e.2 := 
  mc_1 (mk_p (ms_aload_n (k := 0) (by decide +kernel) rfl) rfl) <|
  mc_1 (mk_p (ms_iload_n (k := 3) (by decide +kernel) rfl) rfl) <|
  mc_1 (mk_c (k := mq_166) rfl ⟨mo_166, 28, 1332, none, ml_m_LeagueOfficeModel_28, Or.inr (Or.inr (Or.inl ⟨12, TX12, 78, by decide, rfl, rfl, (by decide +kernel), ⟨1, rfl, mx_npd (by decide +kernel)⟩, ml_in_1334, ml_se_30⟩))⟩) <|
  mc_1 (mk_p (ms_if_eq (off := (16)) (by decide +kernel) (by decide)) rfl) <|
  mc_1 (mk_p (ms_iload_n (k := 2) (by decide +kernel) rfl) rfl) <|
  mc_1 (mk_p (ms_iload_n (k := 3) (by decide +kernel) rfl) rfl) <|
  mc_1 (mk_p (ms_icmp_eq (off := (11)) (by decide +kernel) (by decide)) rfl) <|
  mc_1 (mk_p (ms_iload (by decide +kernel)) rfl) <| mc_0
theorem mw_176_2 : ∀ e ∈ mt_176_2, mx_Ok mx_MT mq_176 e.1 e.2 := 
  mc_1 (mk_c (k := mq_164) rfl ⟨mo_164, 34, 1341, none, ml_m_LeagueOfficeModel_34, Or.inl ⟨rfl, (by decide +kernel), mx_npd (by decide +kernel), ml_st_1342⟩⟩) <|
  mc_1 (mk_p (ms_if_ne (off := (6)) (by decide +kernel) (by decide)) rfl) <|
  mc_1 (mk_p (ms_bipush (n := (-2)) (by decide +kernel) (by decide +kernel)) rfl) <|
  mc_1 (mk_r (Or.inl ⟨rfl, by decide +kernel, _, rfl, mf_0⟩) rfl) <|
  mc_1 (mk_p (ms_aload_n (k := 0) (by decide +kernel) rfl) rfl) <|
  mc_1 (mk_p (ms_get (idx := 31) (w := 1457) (host := none) mx_c12 (by decide) ml_f_LeagueOfficeModel_31 (by decide +kernel)) rfl) <|
  mc_1 (mk_p (ms_bipush (n := 60) (by decide +kernel) (by decide +kernel)) rfl) <|
  mc_1 (mk_p (ms_icmp_ne (off := (6)) (by decide +kernel) (by decide)) rfl) <| mc_0
theorem mw_176_3 : ∀ e ∈ mt_176_3, mx_Ok mx_MT mq_176 e.1 e.2 := 
  mc_1 (mk_p (ms_bipush (n := (-4)) (by decide +kernel) (by decide +kernel)) rfl) <|
  mc_1 (mk_r (Or.inl ⟨rfl, by decide +kernel, _, rfl, mf_0⟩) rfl) <|
  mc_1 (mk_p (ms_aload_n (k := 0) (by decide +kernel) rfl) rfl) <|
  mc_1 (mk_p (ms_get (idx := 37) (w := 1458) (host := none) mx_c12 (by decide) ml_f_LeagueOfficeModel_37 (by decide +kernel)) rfl) <|
  mc_1 (mk_p (ms_aload_n (k := 0) (by decide +kernel) rfl) rfl) <|
  mc_1 (mk_p (ms_get (idx := 31) (w := 1457) (host := none) mx_c12 (by decide) ml_f_LeagueOfficeModel_31 (by decide +kernel)) rfl) <|
  mc_1 (mk_p (ms_iload_n (k := 1) (by decide +kernel) rfl) rfl) <|
  mc_1 (mk_p (ms_ast (Or.inl ⟨rfl, by decide +kernel⟩)) rfl) <|
  mc_1 (mk_p (ms_aload_n (k := 0) (by decide +kernel) rfl) rfl) <| mc_0
theorem mw_176_4 : ∀ e ∈ mt_176_4, mx_Ok mx_MT mq_176 e.1 e.2 := 
  mc_1 (mk_p (ms_get (idx := 40) (w := 1459) (host := none) mx_c12 (by decide) ml_f_LeagueOfficeModel_40 (by decide +kernel)) rfl) <|
  mc_1 (mk_p (ms_aload_n (k := 0) (by decide +kernel) rfl) rfl) <|
  mc_1 (mk_p (ms_get (idx := 31) (w := 1457) (host := none) mx_c12 (by decide) ml_f_LeagueOfficeModel_31 (by decide +kernel)) rfl) <|
  mc_1 (mk_p (ms_iload_n (k := 2) (by decide +kernel) rfl) rfl) <|
  mc_1 (mk_p (ms_ast (Or.inl ⟨rfl, by decide +kernel⟩)) rfl) <|
  mc_1 (mk_p (ms_aload_n (k := 0) (by decide +kernel) rfl) rfl) <|
  mc_1 (mk_p (ms_get (idx := 43) (w := 1460) (host := none) mx_c12 (by decide) ml_f_LeagueOfficeModel_43 (by decide +kernel)) rfl) <|
  mc_1 (mk_p (ms_aload_n (k := 0) (by decide +kernel) rfl) rfl) <|
  mc_1 (mk_p (ms_get (idx := 31) (w := 1457) (host := none) mx_c12 (by decide) ml_f_LeagueOfficeModel_31 (by decide +kernel)) rfl) <| mc_0
theorem mw_176_5 : ∀ e ∈ mt_176_5, mx_Ok mx_MT mq_176 e.1 e.2 := 
  mc_1 (mk_p (ms_iload_n (k := 3) (by decide +kernel) rfl) rfl) <|
  mc_1 (mk_p (ms_ast (Or.inl ⟨rfl, by decide +kernel⟩)) rfl) <|
  mc_1 (mk_p (ms_aload_n (k := 0) (by decide +kernel) rfl) rfl) <|
  mc_1 (mk_p (ms_get (idx := 46) (w := 1461) (host := none) mx_c12 (by decide) ml_f_LeagueOfficeModel_46 (by decide +kernel)) rfl) <|
  mc_1 (mk_p (ms_aload_n (k := 0) (by decide +kernel) rfl) rfl) <|
  mc_1 (mk_p (ms_get (idx := 31) (w := 1457) (host := none) mx_c12 (by decide) ml_f_LeagueOfficeModel_31 (by decide +kernel)) rfl) <|
  mc_1 (mk_p (ms_iload (by decide +kernel)) rfl) <|
  mc_1 (mk_p (ms_ast (Or.inl ⟨rfl, by decide +kernel⟩)) rfl) <|
  mc_1 (mk_p (ms_aload_n (k := 0) (by decide +kernel) rfl) rfl) <|
  mc_1 (mk_p (ms_get (idx := 49) (w := 1514) (host := none) mx_c12 (by decide) ml_f_LeagueOfficeModel_49 (by decide +kernel)) rfl) <| mc_0
theorem mw_176_6 : ∀ e ∈ mt_176_6, mx_Ok mx_MT mq_176 e.1 e.2 := 
  mc_1 (mk_p (ms_aload_n (k := 0) (by decide +kernel) rfl) rfl) <|
  mc_1 (mk_p (ms_get (idx := 31) (w := 1457) (host := none) mx_c12 (by decide) ml_f_LeagueOfficeModel_31 (by decide +kernel)) rfl) <|
  mc_1 (mk_p (ms_iconst (n := (-1)) (by decide +kernel) (by decide +kernel)) rfl) <|
  mc_1 (mk_p (ms_ast (Or.inl ⟨rfl, by decide +kernel⟩)) rfl) <|
  mc_1 (mk_p (ms_aload_n (k := 0) (by decide +kernel) rfl) rfl) <|
  mc_1 (mk_p (ms_dup (by decide +kernel)) rfl) <|
  mc_1 (mk_p (ms_get (idx := 31) (w := 1457) (host := none) mx_c12 (by decide) ml_f_LeagueOfficeModel_31 (by decide +kernel)) rfl) <|
  mc_1 (mk_p (ms_iconst (n := 1) (by decide +kernel) (by decide +kernel)) rfl) <|
  mc_1 (mk_p (ms_iadd (by decide +kernel)) rfl) <|
  mc_1 (mk_p (ms_put (idx := 31) (w := 1457) (host := none) mx_c12 (by decide) ml_f_LeagueOfficeModel_31 rfl rfl (by decide +kernel)) rfl) <| mc_0
theorem mw_176_7 : ∀ e ∈ mt_176_7, mx_Ok mx_MT mq_176 e.1 e.2 := 
  mc_1 (mk_p (ms_aload_n (k := 0) (by decide +kernel) rfl) rfl) <|
  mc_1 (mk_p (ms_get (idx := 31) (w := 1457) (host := none) mx_c12 (by decide) ml_f_LeagueOfficeModel_31 (by decide +kernel)) rfl) <|
  mc_1 (mk_p (ms_iconst (n := 1) (by decide +kernel) (by decide +kernel)) rfl) <|
  mc_1 (mk_p (ms_isub (by decide +kernel)) rfl) <|
  mc_1 (mk_r (Or.inl ⟨rfl, by decide +kernel, _, rfl, mf_0⟩) rfl) <| mc_0
theorem mw_176 : ∀ ch ∈ mt_176, ∀ e ∈ ch, mx_Ok mx_MT mq_176 e.1 e.2 := mc_2 mw_176_0 <| mc_2 mw_176_1 <| mc_2 mw_176_2 <| mc_2 mw_176_3 <| mc_2 mw_176_4 <| mc_2 mw_176_5 <| mc_2 mw_176_6 <| mc_2 mw_176_7 <| mc_3
/- 177 LeagueOfficeModel.gameTold(II)I -/
theorem mw_177_0 : ∀ e ∈ mt_177_0, mx_Ok mx_MT mq_177 e.1 e.2 := 
  mc_1 (mk_p (ms_aload_n (k := 0) (by decide +kernel) rfl) rfl) <|
  mc_1 (mk_p (ms_iload_n (k := 1) (by decide +kernel) rfl) rfl) <|
  mc_1 (mk_c (k := mq_170) rfl ⟨mo_170, 52, 1348, none, ml_m_LeagueOfficeModel_52, Or.inr (Or.inr (Or.inl ⟨12, TX12, 78, by decide, rfl, rfl, (by decide +kernel), ⟨1, rfl, mx_npd (by decide +kernel)⟩, ml_in_1350, ml_se_31⟩))⟩) <|
  mc_1 (mk_p (ms_if_ne (off := (6)) (by decide +kernel) (by decide)) rfl) <|
  mc_1 (mk_p (ms_bipush (n := (-2)) (by decide +kernel) (by decide +kernel)) rfl) <|
  mc_1 (mk_r (Or.inl ⟨rfl, by decide +kernel, _, rfl, mf_0⟩) rfl) <|
  mc_1 (mk_p (ms_iload_n (k := 2) (by decide +kernel) rfl) rfl) <|
  mc_1 (mk_p (ms_tsw (dflt := (132)) (lo := (0)) (hi := (7)) (offs := #[48, 55, 62, 69, 76, 94, 112, 122]) (len := 48) (by decide +kernel) (by decide +kernel) (by decide +kernel) (by decide +kernel) (by decide +kernel)) rfl) <| mc_0
theorem mw_177_1 : ∀ e ∈ mt_177_1, mx_Ok mx_MT mq_177 e.1 e.2 := mc_0
theorem mw_177_2 : ∀ e ∈ mt_177_2, mx_Ok mx_MT mq_177 e.1 e.2 := mc_0
theorem mw_177_3 : ∀ e ∈ mt_177_3, mx_Ok mx_MT mq_177 e.1 e.2 := 
  mc_1 (mk_p (ms_aload_n (k := 0) (by decide +kernel) rfl) rfl) <|
  mc_1 (mk_p (ms_get (idx := 37) (w := 1458) (host := none) mx_c12 (by decide) ml_f_LeagueOfficeModel_37 (by decide +kernel)) rfl) <| mc_0
theorem mw_177_4 : ∀ e ∈ mt_177_4, mx_Ok mx_MT mq_177 e.1 e.2 := 
  mc_1 (mk_p (ms_iload_n (k := 1) (by decide +kernel) rfl) rfl) <|
  mc_1 (mk_p (ms_ald (Or.inl ⟨rfl, by decide +kernel⟩)) rfl) <|
  mc_1 (mk_r (Or.inl ⟨rfl, by decide +kernel, _, rfl, mf_0⟩) rfl) <|
  mc_1 (mk_p (ms_aload_n (k := 0) (by decide +kernel) rfl) rfl) <|
  mc_1 (mk_p (ms_get (idx := 40) (w := 1459) (host := none) mx_c12 (by decide) ml_f_LeagueOfficeModel_40 (by decide +kernel)) rfl) <|
  mc_1 (mk_p (ms_iload_n (k := 1) (by decide +kernel) rfl) rfl) <|
  mc_1 (mk_p (ms_ald (Or.inl ⟨rfl, by decide +kernel⟩)) rfl) <|
  mc_1 (mk_r (Or.inl ⟨rfl, by decide +kernel, _, rfl, mf_0⟩) rfl) <|
  mc_1 (mk_p (ms_aload_n (k := 0) (by decide +kernel) rfl) rfl) <|
  mc_1 (mk_p (ms_get (idx := 43) (w := 1460) (host := none) mx_c12 (by decide) ml_f_LeagueOfficeModel_43 (by decide +kernel)) rfl) <|
  mc_1 (mk_p (ms_iload_n (k := 1) (by decide +kernel) rfl) rfl) <|
  mc_1 (mk_p (ms_ald (Or.inl ⟨rfl, by decide +kernel⟩)) rfl) <| mc_0
theorem mw_177_5 : ∀ e ∈ mt_177_5, mx_Ok mx_MT mq_177 e.1 e.2 := 
  mc_1 (mk_r (Or.inl ⟨rfl, by decide +kernel, _, rfl, mf_0⟩) rfl) <|
  mc_1 (mk_p (ms_aload_n (k := 0) (by decide +kernel) rfl) rfl) <|
  mc_1 (mk_p (ms_get (idx := 46) (w := 1461) (host := none) mx_c12 (by decide) ml_f_LeagueOfficeModel_46 (by decide +kernel)) rfl) <|
  mc_1 (mk_p (ms_iload_n (k := 1) (by decide +kernel) rfl) rfl) <|
  mc_1 (mk_p (ms_ald (Or.inl ⟨rfl, by decide +kernel⟩)) rfl) <|
  mc_1 (mk_r (Or.inl ⟨rfl, by decide +kernel, _, rfl, mf_0⟩) rfl) <|
  mc_1 (mk_p (ms_aload_n (k := 0) (by decide +kernel) rfl) rfl) <|
  mc_1 (mk_p (ms_get (idx := 37) (w := 1458) (host := none) mx_c12 (by decide) ml_f_LeagueOfficeModel_37 (by decide +kernel)) rfl) <|
  mc_1 (mk_p (ms_iload_n (k := 1) (by decide +kernel) rfl) rfl) <|
  mc_1 (mk_p (ms_ald (Or.inl ⟨rfl, by decide +kernel⟩)) rfl) <|
  mc_1 (mk_c (k := mq_172) rfl ⟨mo_172, 55, 1352, none, ml_m_LeagueOfficeModel_55, Or.inl ⟨rfl, (by decide +kernel), mx_npd (by decide +kernel), ml_st_1353⟩⟩) <| mc_0
theorem mw_177_6 : ∀ e ∈ mt_177_6, mx_Ok mx_MT mq_177 e.1 e.2 := 
  mc_1 (mk_p (ms_if_eq (off := (7)) (by decide +kernel) (by decide)) rfl) <|
  mc_1 (mk_p (ms_iconst (n := 1) (by decide +kernel) (by decide +kernel)) rfl) <|
  mc_1 (mk_p (ms_goto (off := (4)) (by decide +kernel) (by decide)) rfl) <|
  mc_1 (mk_p (ms_iconst (n := 0) (by decide +kernel) (by decide +kernel)) rfl) <|
  mc_1 (mk_r (Or.inl ⟨rfl, by decide +kernel, _, rfl, mf_0⟩) rfl) <|
  mc_1 (mk_p (ms_aload_n (k := 0) (by decide +kernel) rfl) rfl) <|
  mc_1 (mk_p (ms_get (idx := 37) (w := 1458) (host := none) mx_c12 (by decide) ml_f_LeagueOfficeModel_37 (by decide +kernel)) rfl) <|
  mc_1 (mk_p (ms_iload_n (k := 1) (by decide +kernel) rfl) rfl) <|
  mc_1 (mk_p (ms_ald (Or.inl ⟨rfl, by decide +kernel⟩)) rfl) <| mc_0
theorem mw_177_7 : ∀ e ∈ mt_177_7, mx_Ok mx_MT mq_177 e.1 e.2 := 
  mc_1 (mk_c (k := mq_173) rfl ⟨mo_173, 58, 1355, none, ml_m_LeagueOfficeModel_58, Or.inl ⟨rfl, (by decide +kernel), mx_npd (by decide +kernel), ml_st_1356⟩⟩) <|
  mc_1 (mk_p (ms_if_eq (off := (7)) (by decide +kernel) (by decide)) rfl) <|
  mc_1 (mk_p (ms_iconst (n := 1) (by decide +kernel) (by decide +kernel)) rfl) <|
  mc_1 (mk_p (ms_goto (off := (4)) (by decide +kernel) (by decide)) rfl) <|
  mc_1 (mk_p (ms_iconst (n := 0) (by decide +kernel) (by decide +kernel)) rfl) <|
  mc_1 (mk_r (Or.inl ⟨rfl, by decide +kernel, _, rfl, mf_0⟩) rfl) <|
  mc_1 (mk_p (ms_aload_n (k := 0) (by decide +kernel) rfl) rfl) <|
  mc_1 (mk_p (ms_get (idx := 37) (w := 1458) (host := none) mx_c12 (by decide) ml_f_LeagueOfficeModel_37 (by decide +kernel)) rfl) <| mc_0
theorem mw_177_8 : ∀ e ∈ mt_177_8, mx_Ok mx_MT mq_177 e.1 e.2 := 
  mc_1 (mk_p (ms_iload_n (k := 1) (by decide +kernel) rfl) rfl) <|
  mc_1 (mk_p (ms_ald (Or.inl ⟨rfl, by decide +kernel⟩)) rfl) <|
  mc_1 (mk_c (k := mq_174) rfl ⟨mo_174, 61, 1358, none, ml_m_LeagueOfficeModel_61, Or.inl ⟨rfl, (by decide +kernel), mx_npd (by decide +kernel), ml_st_1359⟩⟩) <|
  mc_1 (mk_r (Or.inl ⟨rfl, by decide +kernel, _, rfl, mf_0⟩) rfl) <|
  mc_1 (mk_p (ms_aload_n (k := 0) (by decide +kernel) rfl) rfl) <|
  mc_1 (mk_p (ms_get (idx := 37) (w := 1458) (host := none) mx_c12 (by decide) ml_f_LeagueOfficeModel_37 (by decide +kernel)) rfl) <|
  mc_1 (mk_p (ms_iload_n (k := 1) (by decide +kernel) rfl) rfl) <|
  mc_1 (mk_p (ms_ald (Or.inl ⟨rfl, by decide +kernel⟩)) rfl) <|
  mc_1 (mk_c (k := mq_175) rfl ⟨mo_175, 65, 1361, none, ml_m_LeagueOfficeModel_65, Or.inl ⟨rfl, (by decide +kernel), mx_npd (by decide +kernel), ml_st_1362⟩⟩) <|
  mc_1 (mk_r (Or.inl ⟨rfl, by decide +kernel, _, rfl, mf_0⟩) rfl) <| mc_0
theorem mw_177_9 : ∀ e ∈ mt_177_9, mx_Ok mx_MT mq_177 e.1 e.2 := 
  mc_1 (mk_p (ms_bipush (n := (-2)) (by decide +kernel) (by decide +kernel)) rfl) <|
  mc_1 (mk_r (Or.inl ⟨rfl, by decide +kernel, _, rfl, mf_0⟩) rfl) <| mc_0
theorem mw_177 : ∀ ch ∈ mt_177, ∀ e ∈ ch, mx_Ok mx_MT mq_177 e.1 e.2 := mc_2 mw_177_0 <| mc_2 mw_177_1 <| mc_2 mw_177_2 <| mc_2 mw_177_3 <| mc_2 mw_177_4 <| mc_2 mw_177_5 <| mc_2 mw_177_6 <| mc_2 mw_177_7 <| mc_2 mw_177_8 <| mc_2 mw_177_9 <| mc_3
/- 178 LeagueOfficeModel.result(III)I -/
theorem mw_178_0 : ∀ e ∈ mt_178_0, mx_Ok mx_MT mq_178 e.1 e.2 := 
  mc_1 (mk_p (ms_aload_n (k := 0) (by decide +kernel) rfl) rfl) <|
  mc_1 (mk_p (ms_iload_n (k := 1) (by decide +kernel) rfl) rfl) <|
  mc_1 (mk_c (k := mq_170) rfl ⟨mo_170, 52, 1348, none, ml_m_LeagueOfficeModel_52, Or.inr (Or.inr (Or.inl ⟨12, TX12, 78, by decide, rfl, rfl, (by decide +kernel), ⟨1, rfl, mx_npd (by decide +kernel)⟩, ml_in_1350, ml_se_31⟩))⟩) <|
  mc_1 (mk_p (ms_if_eq (off := (23)) (by decide +kernel) (by decide)) rfl) <|
  mc_1 (mk_p (ms_iload_n (k := 2) (by decide +kernel) rfl) rfl) <|
  mc_1 (mk_p (ms_iconst (n := 0) (by decide +kernel) (by decide +kernel)) rfl) <|
  mc_1 (mk_p (ms_bipush (n := 30) (by decide +kernel) (by decide +kernel)) rfl) <|
  mc_1 (mk_c (k := mq_163) rfl ⟨mo_163, 7, 1318, none, ml_m_LeagueOfficeModel_7, Or.inl ⟨rfl, (by decide +kernel), mx_npd (by decide +kernel), ml_st_1319⟩⟩) <|
  mc_1 (mk_p (ms_if_eq (off := (13)) (by decide +kernel) (by decide)) rfl) <| mc_0
theorem mw_178_1 : ∀ e ∈ mt_178_1, mx_Ok mx_MT mq_178 e.1 e.2 := 
  mc_1 (mk_p (ms_iload_n (k := 3) (by decide +kernel) rfl) rfl) <|
  mc_1 (mk_p (ms_iconst (n := 0) (by decide +kernel) (by decide +kernel)) rfl) <|
  mc_1 (mk_p (ms_bipush (n := 30) (by decide +kernel) (by decide +kernel)) rfl) <|
  mc_1 (mk_c (k := mq_163) rfl ⟨mo_163, 7, 1318, none, ml_m_LeagueOfficeModel_7, Or.inl ⟨rfl, (by decide +kernel), mx_npd (by decide +kernel), ml_st_1319⟩⟩) <|
  mc_1 (mk_p (ms_if_ne (off := (6)) (by decide +kernel) (by decide)) rfl) <|
  mc_1 (mk_p (ms_bipush (n := (-2)) (by decide +kernel) (by decide +kernel)) rfl) <|
  mc_1 (mk_r (Or.inl ⟨rfl, by decide +kernel, _, rfl, mf_0⟩) rfl) <|
  mc_1 (mk_p (ms_aload_n (k := 0) (by decide +kernel) rfl) rfl) <| mc_0
theorem mw_178_2 : ∀ e ∈ mt_178_2, mx_Ok mx_MT mq_178 e.1 e.2 := 
  mc_1 (mk_p (ms_get (idx := 46) (w := 1461) (host := none) mx_c12 (by decide) ml_f_LeagueOfficeModel_46 (by decide +kernel)) rfl) <|
  mc_1 (mk_p (ms_iload_n (k := 1) (by decide +kernel) rfl) rfl) <|
  mc_1 (mk_p (ms_ald (Or.inl ⟨rfl, by decide +kernel⟩)) rfl) <|
  mc_1 (mk_p (ms_aload_n (k := 0) (by decide +kernel) rfl) rfl) <|
  mc_1 (mk_p (ms_get (idx := 11) (w := 1453) (host := none) mx_c12 (by decide) ml_f_LeagueOfficeModel_11 (by decide +kernel)) rfl) <|
  mc_1 (mk_p (ms_icmp_le (off := (6)) (by decide +kernel) (by decide)) rfl) <|
  mc_1 (mk_p (ms_bipush (n := (-3)) (by decide +kernel) (by decide +kernel)) rfl) <|
  mc_1 (mk_r (Or.inl ⟨rfl, by decide +kernel, _, rfl, mf_0⟩) rfl) <|
  mc_1 (mk_p (ms_aload_n (k := 0) (by decide +kernel) rfl) rfl) <| mc_0
theorem mw_178_3 : ∀ e ∈ mt_178_3, mx_Ok mx_MT mq_178 e.1 e.2 := 
  mc_1 (mk_p (ms_get (idx := 68) (w := 1462) (host := none) mx_c12 (by decide) ml_f_LeagueOfficeModel_68 (by decide +kernel)) rfl) <|
  mc_1 (mk_p (ms_bipush (n := 120) (by decide +kernel) (by decide +kernel)) rfl) <|
  mc_1 (mk_p (ms_icmp_ne (off := (6)) (by decide +kernel) (by decide)) rfl) <|
  mc_1 (mk_p (ms_bipush (n := (-4)) (by decide +kernel) (by decide +kernel)) rfl) <|
  mc_1 (mk_r (Or.inl ⟨rfl, by decide +kernel, _, rfl, mf_0⟩) rfl) <|
  mc_1 (mk_p (ms_aload_n (k := 0) (by decide +kernel) rfl) rfl) <|
  mc_1 (mk_p (ms_get (idx := 71) (w := 1463) (host := none) mx_c12 (by decide) ml_f_LeagueOfficeModel_71 (by decide +kernel)) rfl) <|
  mc_1 (mk_p (ms_aload_n (k := 0) (by decide +kernel) rfl) rfl) <| mc_0
theorem mw_178_4 : ∀ e ∈ mt_178_4, mx_Ok mx_MT mq_178 e.1 e.2 := 
  mc_1 (mk_p (ms_get (idx := 68) (w := 1462) (host := none) mx_c12 (by decide) ml_f_LeagueOfficeModel_68 (by decide +kernel)) rfl) <|
  mc_1 (mk_p (ms_iload_n (k := 1) (by decide +kernel) rfl) rfl) <|
  mc_1 (mk_p (ms_ast (Or.inl ⟨rfl, by decide +kernel⟩)) rfl) <|
  mc_1 (mk_p (ms_aload_n (k := 0) (by decide +kernel) rfl) rfl) <|
  mc_1 (mk_p (ms_get (idx := 74) (w := 1464) (host := none) mx_c12 (by decide) ml_f_LeagueOfficeModel_74 (by decide +kernel)) rfl) <|
  mc_1 (mk_p (ms_aload_n (k := 0) (by decide +kernel) rfl) rfl) <|
  mc_1 (mk_p (ms_get (idx := 68) (w := 1462) (host := none) mx_c12 (by decide) ml_f_LeagueOfficeModel_68 (by decide +kernel)) rfl) <|
  mc_1 (mk_p (ms_bipush (n := 100) (by decide +kernel) (by decide +kernel)) rfl) <|
  mc_1 (mk_p (ms_iload_n (k := 2) (by decide +kernel) rfl) rfl) <| mc_0
theorem mw_178_5 : ∀ e ∈ mt_178_5, mx_Ok mx_MT mq_178 e.1 e.2 := 
  mc_1 (mk_p (ms_imul (by decide +kernel)) rfl) <|
  mc_1 (mk_p (ms_iload_n (k := 3) (by decide +kernel) rfl) rfl) <|
  mc_1 (mk_p (ms_iadd (by decide +kernel)) rfl) <|
  mc_1 (mk_p (ms_ast (Or.inl ⟨rfl, by decide +kernel⟩)) rfl) <|
  mc_1 (mk_p (ms_aload_n (k := 0) (by decide +kernel) rfl) rfl) <|
  mc_1 (mk_p (ms_get (idx := 77) (w := 1465) (host := none) mx_c12 (by decide) ml_f_LeagueOfficeModel_77 (by decide +kernel)) rfl) <|
  mc_1 (mk_p (ms_aload_n (k := 0) (by decide +kernel) rfl) rfl) <|
  mc_1 (mk_p (ms_get (idx := 68) (w := 1462) (host := none) mx_c12 (by decide) ml_f_LeagueOfficeModel_68 (by decide +kernel)) rfl) <|
  mc_1 (mk_p (ms_aload_n (k := 0) (by decide +kernel) rfl) rfl) <|
  mc_1 (mk_p (ms_get (idx := 11) (w := 1453) (host := none) mx_c12 (by decide) ml_f_LeagueOfficeModel_11 (by decide +kernel)) rfl) <| mc_0
theorem mw_178_6 : ∀ e ∈ mt_178_6, mx_Ok mx_MT mq_178 e.1 e.2 := 
  mc_1 (mk_p (ms_ast (Or.inl ⟨rfl, by decide +kernel⟩)) rfl) <|
  mc_1 (mk_p (ms_aload_n (k := 0) (by decide +kernel) rfl) rfl) <|
  mc_1 (mk_p (ms_dup (by decide +kernel)) rfl) <|
  mc_1 (mk_p (ms_get (idx := 68) (w := 1462) (host := none) mx_c12 (by decide) ml_f_LeagueOfficeModel_68 (by decide +kernel)) rfl) <|
  mc_1 (mk_p (ms_iconst (n := 1) (by decide +kernel) (by decide +kernel)) rfl) <|
  mc_1 (mk_p (ms_iadd (by decide +kernel)) rfl) <|
  mc_1 (mk_p (ms_put (idx := 68) (w := 1462) (host := none) mx_c12 (by decide) ml_f_LeagueOfficeModel_68 rfl rfl (by decide +kernel)) rfl) <|
  mc_1 (mk_p (ms_aload_n (k := 0) (by decide +kernel) rfl) rfl) <|
  mc_1 (mk_p (ms_get (idx := 68) (w := 1462) (host := none) mx_c12 (by decide) ml_f_LeagueOfficeModel_68 (by decide +kernel)) rfl) <|
  mc_1 (mk_r (Or.inl ⟨rfl, by decide +kernel, _, rfl, mf_0⟩) rfl) <| mc_0
theorem mw_178 : ∀ ch ∈ mt_178, ∀ e ∈ ch, mx_Ok mx_MT mq_178 e.1 e.2 := mc_2 mw_178_0 <| mc_2 mw_178_1 <| mc_2 mw_178_2 <| mc_2 mw_178_3 <| mc_2 mw_178_4 <| mc_2 mw_178_5 <| mc_2 mw_178_6 <| mc_3
/- 179 LeagueOfficeModel.knownIn(II)I -/
theorem mw_179_0 : ∀ e ∈ mt_179_0, mx_Ok mx_MT mq_179 e.1 e.2 := 
  mc_1 (mk_p (ms_aload_n (k := 0) (by decide +kernel) rfl) rfl) <|
  mc_1 (mk_p (ms_get (idx := 68) (w := 1462) (host := none) mx_c12 (by decide) ml_f_LeagueOfficeModel_68 (by decide +kernel)) rfl) <|
  mc_1 (mk_p (ms_iconst (n := 1) (by decide +kernel) (by decide +kernel)) rfl) <|
  mc_1 (mk_p (ms_isub (by decide +kernel)) rfl) <|
  mc_1 (mk_p (ms_istore_n (k := 3) (by decide +kernel) rfl (by decide)) rfl) <|
  mc_1 (mk_p (ms_iload_n (k := 3) (by decide +kernel) rfl) rfl) <|
  mc_1 (mk_p (ms_if_lt (off := (36)) (by decide +kernel) (by decide)) rfl) <|
  mc_1 (mk_p (ms_aload_n (k := 0) (by decide +kernel) rfl) rfl) <|
  mc_1 (mk_p (ms_get (idx := 71) (w := 1463) (host := none) mx_c12 (by decide) ml_f_LeagueOfficeModel_71 (by decide +kernel)) rfl) <|
  mc_1 (mk_p (ms_iload_n (k := 3) (by decide +kernel) rfl) rfl) <| mc_0
theorem mw_179_1 : ∀ e ∈ mt_179_1, mx_Ok mx_MT mq_179 e.1 e.2 := 
  mc_1 (mk_p (ms_ald (Or.inl ⟨rfl, by decide +kernel⟩)) rfl) <|
  mc_1 (mk_p (ms_iload_n (k := 1) (by decide +kernel) rfl) rfl) <|
  mc_1 (mk_p (ms_icmp_ne (off := (20)) (by decide +kernel) (by decide)) rfl) <|
  mc_1 (mk_p (ms_aload_n (k := 0) (by decide +kernel) rfl) rfl) <|
  mc_1 (mk_p (ms_get (idx := 77) (w := 1465) (host := none) mx_c12 (by decide) ml_f_LeagueOfficeModel_77 (by decide +kernel)) rfl) <|
  mc_1 (mk_p (ms_iload_n (k := 3) (by decide +kernel) rfl) rfl) <|
  mc_1 (mk_p (ms_ald (Or.inl ⟨rfl, by decide +kernel⟩)) rfl) <|
  mc_1 (mk_p (ms_iload_n (k := 2) (by decide +kernel) rfl) rfl) <|
  mc_1 (mk_p (ms_icmp_gt (off := (10)) (by decide +kernel) (by decide)) rfl) <|
  mc_1 (mk_p (ms_aload_n (k := 0) (by decide +kernel) rfl) rfl) <| mc_0
theorem mw_179_2 : ∀ e ∈ mt_179_2, mx_Ok mx_MT mq_179 e.1 e.2 := 
  mc_1 (mk_p (ms_get (idx := 74) (w := 1464) (host := none) mx_c12 (by decide) ml_f_LeagueOfficeModel_74 (by decide +kernel)) rfl) <|
  mc_1 (mk_p (ms_iload_n (k := 3) (by decide +kernel) rfl) rfl) <|
  mc_1 (mk_p (ms_ald (Or.inl ⟨rfl, by decide +kernel⟩)) rfl) <|
  mc_1 (mk_r (Or.inl ⟨rfl, by decide +kernel, _, rfl, mf_0⟩) rfl) <|
  mc_1 (mk_p (ms_iinc (n := (-1)) (by decide +kernel) (by decide +kernel) (by decide)) rfl) <|
  mc_1 (mk_p (ms_goto (off := (-34)) (by decide +kernel) (by decide)) rfl) <|
  mc_1 (mk_p (ms_aload_n (k := 0) (by decide +kernel) rfl) rfl) <|
  mc_1 (mk_p (ms_get (idx := 37) (w := 1458) (host := none) mx_c12 (by decide) ml_f_LeagueOfficeModel_37 (by decide +kernel)) rfl) <| mc_0
theorem mw_179_3 : ∀ e ∈ mt_179_3, mx_Ok mx_MT mq_179 e.1 e.2 := 
  mc_1 (mk_p (ms_iload_n (k := 1) (by decide +kernel) rfl) rfl) <|
  mc_1 (mk_p (ms_ald (Or.inl ⟨rfl, by decide +kernel⟩)) rfl) <|
  mc_1 (mk_p (ms_iconst (n := 3) (by decide +kernel) (by decide +kernel)) rfl) <|
  mc_1 (mk_p (ms_icmp_ne (off := (9)) (by decide +kernel) (by decide)) rfl) <|
  mc_1 (mk_p (ms_sipush (n := 300) (by decide +kernel) (by decide +kernel)) rfl) <|
  mc_1 (mk_p (ms_goto (off := (4)) (by decide +kernel) (by decide)) rfl) <|
  mc_1 (mk_p (ms_iconst (n := (-1)) (by decide +kernel) (by decide +kernel)) rfl) <|
  mc_1 (mk_r (Or.inl ⟨rfl, by decide +kernel, _, rfl, mf_0⟩) rfl) <| mc_0
theorem mw_179 : ∀ ch ∈ mt_179, ∀ e ∈ ch, mx_Ok mx_MT mq_179 e.1 e.2 := mc_2 mw_179_0 <| mc_2 mw_179_1 <| mc_2 mw_179_2 <| mc_2 mw_179_3 <| mc_3
/- 180 LeagueOfficeModel.known(II)I -/
theorem mw_180_0 : ∀ e ∈ mt_180_0, mx_Ok mx_MT mq_180 e.1 e.2 := 
  mc_1 (mk_p (ms_aload_n (k := 0) (by decide +kernel) rfl) rfl) <|
  mc_1 (mk_p (ms_iload_n (k := 1) (by decide +kernel) rfl) rfl) <|
  mc_1 (mk_c (k := mq_170) rfl ⟨mo_170, 52, 1348, none, ml_m_LeagueOfficeModel_52, Or.inr (Or.inr (Or.inl ⟨12, TX12, 78, by decide, rfl, rfl, (by decide +kernel), ⟨1, rfl, mx_npd (by decide +kernel)⟩, ml_in_1350, ml_se_31⟩))⟩) <|
  mc_1 (mk_p (ms_if_eq (off := (15)) (by decide +kernel) (by decide)) rfl) <|
  mc_1 (mk_p (ms_iload_n (k := 2) (by decide +kernel) rfl) rfl) <|
  mc_1 (mk_p (ms_iconst (n := 0) (by decide +kernel) (by decide +kernel)) rfl) <|
  mc_1 (mk_p (ms_aload_n (k := 0) (by decide +kernel) rfl) rfl) <|
  mc_1 (mk_p (ms_get (idx := 11) (w := 1453) (host := none) mx_c12 (by decide) ml_f_LeagueOfficeModel_11 (by decide +kernel)) rfl) <|
  mc_1 (mk_c (k := mq_163) rfl ⟨mo_163, 7, 1318, none, ml_m_LeagueOfficeModel_7, Or.inl ⟨rfl, (by decide +kernel), mx_npd (by decide +kernel), ml_st_1319⟩⟩) <| mc_0
theorem mw_180_1 : ∀ e ∈ mt_180_1, mx_Ok mx_MT mq_180 e.1 e.2 := 
  mc_1 (mk_p (ms_if_ne (off := (8)) (by decide +kernel) (by decide)) rfl) <|
  mc_1 (mk_p (ms_bipush (n := (-2)) (by decide +kernel) (by decide +kernel)) rfl) <|
  mc_1 (mk_p (ms_goto (off := (9)) (by decide +kernel) (by decide)) rfl) <|
  mc_1 (mk_p (ms_aload_n (k := 0) (by decide +kernel) rfl) rfl) <|
  mc_1 (mk_p (ms_iload_n (k := 1) (by decide +kernel) rfl) rfl) <|
  mc_1 (mk_p (ms_iload_n (k := 2) (by decide +kernel) rfl) rfl) <|
  mc_1 (mk_c (k := mq_179) rfl ⟨mo_179, 80, 1372, none, ml_m_LeagueOfficeModel_80, Or.inr (Or.inr (Or.inl ⟨12, TX12, 78, by decide, rfl, rfl, (by decide +kernel), ⟨2, rfl, mx_npd (by decide +kernel)⟩, ml_in_1374, ml_se_32⟩))⟩) <|
  mc_1 (mk_r (Or.inl ⟨rfl, by decide +kernel, _, rfl, mf_0⟩) rfl) <| mc_0
theorem mw_180 : ∀ ch ∈ mt_180, ∀ e ∈ ch, mx_Ok mx_MT mq_180 e.1 e.2 := mc_2 mw_180_0 <| mc_2 mw_180_1 <| mc_3
/- 181 LeagueOfficeModel.<init>()V -/
theorem mw_181_0 : ∀ e ∈ mt_181_0, mx_Ok mx_MT mq_181 e.1 e.2 := 
  mc_1 (mk_p (ms_aload_n (k := 0) (by decide +kernel) rfl) rfl) <|
  mc_1 (mk_p (ms_obj (idx := 84) 1380 103 104 (by decide +kernel) (by decide +kernel) (by decide +kernel) (by decide +kernel)) rfl) <|
  mc_1 (mk_p (ms_aload_n (k := 0) (by decide +kernel) rfl) rfl) <|
  mc_1 (mk_p (ms_bipush (n := 12) (by decide +kernel) (by decide +kernel)) rfl) <|
  mc_1 (mk_p (ms_newa (at' := .int) 128 (by decide) rfl (by decide +kernel) (by decide) (by decide +kernel)) rfl) <|
  mc_1 (mk_p (ms_putF (idx := 21) (w := 1455) mx_c12 (by decide) ml_f_LeagueOfficeModel_21 rfl rfl rfl rfl (by decide +kernel)) rfl) <|
  mc_1 (mk_p (ms_aload_n (k := 0) (by decide +kernel) rfl) rfl) <|
  mc_1 (mk_p (ms_bipush (n := 12) (by decide +kernel) (by decide +kernel)) rfl) <|
  mc_1 (mk_p (ms_newa (at' := .int) 128 (by decide) rfl (by decide +kernel) (by decide) (by decide +kernel)) rfl) <| mc_0
theorem mw_181_1 : ∀ e ∈ mt_181_1, mx_Ok mx_MT mq_181 e.1 e.2 := 
  mc_1 (mk_p (ms_putF (idx := 25) (w := 1456) mx_c12 (by decide) ml_f_LeagueOfficeModel_25 rfl rfl rfl rfl (by decide +kernel)) rfl) <|
  mc_1 (mk_p (ms_aload_n (k := 0) (by decide +kernel) rfl) rfl) <|
  mc_1 (mk_p (ms_bipush (n := 60) (by decide +kernel) (by decide +kernel)) rfl) <|
  mc_1 (mk_p (ms_newa (at' := .int) 128 (by decide) rfl (by decide +kernel) (by decide) (by decide +kernel)) rfl) <|
  mc_1 (mk_p (ms_putF (idx := 37) (w := 1458) mx_c12 (by decide) ml_f_LeagueOfficeModel_37 rfl rfl rfl rfl (by decide +kernel)) rfl) <|
  mc_1 (mk_p (ms_aload_n (k := 0) (by decide +kernel) rfl) rfl) <|
  mc_1 (mk_p (ms_bipush (n := 60) (by decide +kernel) (by decide +kernel)) rfl) <|
  mc_1 (mk_p (ms_newa (at' := .int) 128 (by decide) rfl (by decide +kernel) (by decide) (by decide +kernel)) rfl) <| mc_0
theorem mw_181_2 : ∀ e ∈ mt_181_2, mx_Ok mx_MT mq_181 e.1 e.2 := 
  mc_1 (mk_p (ms_putF (idx := 40) (w := 1459) mx_c12 (by decide) ml_f_LeagueOfficeModel_40 rfl rfl rfl rfl (by decide +kernel)) rfl) <|
  mc_1 (mk_p (ms_aload_n (k := 0) (by decide +kernel) rfl) rfl) <|
  mc_1 (mk_p (ms_bipush (n := 60) (by decide +kernel) (by decide +kernel)) rfl) <|
  mc_1 (mk_p (ms_newa (at' := .int) 128 (by decide) rfl (by decide +kernel) (by decide) (by decide +kernel)) rfl) <|
  mc_1 (mk_p (ms_putF (idx := 43) (w := 1460) mx_c12 (by decide) ml_f_LeagueOfficeModel_43 rfl rfl rfl rfl (by decide +kernel)) rfl) <|
  mc_1 (mk_p (ms_aload_n (k := 0) (by decide +kernel) rfl) rfl) <|
  mc_1 (mk_p (ms_bipush (n := 60) (by decide +kernel) (by decide +kernel)) rfl) <|
  mc_1 (mk_p (ms_newa (at' := .int) 128 (by decide) rfl (by decide +kernel) (by decide) (by decide +kernel)) rfl) <| mc_0
theorem mw_181_3 : ∀ e ∈ mt_181_3, mx_Ok mx_MT mq_181 e.1 e.2 := 
  mc_1 (mk_p (ms_putF (idx := 46) (w := 1461) mx_c12 (by decide) ml_f_LeagueOfficeModel_46 rfl rfl rfl rfl (by decide +kernel)) rfl) <|
  mc_1 (mk_p (ms_aload_n (k := 0) (by decide +kernel) rfl) rfl) <|
  mc_1 (mk_p (ms_bipush (n := 120) (by decide +kernel) (by decide +kernel)) rfl) <|
  mc_1 (mk_p (ms_newa (at' := .int) 128 (by decide) rfl (by decide +kernel) (by decide) (by decide +kernel)) rfl) <|
  mc_1 (mk_p (ms_putF (idx := 71) (w := 1463) mx_c12 (by decide) ml_f_LeagueOfficeModel_71 rfl rfl rfl rfl (by decide +kernel)) rfl) <|
  mc_1 (mk_p (ms_aload_n (k := 0) (by decide +kernel) rfl) rfl) <|
  mc_1 (mk_p (ms_bipush (n := 120) (by decide +kernel) (by decide +kernel)) rfl) <|
  mc_1 (mk_p (ms_newa (at' := .int) 128 (by decide) rfl (by decide +kernel) (by decide) (by decide +kernel)) rfl) <| mc_0
theorem mw_181_4 : ∀ e ∈ mt_181_4, mx_Ok mx_MT mq_181 e.1 e.2 := 
  mc_1 (mk_p (ms_putF (idx := 74) (w := 1464) mx_c12 (by decide) ml_f_LeagueOfficeModel_74 rfl rfl rfl rfl (by decide +kernel)) rfl) <|
  mc_1 (mk_p (ms_aload_n (k := 0) (by decide +kernel) rfl) rfl) <|
  mc_1 (mk_p (ms_bipush (n := 120) (by decide +kernel) (by decide +kernel)) rfl) <|
  mc_1 (mk_p (ms_newa (at' := .int) 128 (by decide) rfl (by decide +kernel) (by decide) (by decide +kernel)) rfl) <|
  mc_1 (mk_p (ms_putF (idx := 77) (w := 1465) mx_c12 (by decide) ml_f_LeagueOfficeModel_77 rfl rfl rfl rfl (by decide +kernel)) rfl) <|
  mc_1 (mk_p (ms_aload_n (k := 0) (by decide +kernel) rfl) rfl) <|
  mc_1 (mk_p (ms_sipush (n := 160) (by decide +kernel) (by decide +kernel)) rfl) <| mc_0
theorem mw_181_5 : ∀ e ∈ mt_181_5, mx_Ok mx_MT mq_181 e.1 e.2 := 
  mc_1 (mk_p (ms_newa (at' := .byte) 727 (by decide) rfl (by decide +kernel) (by decide) (by decide +kernel)) rfl) <|
  mc_1 (mk_p (ms_putF (idx := 90) (w := 1466) mx_c12 (by decide) ml_f_LeagueOfficeModel_90 rfl rfl rfl rfl (by decide +kernel)) rfl) <|
  mc_1 (mk_p (ms_aload_n (k := 0) (by decide +kernel) rfl) rfl) <|
  mc_1 (mk_p (ms_bipush (n := 28) (by decide +kernel) (by decide +kernel)) rfl) <|
  mc_1 (mk_p (ms_newa (at' := .int) 128 (by decide) rfl (by decide +kernel) (by decide) (by decide +kernel)) rfl) <|
  mc_1 (mk_p (ms_putF (idx := 94) (w := 1469) mx_c12 (by decide) ml_f_LeagueOfficeModel_94 rfl rfl rfl rfl (by decide +kernel)) rfl) <|
  mc_1 (mk_p (ms_aload_n (k := 0) (by decide +kernel) rfl) rfl) <|
  mc_1 (mk_p (ms_sipush (n := 1190) (by decide +kernel) (by decide +kernel)) rfl) <| mc_0
theorem mw_181_6 : ∀ e ∈ mt_181_6, mx_Ok mx_MT mq_181 e.1 e.2 := 
  mc_1 (mk_p (ms_newa (at' := .int) 128 (by decide) rfl (by decide +kernel) (by decide) (by decide +kernel)) rfl) <|
  mc_1 (mk_p (ms_putF (idx := 97) (w := 1470) mx_c12 (by decide) ml_f_LeagueOfficeModel_97 rfl rfl rfl rfl (by decide +kernel)) rfl) <|
  mc_1 (mk_p (ms_aload_n (k := 0) (by decide +kernel) rfl) rfl) <|
  mc_1 (mk_p (ms_sipush (n := 1190) (by decide +kernel) (by decide +kernel)) rfl) <|
  mc_1 (mk_p (ms_newa (at' := .int) 128 (by decide) rfl (by decide +kernel) (by decide) (by decide +kernel)) rfl) <|
  mc_1 (mk_p (ms_putF (idx := 100) (w := 1471) mx_c12 (by decide) ml_f_LeagueOfficeModel_100 rfl rfl rfl rfl (by decide +kernel)) rfl) <|
  mc_1 (mk_p (ms_aload_n (k := 0) (by decide +kernel) rfl) rfl) <| mc_0
theorem mw_181_7 : ∀ e ∈ mt_181_7, mx_Ok mx_MT mq_181 e.1 e.2 := 
  mc_1 (mk_p (ms_bipush (n := 20) (by decide +kernel) (by decide +kernel)) rfl) <|
  mc_1 (mk_p (ms_newa (at' := .int) 128 (by decide) rfl (by decide +kernel) (by decide) (by decide +kernel)) rfl) <|
  mc_1 (mk_p (ms_putF (idx := 103) (w := 1480) mx_c12 (by decide) ml_f_LeagueOfficeModel_103 rfl rfl rfl rfl (by decide +kernel)) rfl) <|
  mc_1 (mk_p (ms_aload_n (k := 0) (by decide +kernel) rfl) rfl) <|
  mc_1 (mk_p (ms_bipush (n := 20) (by decide +kernel) (by decide +kernel)) rfl) <|
  mc_1 (mk_p (ms_newa (at' := .int) 128 (by decide) rfl (by decide +kernel) (by decide) (by decide +kernel)) rfl) <|
  mc_1 (mk_p (ms_putF (idx := 106) (w := 1481) mx_c12 (by decide) ml_f_LeagueOfficeModel_106 rfl rfl rfl rfl (by decide +kernel)) rfl) <|
  mc_1 (mk_p (ms_aload_n (k := 0) (by decide +kernel) rfl) rfl) <| mc_0
theorem mw_181_8 : ∀ e ∈ mt_181_8, mx_Ok mx_MT mq_181 e.1 e.2 := 
  mc_1 (mk_p (ms_bipush (n := 6) (by decide +kernel) (by decide +kernel)) rfl) <|
  mc_1 (mk_p (ms_newa (at' := .int) 128 (by decide) rfl (by decide +kernel) (by decide) (by decide +kernel)) rfl) <|
  mc_1 (mk_p (ms_putF (idx := 109) (w := 1482) mx_c12 (by decide) ml_f_LeagueOfficeModel_109 rfl rfl rfl rfl (by decide +kernel)) rfl) <|
  mc_1 (mk_p (ms_aload_n (k := 0) (by decide +kernel) rfl) rfl) <|
  mc_1 (mk_p (ms_sipush (n := 170) (by decide +kernel) (by decide +kernel)) rfl) <|
  mc_1 (mk_p (ms_newa (at' := .int) 128 (by decide) rfl (by decide +kernel) (by decide) (by decide +kernel)) rfl) <|
  mc_1 (mk_p (ms_putF (idx := 112) (w := 1483) mx_c12 (by decide) ml_f_LeagueOfficeModel_112 rfl rfl rfl rfl (by decide +kernel)) rfl) <| mc_0
theorem mw_181_9 : ∀ e ∈ mt_181_9, mx_Ok mx_MT mq_181 e.1 e.2 := 
  mc_1 (mk_p (ms_aload_n (k := 0) (by decide +kernel) rfl) rfl) <|
  mc_1 (mk_p (ms_bipush (n := 30) (by decide +kernel) (by decide +kernel)) rfl) <|
  mc_1 (mk_p (ms_newa (at' := .int) 128 (by decide) rfl (by decide +kernel) (by decide) (by decide +kernel)) rfl) <|
  mc_1 (mk_p (ms_putF (idx := 115) (w := 1485) mx_c12 (by decide) ml_f_LeagueOfficeModel_115 rfl rfl rfl rfl (by decide +kernel)) rfl) <|
  mc_1 (mk_p (ms_aload_n (k := 0) (by decide +kernel) rfl) rfl) <|
  mc_1 (mk_p (ms_bipush (n := 30) (by decide +kernel) (by decide +kernel)) rfl) <|
  mc_1 (mk_p (ms_newa (at' := .int) 128 (by decide) rfl (by decide +kernel) (by decide) (by decide +kernel)) rfl) <|
  mc_1 (mk_p (ms_putF (idx := 118) (w := 1486) mx_c12 (by decide) ml_f_LeagueOfficeModel_118 rfl rfl rfl rfl (by decide +kernel)) rfl) <| mc_0
theorem mw_181_10 : ∀ e ∈ mt_181_10, mx_Ok mx_MT mq_181 e.1 e.2 := 
  mc_1 (mk_p (ms_aload_n (k := 0) (by decide +kernel) rfl) rfl) <|
  mc_1 (mk_p (ms_bipush (n := 30) (by decide +kernel) (by decide +kernel)) rfl) <|
  mc_1 (mk_p (ms_newa (at' := .int) 128 (by decide) rfl (by decide +kernel) (by decide) (by decide +kernel)) rfl) <|
  mc_1 (mk_p (ms_putF (idx := 121) (w := 1487) mx_c12 (by decide) ml_f_LeagueOfficeModel_121 rfl rfl rfl rfl (by decide +kernel)) rfl) <|
  mc_1 (mk_p (ms_aload_n (k := 0) (by decide +kernel) rfl) rfl) <|
  mc_1 (mk_p (ms_bipush (n := 12) (by decide +kernel) (by decide +kernel)) rfl) <|
  mc_1 (mk_p (ms_newa (at' := .int) 128 (by decide) rfl (by decide +kernel) (by decide) (by decide +kernel)) rfl) <|
  mc_1 (mk_p (ms_putF (idx := 124) (w := 1488) mx_c12 (by decide) ml_f_LeagueOfficeModel_124 rfl rfl rfl rfl (by decide +kernel)) rfl) <| mc_0
theorem mw_181_11 : ∀ e ∈ mt_181_11, mx_Ok mx_MT mq_181 e.1 e.2 := 
  mc_1 (mk_p (ms_aload_n (k := 0) (by decide +kernel) rfl) rfl) <|
  mc_1 (mk_p (ms_bipush (n := 12) (by decide +kernel) (by decide +kernel)) rfl) <|
  mc_1 (mk_p (ms_newa (at' := .int) 128 (by decide) rfl (by decide +kernel) (by decide) (by decide +kernel)) rfl) <|
  mc_1 (mk_p (ms_putF (idx := 127) (w := 1489) mx_c12 (by decide) ml_f_LeagueOfficeModel_127 rfl rfl rfl rfl (by decide +kernel)) rfl) <|
  mc_1 (mk_p (ms_aload_n (k := 0) (by decide +kernel) rfl) rfl) <|
  mc_1 (mk_p (ms_bipush (n := 12) (by decide +kernel) (by decide +kernel)) rfl) <|
  mc_1 (mk_p (ms_newa (at' := .int) 128 (by decide) rfl (by decide +kernel) (by decide) (by decide +kernel)) rfl) <|
  mc_1 (mk_p (ms_putF (idx := 130) (w := 1490) mx_c12 (by decide) ml_f_LeagueOfficeModel_130 rfl rfl rfl rfl (by decide +kernel)) rfl) <| mc_0
theorem mw_181_12 : ∀ e ∈ mt_181_12, mx_Ok mx_MT mq_181 e.1 e.2 := 
  mc_1 (mk_p (ms_aload_n (k := 0) (by decide +kernel) rfl) rfl) <|
  mc_1 (mk_p (ms_bipush (n := 12) (by decide +kernel) (by decide +kernel)) rfl) <|
  mc_1 (mk_p (ms_newa (at' := .long) 320 (by decide) rfl (by decide +kernel) (by decide) (by decide +kernel)) rfl) <|
  mc_1 (mk_p (ms_putF (idx := 133) (w := 1491) mx_c12 (by decide) ml_f_LeagueOfficeModel_133 rfl rfl rfl rfl (by decide +kernel)) rfl) <|
  mc_1 (mk_p (ms_aload_n (k := 0) (by decide +kernel) rfl) rfl) <|
  mc_1 (mk_p (ms_bipush (n := 12) (by decide +kernel) (by decide +kernel)) rfl) <|
  mc_1 (mk_p (ms_newa (at' := .long) 320 (by decide) rfl (by decide +kernel) (by decide) (by decide +kernel)) rfl) <|
  mc_1 (mk_p (ms_putF (idx := 137) (w := 1492) mx_c12 (by decide) ml_f_LeagueOfficeModel_137 rfl rfl rfl rfl (by decide +kernel)) rfl) <| mc_0
theorem mw_181_13 : ∀ e ∈ mt_181_13, mx_Ok mx_MT mq_181 e.1 e.2 := 
  mc_1 (mk_p (ms_aload_n (k := 0) (by decide +kernel) rfl) rfl) <|
  mc_1 (mk_p (ms_bipush (n := 40) (by decide +kernel) (by decide +kernel)) rfl) <|
  mc_1 (mk_p (ms_newa (at' := .int) 128 (by decide) rfl (by decide +kernel) (by decide) (by decide +kernel)) rfl) <|
  mc_1 (mk_p (ms_putF (idx := 140) (w := 1495) mx_c12 (by decide) ml_f_LeagueOfficeModel_140 rfl rfl rfl rfl (by decide +kernel)) rfl) <|
  mc_1 (mk_p (ms_aload_n (k := 0) (by decide +kernel) rfl) rfl) <|
  mc_1 (mk_p (ms_bipush (n := 40) (by decide +kernel) (by decide +kernel)) rfl) <|
  mc_1 (mk_p (ms_newa (at' := .int) 128 (by decide) rfl (by decide +kernel) (by decide) (by decide +kernel)) rfl) <|
  mc_1 (mk_p (ms_putF (idx := 143) (w := 1496) mx_c12 (by decide) ml_f_LeagueOfficeModel_143 rfl rfl rfl rfl (by decide +kernel)) rfl) <| mc_0
theorem mw_181_14 : ∀ e ∈ mt_181_14, mx_Ok mx_MT mq_181 e.1 e.2 := 
  mc_1 (mk_p (ms_aload_n (k := 0) (by decide +kernel) rfl) rfl) <|
  mc_1 (mk_p (ms_bipush (n := 40) (by decide +kernel) (by decide +kernel)) rfl) <|
  mc_1 (mk_p (ms_newa (at' := .int) 128 (by decide) rfl (by decide +kernel) (by decide) (by decide +kernel)) rfl) <|
  mc_1 (mk_p (ms_putF (idx := 146) (w := 1497) mx_c12 (by decide) ml_f_LeagueOfficeModel_146 rfl rfl rfl rfl (by decide +kernel)) rfl) <|
  mc_1 (mk_p (ms_aload_n (k := 0) (by decide +kernel) rfl) rfl) <|
  mc_1 (mk_p (ms_bipush (n := 40) (by decide +kernel) (by decide +kernel)) rfl) <|
  mc_1 (mk_p (ms_newa (at' := .int) 128 (by decide) rfl (by decide +kernel) (by decide) (by decide +kernel)) rfl) <|
  mc_1 (mk_p (ms_putF (idx := 149) (w := 1499) mx_c12 (by decide) ml_f_LeagueOfficeModel_149 rfl rfl rfl rfl (by decide +kernel)) rfl) <| mc_0
theorem mw_181_15 : ∀ e ∈ mt_181_15, mx_Ok mx_MT mq_181 e.1 e.2 := 
  mc_1 (mk_p (ms_aload_n (k := 0) (by decide +kernel) rfl) rfl) <|
  mc_1 (mk_p (ms_bipush (n := 40) (by decide +kernel) (by decide +kernel)) rfl) <|
  mc_1 (mk_p (ms_newa (at' := .int) 128 (by decide) rfl (by decide +kernel) (by decide) (by decide +kernel)) rfl) <|
  mc_1 (mk_p (ms_putF (idx := 152) (w := 1500) mx_c12 (by decide) ml_f_LeagueOfficeModel_152 rfl rfl rfl rfl (by decide +kernel)) rfl) <|
  mc_1 (mk_p (ms_aload_n (k := 0) (by decide +kernel) rfl) rfl) <|
  mc_1 (mk_p (ms_bipush (n := 40) (by decide +kernel) (by decide +kernel)) rfl) <|
  mc_1 (mk_p (ms_newa (at' := .int) 128 (by decide) rfl (by decide +kernel) (by decide) (by decide +kernel)) rfl) <|
  mc_1 (mk_p (ms_putF (idx := 155) (w := 1501) mx_c12 (by decide) ml_f_LeagueOfficeModel_155 rfl rfl rfl rfl (by decide +kernel)) rfl) <| mc_0
theorem mw_181_16 : ∀ e ∈ mt_181_16, mx_Ok mx_MT mq_181 e.1 e.2 := 
  mc_1 (mk_p (ms_aload_n (k := 0) (by decide +kernel) rfl) rfl) <|
  mc_1 (mk_p (ms_bipush (n := 60) (by decide +kernel) (by decide +kernel)) rfl) <|
  mc_1 (mk_p (ms_newa (at' := .int) 128 (by decide) rfl (by decide +kernel) (by decide) (by decide +kernel)) rfl) <|
  mc_1 (mk_p (ms_putF (idx := 158) (w := 1503) mx_c12 (by decide) ml_f_LeagueOfficeModel_158 rfl rfl rfl rfl (by decide +kernel)) rfl) <|
  mc_1 (mk_p (ms_aload_n (k := 0) (by decide +kernel) rfl) rfl) <|
  mc_1 (mk_p (ms_bipush (n := 60) (by decide +kernel) (by decide +kernel)) rfl) <|
  mc_1 (mk_p (ms_newa (at' := .int) 128 (by decide) rfl (by decide +kernel) (by decide) (by decide +kernel)) rfl) <|
  mc_1 (mk_p (ms_putF (idx := 161) (w := 1504) mx_c12 (by decide) ml_f_LeagueOfficeModel_161 rfl rfl rfl rfl (by decide +kernel)) rfl) <| mc_0
theorem mw_181_17 : ∀ e ∈ mt_181_17, mx_Ok mx_MT mq_181 e.1 e.2 := 
  mc_1 (mk_p (ms_aload_n (k := 0) (by decide +kernel) rfl) rfl) <|
  mc_1 (mk_p (ms_sipush (n := 200) (by decide +kernel) (by decide +kernel)) rfl) <|
  mc_1 (mk_p (ms_newa (at' := .int) 128 (by decide) rfl (by decide +kernel) (by decide) (by decide +kernel)) rfl) <|
  mc_1 (mk_p (ms_putF (idx := 164) (w := 1505) mx_c12 (by decide) ml_f_LeagueOfficeModel_164 rfl rfl rfl rfl (by decide +kernel)) rfl) <|
  mc_1 (mk_p (ms_aload_n (k := 0) (by decide +kernel) rfl) rfl) <|
  mc_1 (mk_p (ms_bipush (n := 40) (by decide +kernel) (by decide +kernel)) rfl) <|
  mc_1 (mk_p (ms_newa (at' := .int) 128 (by decide) rfl (by decide +kernel) (by decide) (by decide +kernel)) rfl) <|
  mc_1 (mk_p (ms_putF (idx := 167) (w := 1506) mx_c12 (by decide) ml_f_LeagueOfficeModel_167 rfl rfl rfl rfl (by decide +kernel)) rfl) <| mc_0
theorem mw_181_18 : ∀ e ∈ mt_181_18, mx_Ok mx_MT mq_181 e.1 e.2 := 
  mc_1 (mk_p (ms_aload_n (k := 0) (by decide +kernel) rfl) rfl) <|
  mc_1 (mk_p (ms_bipush (n := 60) (by decide +kernel) (by decide +kernel)) rfl) <|
  mc_1 (mk_p (ms_newa (at' := .boolean) 1687 (by decide) rfl (by decide +kernel) (by decide) (by decide +kernel)) rfl) <|
  mc_1 (mk_p (ms_putF (idx := 170) (w := 1507) mx_c12 (by decide) ml_f_LeagueOfficeModel_170 rfl rfl rfl rfl (by decide +kernel)) rfl) <|
  mc_1 (mk_p (ms_aload_n (k := 0) (by decide +kernel) rfl) rfl) <|
  mc_1 (mk_p (ms_bipush (n := 12) (by decide +kernel) (by decide +kernel)) rfl) <|
  mc_1 (mk_p (ms_newa (at' := .boolean) 1687 (by decide) rfl (by decide +kernel) (by decide) (by decide +kernel)) rfl) <|
  mc_1 (mk_p (ms_putF (idx := 174) (w := 1508) mx_c12 (by decide) ml_f_LeagueOfficeModel_174 rfl rfl rfl rfl (by decide +kernel)) rfl) <| mc_0
theorem mw_181_19 : ∀ e ∈ mt_181_19, mx_Ok mx_MT mq_181 e.1 e.2 := 
  mc_1 (mk_p (ms_aload_n (k := 0) (by decide +kernel) rfl) rfl) <|
  mc_1 (mk_p (ms_sipush (n := 720) (by decide +kernel) (by decide +kernel)) rfl) <|
  mc_1 (mk_p (ms_newa (at' := .boolean) 1687 (by decide) rfl (by decide +kernel) (by decide) (by decide +kernel)) rfl) <|
  mc_1 (mk_p (ms_putF (idx := 177) (w := 1509) mx_c12 (by decide) ml_f_LeagueOfficeModel_177 rfl rfl rfl rfl (by decide +kernel)) rfl) <|
  mc_1 (mk_p (ms_aload_n (k := 0) (by decide +kernel) rfl) rfl) <|
  mc_1 (mk_p (ms_sipush (n := 720) (by decide +kernel) (by decide +kernel)) rfl) <|
  mc_1 (mk_p (ms_newa (at' := .int) 128 (by decide) rfl (by decide +kernel) (by decide) (by decide +kernel)) rfl) <| mc_0
theorem mw_181_20 : ∀ e ∈ mt_181_20, mx_Ok mx_MT mq_181 e.1 e.2 := 
  mc_1 (mk_p (ms_putF (idx := 180) (w := 1510) mx_c12 (by decide) ml_f_LeagueOfficeModel_180 rfl rfl rfl rfl (by decide +kernel)) rfl) <|
  mc_1 (mk_p (ms_aload_n (k := 0) (by decide +kernel) rfl) rfl) <|
  mc_1 (mk_p (ms_sipush (n := 720) (by decide +kernel) (by decide +kernel)) rfl) <|
  mc_1 (mk_p (ms_newa (at' := .int) 128 (by decide) rfl (by decide +kernel) (by decide) (by decide +kernel)) rfl) <|
  mc_1 (mk_p (ms_putF (idx := 183) (w := 1511) mx_c12 (by decide) ml_f_LeagueOfficeModel_183 rfl rfl rfl rfl (by decide +kernel)) rfl) <|
  mc_1 (mk_p (ms_aload_n (k := 0) (by decide +kernel) rfl) rfl) <|
  mc_1 (mk_p (ms_sipush (n := 720) (by decide +kernel) (by decide +kernel)) rfl) <| mc_0
theorem mw_181_21 : ∀ e ∈ mt_181_21, mx_Ok mx_MT mq_181 e.1 e.2 := 
  mc_1 (mk_p (ms_newa (at' := .int) 128 (by decide) rfl (by decide +kernel) (by decide) (by decide +kernel)) rfl) <|
  mc_1 (mk_p (ms_putF (idx := 186) (w := 1512) mx_c12 (by decide) ml_f_LeagueOfficeModel_186 rfl rfl rfl rfl (by decide +kernel)) rfl) <|
  mc_1 (mk_p (ms_aload_n (k := 0) (by decide +kernel) rfl) rfl) <|
  mc_1 (mk_p (ms_sipush (n := 720) (by decide +kernel) (by decide +kernel)) rfl) <|
  mc_1 (mk_p (ms_newa (at' := .int) 128 (by decide) rfl (by decide +kernel) (by decide) (by decide +kernel)) rfl) <|
  mc_1 (mk_p (ms_putF (idx := 189) (w := 1513) mx_c12 (by decide) ml_f_LeagueOfficeModel_189 rfl rfl rfl rfl (by decide +kernel)) rfl) <|
  mc_1 (mk_p (ms_aload_n (k := 0) (by decide +kernel) rfl) rfl) <|
  mc_1 (mk_p (ms_bipush (n := 60) (by decide +kernel) (by decide +kernel)) rfl) <| mc_0
theorem mw_181_22 : ∀ e ∈ mt_181_22, mx_Ok mx_MT mq_181 e.1 e.2 := 
  mc_1 (mk_p (ms_newa (at' := .int) 128 (by decide) rfl (by decide +kernel) (by decide) (by decide +kernel)) rfl) <|
  mc_1 (mk_p (ms_putF (idx := 49) (w := 1514) mx_c12 (by decide) ml_f_LeagueOfficeModel_49 rfl rfl rfl rfl (by decide +kernel)) rfl) <|
  mc_1 (mk_p (ms_aload_n (k := 0) (by decide +kernel) rfl) rfl) <|
  mc_1 (mk_p (ms_bipush (n := 60) (by decide +kernel) (by decide +kernel)) rfl) <|
  mc_1 (mk_p (ms_newa (at' := .int) 128 (by decide) rfl (by decide +kernel) (by decide) (by decide +kernel)) rfl) <|
  mc_1 (mk_p (ms_putF (idx := 192) (w := 1516) mx_c12 (by decide) ml_f_LeagueOfficeModel_192 rfl rfl rfl rfl (by decide +kernel)) rfl) <|
  mc_1 (mk_p (ms_aload_n (k := 0) (by decide +kernel) rfl) rfl) <|
  mc_1 (mk_p (ms_sipush (n := 729) (by decide +kernel) (by decide +kernel)) rfl) <| mc_0
theorem mw_181_23 : ∀ e ∈ mt_181_23, mx_Ok mx_MT mq_181 e.1 e.2 := 
  mc_1 (mk_p (ms_newa (at' := .int) 128 (by decide) rfl (by decide +kernel) (by decide) (by decide +kernel)) rfl) <|
  mc_1 (mk_p (ms_putF (idx := 195) (w := 1517) mx_c12 (by decide) ml_f_LeagueOfficeModel_195 rfl rfl rfl rfl (by decide +kernel)) rfl) <|
  mc_1 (mk_p (ms_aload_n (k := 0) (by decide +kernel) rfl) rfl) <|
  mc_1 (mk_p (ms_sipush (n := 729) (by decide +kernel) (by decide +kernel)) rfl) <|
  mc_1 (mk_p (ms_newa (at' := .long) 320 (by decide) rfl (by decide +kernel) (by decide) (by decide +kernel)) rfl) <|
  mc_1 (mk_p (ms_putF (idx := 198) (w := 1518) mx_c12 (by decide) ml_f_LeagueOfficeModel_198 rfl rfl rfl rfl (by decide +kernel)) rfl) <| mc_0
theorem mw_181_24 : ∀ e ∈ mt_181_24, mx_Ok mx_MT mq_181 e.1 e.2 := 
  mc_1 (mk_p (ms_aload_n (k := 0) (by decide +kernel) rfl) rfl) <|
  mc_1 (mk_p (ms_bipush (n := 12) (by decide +kernel) (by decide +kernel)) rfl) <|
  mc_1 (mk_p (ms_newa (at' := .long) 320 (by decide) rfl (by decide +kernel) (by decide) (by decide +kernel)) rfl) <|
  mc_1 (mk_p (ms_putF (idx := 201) (w := 1519) mx_c12 (by decide) ml_f_LeagueOfficeModel_201 rfl rfl rfl rfl (by decide +kernel)) rfl) <|
  mc_1 (mk_p (ms_aload_n (k := 0) (by decide +kernel) rfl) rfl) <|
  mc_1 (mk_p (ms_bipush (n := 12) (by decide +kernel) (by decide +kernel)) rfl) <|
  mc_1 (mk_p (ms_newa (at' := .int) 128 (by decide) rfl (by decide +kernel) (by decide) (by decide +kernel)) rfl) <|
  mc_1 (mk_p (ms_putF (idx := 204) (w := 1520) mx_c12 (by decide) ml_f_LeagueOfficeModel_204 rfl rfl rfl rfl (by decide +kernel)) rfl) <| mc_0
theorem mw_181_25 : ∀ e ∈ mt_181_25, mx_Ok mx_MT mq_181 e.1 e.2 := 
  mc_1 (mk_p (ms_aload_n (k := 0) (by decide +kernel) rfl) rfl) <|
  mc_1 (mk_p (ms_bipush (n := 12) (by decide +kernel) (by decide +kernel)) rfl) <|
  mc_1 (mk_p (ms_newa (at' := .int) 128 (by decide) rfl (by decide +kernel) (by decide) (by decide +kernel)) rfl) <|
  mc_1 (mk_p (ms_putF (idx := 207) (w := 1521) mx_c12 (by decide) ml_f_LeagueOfficeModel_207 rfl rfl rfl rfl (by decide +kernel)) rfl) <|
  mc_1 (mk_p (ms_aload_n (k := 0) (by decide +kernel) rfl) rfl) <|
  mc_1 (mk_p (ms_bipush (n := 12) (by decide +kernel) (by decide +kernel)) rfl) <|
  mc_1 (mk_p (ms_newa (at' := .int) 128 (by decide) rfl (by decide +kernel) (by decide) (by decide +kernel)) rfl) <|
  mc_1 (mk_p (ms_putF (idx := 210) (w := 1522) mx_c12 (by decide) ml_f_LeagueOfficeModel_210 rfl rfl rfl rfl (by decide +kernel)) rfl) <| mc_0
theorem mw_181_26 : ∀ e ∈ mt_181_26, mx_Ok mx_MT mq_181 e.1 e.2 := 
  mc_1 (mk_p (ms_aload_n (k := 0) (by decide +kernel) rfl) rfl) <|
  mc_1 (mk_p (ms_bipush (n := 6) (by decide +kernel) (by decide +kernel)) rfl) <|
  mc_1 (mk_p (ms_newa (at' := .int) 128 (by decide) rfl (by decide +kernel) (by decide) (by decide +kernel)) rfl) <|
  mc_1 (mk_p (ms_putF (idx := 213) (w := 1524) mx_c12 (by decide) ml_f_LeagueOfficeModel_213 rfl rfl rfl rfl (by decide +kernel)) rfl) <|
  mc_1 (mk_p (ms_aload_n (k := 0) (by decide +kernel) rfl) rfl) <|
  mc_1 (mk_p (ms_bipush (n := 6) (by decide +kernel) (by decide +kernel)) rfl) <|
  mc_1 (mk_p (ms_newa (at' := .int) 128 (by decide) rfl (by decide +kernel) (by decide) (by decide +kernel)) rfl) <|
  mc_1 (mk_p (ms_putF (idx := 216) (w := 1525) mx_c12 (by decide) ml_f_LeagueOfficeModel_216 rfl rfl rfl rfl (by decide +kernel)) rfl) <| mc_0
theorem mw_181_27 : ∀ e ∈ mt_181_27, mx_Ok mx_MT mq_181 e.1 e.2 := 
  mc_1 (mk_p (ms_aload_n (k := 0) (by decide +kernel) rfl) rfl) <|
  mc_1 (mk_p (ms_iconst (n := 4) (by decide +kernel) (by decide +kernel)) rfl) <|
  mc_1 (mk_p (ms_newa (at' := .int) 128 (by decide) rfl (by decide +kernel) (by decide) (by decide +kernel)) rfl) <|
  mc_1 (mk_p (ms_putF (idx := 219) (w := 1526) mx_c12 (by decide) ml_f_LeagueOfficeModel_219 rfl rfl rfl rfl (by decide +kernel)) rfl) <|
  mc_1 (mk_p (ms_aload_n (k := 0) (by decide +kernel) rfl) rfl) <|
  mc_1 (mk_p (ms_iconst (n := 4) (by decide +kernel) (by decide +kernel)) rfl) <|
  mc_1 (mk_p (ms_newa (at' := .int) 128 (by decide) rfl (by decide +kernel) (by decide) (by decide +kernel)) rfl) <|
  mc_1 (mk_p (ms_putF (idx := 222) (w := 1527) mx_c12 (by decide) ml_f_LeagueOfficeModel_222 rfl rfl rfl rfl (by decide +kernel)) rfl) <|
  mc_1 (mk_p (ms_aload_n (k := 0) (by decide +kernel) rfl) rfl) <|
  mc_1 (mk_p (ms_sipush (n := 160) (by decide +kernel) (by decide +kernel)) rfl) <| mc_0
theorem mw_181_28 : ∀ e ∈ mt_181_28, mx_Ok mx_MT mq_181 e.1 e.2 := 
  mc_1 (mk_p (ms_newa (at' := .int) 128 (by decide) rfl (by decide +kernel) (by decide) (by decide +kernel)) rfl) <|
  mc_1 (mk_p (ms_putF (idx := 225) (w := 1528) mx_c12 (by decide) ml_f_LeagueOfficeModel_225 rfl rfl rfl rfl (by decide +kernel)) rfl) <|
  mc_1 (mk_p (ms_aload_n (k := 0) (by decide +kernel) rfl) rfl) <|
  mc_1 (mk_p (ms_bipush (n := 40) (by decide +kernel) (by decide +kernel)) rfl) <|
  mc_1 (mk_p (ms_newa (at' := .int) 128 (by decide) rfl (by decide +kernel) (by decide) (by decide +kernel)) rfl) <|
  mc_1 (mk_p (ms_putF (idx := 228) (w := 1529) mx_c12 (by decide) ml_f_LeagueOfficeModel_228 rfl rfl rfl rfl (by decide +kernel)) rfl) <|
  mc_1 (mk_p (ms_iconst (n := 0) (by decide +kernel) (by decide +kernel)) rfl) <| mc_0
theorem mw_181_29 : ∀ e ∈ mt_181_29, mx_Ok mx_MT mq_181 e.1 e.2 := 
  mc_1 (mk_p (ms_istore_n (k := 1) (by decide +kernel) rfl (by decide)) rfl) <|
  mc_1 (mk_p (ms_iload_n (k := 1) (by decide +kernel) rfl) rfl) <|
  mc_1 (mk_p (ms_iconst (n := 4) (by decide +kernel) (by decide +kernel)) rfl) <|
  mc_1 (mk_p (ms_icmp_ge (off := (16)) (by decide +kernel) (by decide)) rfl) <|
  mc_1 (mk_p (ms_aload_n (k := 0) (by decide +kernel) rfl) rfl) <|
  mc_1 (mk_p (ms_get (idx := 219) (w := 1526) (host := none) mx_c12 (by decide) ml_f_LeagueOfficeModel_219 (by decide +kernel)) rfl) <|
  mc_1 (mk_p (ms_iload_n (k := 1) (by decide +kernel) rfl) rfl) <|
  mc_1 (mk_p (ms_iconst (n := (-1)) (by decide +kernel) (by decide +kernel)) rfl) <|
  mc_1 (mk_p (ms_ast (Or.inl ⟨rfl, by decide +kernel⟩)) rfl) <|
  mc_1 (mk_p (ms_iinc (n := (1)) (by decide +kernel) (by decide +kernel) (by decide)) rfl) <| mc_0
theorem mw_181_30 : ∀ e ∈ mt_181_30, mx_Ok mx_MT mq_181 e.1 e.2 := 
  mc_1 (mk_p (ms_goto (off := (-15)) (by decide +kernel) (by decide)) rfl) <|
  mc_1 (mk_p (ms_gets (q := ("LeagueOfficeModel", "FIRST", "[B", .ref 1005)) (idx := 231) (w := 1381) (host := none) rfl ml_f_LeagueOfficeModel_231 (by decide +kernel)) rfl) <|
  mc_1 (mk_p (ms_astore_n (k := 1) (by decide +kernel) rfl (by decide)) rfl) <|
  mc_1 (mk_p (ms_iconst (n := 0) (by decide +kernel) (by decide +kernel)) rfl) <|
  mc_1 (mk_p (ms_istore_n (k := 2) (by decide +kernel) rfl (by decide)) rfl) <|
  mc_1 (mk_p (ms_iload_n (k := 2) (by decide +kernel) rfl) rfl) <|
  mc_1 (mk_p (ms_aload_n (k := 1) (by decide +kernel) rfl) rfl) <|
  mc_1 (mk_p (ms_alen (by decide +kernel)) rfl) <|
  mc_1 (mk_p (ms_icmp_ge (off := (18)) (by decide +kernel) (by decide)) rfl) <|
  mc_1 (mk_p (ms_aload_n (k := 0) (by decide +kernel) rfl) rfl) <| mc_0
theorem mw_181_31 : ∀ e ∈ mt_181_31, mx_Ok mx_MT mq_181 e.1 e.2 := 
  mc_1 (mk_p (ms_get (idx := 90) (w := 1466) (host := none) mx_c12 (by decide) ml_f_LeagueOfficeModel_90 (by decide +kernel)) rfl) <|
  mc_1 (mk_p (ms_iload_n (k := 2) (by decide +kernel) rfl) rfl) <|
  mc_1 (mk_p (ms_aload_n (k := 1) (by decide +kernel) rfl) rfl) <|
  mc_1 (mk_p (ms_iload_n (k := 2) (by decide +kernel) rfl) rfl) <|
  mc_1 (mk_p (ms_ald (Or.inr (Or.inl ⟨rfl, by decide +kernel⟩))) rfl) <|
  mc_1 (mk_p (ms_ast (Or.inr (Or.inl ⟨rfl, by decide +kernel⟩))) rfl) <|
  mc_1 (mk_p (ms_iinc (n := (1)) (by decide +kernel) (by decide +kernel) (by decide)) rfl) <|
  mc_1 (mk_p (ms_goto (off := (-18)) (by decide +kernel) (by decide)) rfl) <|
  mc_1 (mk_p (ms_aload_n (k := 0) (by decide +kernel) rfl) rfl) <|
  mc_1 (mk_p (ms_aload_n (k := 1) (by decide +kernel) rfl) rfl) <| mc_0
theorem mw_181_32 : ∀ e ∈ mt_181_32, mx_Ok mx_MT mq_181 e.1 e.2 := 
  mc_1 (mk_p (ms_alen (by decide +kernel)) rfl) <|
  mc_1 (mk_p (ms_put (idx := 234) (w := 1467) (host := none) mx_c12 (by decide) ml_f_LeagueOfficeModel_234 rfl rfl (by decide +kernel)) rfl) <|
  mc_1 (mk_p (ms_aload_n (k := 0) (by decide +kernel) rfl) rfl) <|
  mc_1 (mk_c (k := mq_198) rfl ⟨mo_198, 237, 1383, none, ml_m_LeagueOfficeModel_237, Or.inr (Or.inr (Or.inl ⟨12, TX12, 78, by decide, rfl, rfl, (by decide +kernel), ⟨0, rfl, mx_npd (by decide +kernel)⟩, ml_in_1385, ml_se_33⟩))⟩) <|
  mc_1 (mk_p (ms_pop (by decide +kernel)) rfl) <|
  mc_1 (mk_r (Or.inr (Or.inr (Or.inr ⟨rfl, by decide +kernel, rfl⟩))) rfl) <| mc_0
theorem mw_181 : ∀ ch ∈ mt_181, ∀ e ∈ ch, mx_Ok mx_MT mq_181 e.1 e.2 := mc_2 mw_181_0 <| mc_2 mw_181_1 <| mc_2 mw_181_2 <| mc_2 mw_181_3 <| mc_2 mw_181_4 <| mc_2 mw_181_5 <| mc_2 mw_181_6 <| mc_2 mw_181_7 <| mc_2 mw_181_8 <| mc_2 mw_181_9 <| mc_2 mw_181_10 <| mc_2 mw_181_11 <| mc_2 mw_181_12 <| mc_2 mw_181_13 <| mc_2 mw_181_14 <| mc_2 mw_181_15 <| mc_2 mw_181_16 <| mc_2 mw_181_17 <| mc_2 mw_181_18 <| mc_2 mw_181_19 <| mc_2 mw_181_20 <| mc_2 mw_181_21 <| mc_2 mw_181_22 <| mc_2 mw_181_23 <| mc_2 mw_181_24 <| mc_2 mw_181_25 <| mc_2 mw_181_26 <| mc_2 mw_181_27 <| mc_2 mw_181_28 <| mc_2 mw_181_29 <| mc_2 mw_181_30 <| mc_2 mw_181_31 <| mc_2 mw_181_32 <| mc_3
/- 182 LeagueOfficeModel.feed(IJ)I -/
theorem mw_182_0 : ∀ e ∈ mt_182_0, mx_Ok mx_MT mq_182 e.1 e.2 := 
  mc_1 (mk_p (ms_iload_n (k := 1) (by decide +kernel) rfl) rfl) <|
  mc_1 (mk_p (ms_iconst (n := 1) (by decide +kernel) (by decide +kernel)) rfl) <|
  mc_1 (mk_p (ms_bipush (n := 8) (by decide +kernel) (by decide +kernel)) rfl) <|
  mc_1 (mk_c (k := mq_163) rfl ⟨mo_163, 7, 1318, none, ml_m_LeagueOfficeModel_7, Or.inl ⟨rfl, (by decide +kernel), mx_npd (by decide +kernel), ml_st_1319⟩⟩) <|
  mc_1 (mk_p (ms_if_ne (off := (6)) (by decide +kernel) (by decide)) rfl) <|
  mc_1 (mk_p (ms_bipush (n := (-2)) (by decide +kernel) (by decide +kernel)) rfl) <|
  mc_1 (mk_r (Or.inl ⟨rfl, by decide +kernel, _, rfl, mf_0⟩) rfl) <|
  mc_1 (mk_p (ms_aload_n (k := 0) (by decide +kernel) rfl) rfl) <|
  mc_1 (mk_p (ms_get (idx := 234) (w := 1467) (host := none) mx_c12 (by decide) ml_f_LeagueOfficeModel_234 (by decide +kernel)) rfl) <| mc_0
theorem mw_182_1 : ∀ e ∈ mt_182_1, mx_Ok mx_MT mq_182 e.1 e.2 := 
  mc_1 (mk_p (ms_iload_n (k := 1) (by decide +kernel) rfl) rfl) <|
  mc_1 (mk_p (ms_iadd (by decide +kernel)) rfl) <|
  mc_1 (mk_p (ms_sipush (n := 160) (by decide +kernel) (by decide +kernel)) rfl) <|
  mc_1 (mk_p (ms_icmp_le (off := (6)) (by decide +kernel) (by decide)) rfl) <|
  mc_1 (mk_p (ms_bipush (n := (-4)) (by decide +kernel) (by decide +kernel)) rfl) <|
  mc_1 (mk_r (Or.inl ⟨rfl, by decide +kernel, _, rfl, mf_0⟩) rfl) <|
  mc_1 (mk_p (ms_iconst (n := 0) (by decide +kernel) (by decide +kernel)) rfl) <|
  mc_1 (mk_p (ms_istore (by decide +kernel) (by decide)) rfl) <|
  mc_1 (mk_p (ms_iload (by decide +kernel)) rfl) <| mc_0
theorem mw_182_2 : ∀ e ∈ mt_182_2, mx_Ok mx_MT mq_182 e.1 e.2 := 
  mc_1 (mk_p (ms_iload_n (k := 1) (by decide +kernel) rfl) rfl) <|
  mc_1 (mk_p (ms_icmp_ge (off := (37)) (by decide +kernel) (by decide)) rfl) <|
  mc_1 (mk_p (ms_aload_n (k := 0) (by decide +kernel) rfl) rfl) <|
  mc_1 (mk_p (ms_get (idx := 90) (w := 1466) (host := none) mx_c12 (by decide) ml_f_LeagueOfficeModel_90 (by decide +kernel)) rfl) <|
  mc_1 (mk_p (ms_aload_n (k := 0) (by decide +kernel) rfl) rfl) <|
  mc_1 (mk_p (ms_get (idx := 234) (w := 1467) (host := none) mx_c12 (by decide) ml_f_LeagueOfficeModel_234 (by decide +kernel)) rfl) <|
  mc_1 (mk_p (ms_lload_n (k := 2) (by decide +kernel) rfl) rfl) <|
  mc_1 (mk_p (ms_bipush (n := 8) (by decide +kernel) (by decide +kernel)) rfl) <| mc_0
theorem mw_182_3 : ∀ e ∈ mt_182_3, mx_Ok mx_MT mq_182 e.1 e.2 := 
  mc_1 (mk_p (ms_iload (by decide +kernel)) rfl) <|
  mc_1 (mk_p (ms_imul (by decide +kernel)) rfl) <|
  mc_1 (mk_p (ms_lshr (by decide +kernel)) rfl) <|
  mc_1 (mk_p (ms_l2i (by decide +kernel)) rfl) <|
  mc_1 (mk_p (ms_i2b (by decide +kernel)) rfl) <|
  mc_1 (mk_p (ms_ast (Or.inr (Or.inl ⟨rfl, by decide +kernel⟩))) rfl) <|
  mc_1 (mk_p (ms_aload_n (k := 0) (by decide +kernel) rfl) rfl) <|
  mc_1 (mk_p (ms_dup (by decide +kernel)) rfl) <|
  mc_1 (mk_p (ms_get (idx := 234) (w := 1467) (host := none) mx_c12 (by decide) ml_f_LeagueOfficeModel_234 (by decide +kernel)) rfl) <|
  mc_1 (mk_p (ms_iconst (n := 1) (by decide +kernel) (by decide +kernel)) rfl) <|
  mc_1 (mk_p (ms_iadd (by decide +kernel)) rfl) <|
  mc_1 (mk_p (ms_put (idx := 234) (w := 1467) (host := none) mx_c12 (by decide) ml_f_LeagueOfficeModel_234 rfl rfl (by decide +kernel)) rfl) <| mc_0
theorem mw_182_4 : ∀ e ∈ mt_182_4, mx_Ok mx_MT mq_182 e.1 e.2 := 
  mc_1 (mk_p (ms_iinc (n := (1)) (by decide +kernel) (by decide +kernel) (by decide)) rfl) <|
  mc_1 (mk_p (ms_goto (off := (-37)) (by decide +kernel) (by decide)) rfl) <|
  mc_1 (mk_p (ms_aload_n (k := 0) (by decide +kernel) rfl) rfl) <|
  mc_1 (mk_p (ms_get (idx := 234) (w := 1467) (host := none) mx_c12 (by decide) ml_f_LeagueOfficeModel_234 (by decide +kernel)) rfl) <|
  mc_1 (mk_r (Or.inl ⟨rfl, by decide +kernel, _, rfl, mf_0⟩) rfl) <| mc_0
theorem mw_182 : ∀ ch ∈ mt_182, ∀ e ∈ ch, mx_Ok mx_MT mq_182 e.1 e.2 := mc_2 mw_182_0 <| mc_2 mw_182_1 <| mc_2 mw_182_2 <| mc_2 mw_182_3 <| mc_2 mw_182_4 <| mc_3
/- 183 LeagueOfficeModel.isLetter(I)Z -/
theorem mw_183_0 : ∀ e ∈ mt_183_0, mx_Ok mx_MT mq_183 e.1 e.2 := 
  mc_1 (mk_p (ms_iload_n (k := 0) (by decide +kernel) rfl) rfl) <|
  mc_1 (mk_p (ms_bipush (n := 97) (by decide +kernel) (by decide +kernel)) rfl) <|
  mc_1 (mk_p (ms_bipush (n := 122) (by decide +kernel) (by decide +kernel)) rfl) <|
  mc_1 (mk_c (k := mq_163) rfl ⟨mo_163, 7, 1318, none, ml_m_LeagueOfficeModel_7, Or.inl ⟨rfl, (by decide +kernel), mx_npd (by decide +kernel), ml_st_1319⟩⟩) <|
  mc_1 (mk_r (Or.inl ⟨rfl, by decide +kernel, _, rfl, mf_2⟩) rfl) <| mc_0
theorem mw_183 : ∀ ch ∈ mt_183, ∀ e ∈ ch, mx_Ok mx_MT mq_183 e.1 e.2 := mc_2 mw_183_0 <| mc_3
/- 184 LeagueOfficeModel.isDigit(I)Z -/
theorem mw_184_0 : ∀ e ∈ mt_184_0, mx_Ok mx_MT mq_184 e.1 e.2 := 
  mc_1 (mk_p (ms_iload_n (k := 0) (by decide +kernel) rfl) rfl) <|
  mc_1 (mk_p (ms_bipush (n := 48) (by decide +kernel) (by decide +kernel)) rfl) <|
  mc_1 (mk_p (ms_bipush (n := 57) (by decide +kernel) (by decide +kernel)) rfl) <|
  mc_1 (mk_c (k := mq_163) rfl ⟨mo_163, 7, 1318, none, ml_m_LeagueOfficeModel_7, Or.inl ⟨rfl, (by decide +kernel), mx_npd (by decide +kernel), ml_st_1319⟩⟩) <|
  mc_1 (mk_r (Or.inl ⟨rfl, by decide +kernel, _, rfl, mf_2⟩) rfl) <| mc_0
theorem mw_184 : ∀ ch ∈ mt_184, ∀ e ∈ ch, mx_Ok mx_MT mq_184 e.1 e.2 := mc_2 mw_184_0 <| mc_3
/- 185 LeagueOfficeModel.isSign(I)Z -/
theorem mw_185_0 : ∀ e ∈ mt_185_0, mx_Ok mx_MT mq_185 e.1 e.2 := 
  mc_1 (mk_p (ms_iload_n (k := 0) (by decide +kernel) rfl) rfl) <|
  mc_1 (mk_p (ms_bipush (n := 40) (by decide +kernel) (by decide +kernel)) rfl) <|
  mc_1 (mk_p (ms_icmp_eq (off := (45)) (by decide +kernel) (by decide)) rfl) <|
  mc_1 (mk_p (ms_iload_n (k := 0) (by decide +kernel) rfl) rfl) <|
  mc_1 (mk_p (ms_bipush (n := 41) (by decide +kernel) (by decide +kernel)) rfl) <|
  mc_1 (mk_p (ms_icmp_eq (off := (39)) (by decide +kernel) (by decide)) rfl) <|
  mc_1 (mk_p (ms_iload_n (k := 0) (by decide +kernel) rfl) rfl) <|
  mc_1 (mk_p (ms_bipush (n := 59) (by decide +kernel) (by decide +kernel)) rfl) <|
  mc_1 (mk_p (ms_icmp_eq (off := (33)) (by decide +kernel) (by decide)) rfl) <| mc_0
theorem mw_185_1 : ∀ e ∈ mt_185_1, mx_Ok mx_MT mq_185 e.1 e.2 := 
  mc_1 (mk_p (ms_iload_n (k := 0) (by decide +kernel) rfl) rfl) <|
  mc_1 (mk_p (ms_bipush (n := 43) (by decide +kernel) (by decide +kernel)) rfl) <|
  mc_1 (mk_p (ms_icmp_eq (off := (27)) (by decide +kernel) (by decide)) rfl) <|
  mc_1 (mk_p (ms_iload_n (k := 0) (by decide +kernel) rfl) rfl) <|
  mc_1 (mk_p (ms_bipush (n := 45) (by decide +kernel) (by decide +kernel)) rfl) <|
  mc_1 (mk_p (ms_icmp_eq (off := (21)) (by decide +kernel) (by decide)) rfl) <|
  mc_1 (mk_p (ms_iload_n (k := 0) (by decide +kernel) rfl) rfl) <|
  mc_1 (mk_p (ms_bipush (n := 42) (by decide +kernel) (by decide +kernel)) rfl) <| mc_0
theorem mw_185_2 : ∀ e ∈ mt_185_2, mx_Ok mx_MT mq_185 e.1 e.2 := 
  mc_1 (mk_p (ms_icmp_eq (off := (15)) (by decide +kernel) (by decide)) rfl) <|
  mc_1 (mk_p (ms_iload_n (k := 0) (by decide +kernel) rfl) rfl) <|
  mc_1 (mk_p (ms_bipush (n := 60) (by decide +kernel) (by decide +kernel)) rfl) <|
  mc_1 (mk_p (ms_icmp_eq (off := (9)) (by decide +kernel) (by decide)) rfl) <|
  mc_1 (mk_p (ms_iload_n (k := 0) (by decide +kernel) rfl) rfl) <|
  mc_1 (mk_p (ms_bipush (n := 61) (by decide +kernel) (by decide +kernel)) rfl) <|
  mc_1 (mk_p (ms_icmp_ne (off := (7)) (by decide +kernel) (by decide)) rfl) <| mc_0
theorem mw_185_3 : ∀ e ∈ mt_185_3, mx_Ok mx_MT mq_185 e.1 e.2 := 
  mc_1 (mk_p (ms_iconst (n := 1) (by decide +kernel) (by decide +kernel)) rfl) <|
  mc_1 (mk_p (ms_goto (off := (4)) (by decide +kernel) (by decide)) rfl) <|
  mc_1 (mk_p (ms_iconst (n := 0) (by decide +kernel) (by decide +kernel)) rfl) <|
  mc_1 (mk_r (Or.inl ⟨rfl, by decide +kernel, _, rfl, mf_2⟩) rfl) <| mc_0
theorem mw_185 : ∀ ch ∈ mt_185, ∀ e ∈ ch, mx_Ok mx_MT mq_185 e.1 e.2 := mc_2 mw_185_0 <| mc_2 mw_185_1 <| mc_2 mw_185_2 <| mc_2 mw_185_3 <| mc_3
/- 186 LeagueOfficeModel.nextToken()V -/
theorem mw_186_0 : ∀ e ∈ mt_186_0, mx_Ok mx_MT mq_186 e.1 e.2 := 
  mc_1 (mk_p (ms_aload_n (k := 0) (by decide +kernel) rfl) rfl) <|
  mc_1 (mk_p (ms_aload_n (k := 0) (by decide +kernel) rfl) rfl) <|
  mc_1 (mk_p (ms_get (idx := 241) (w := 1473) (host := none) mx_c12 (by decide) ml_f_LeagueOfficeModel_241 (by decide +kernel)) rfl) <|
  mc_1 (mk_p (ms_put (idx := 244) (w := 1472) (host := none) mx_c12 (by decide) ml_f_LeagueOfficeModel_244 rfl rfl (by decide +kernel)) rfl) <|
  mc_1 (mk_p (ms_aload_n (k := 0) (by decide +kernel) rfl) rfl) <|
  mc_1 (mk_p (ms_get (idx := 244) (w := 1472) (host := none) mx_c12 (by decide) ml_f_LeagueOfficeModel_244 (by decide +kernel)) rfl) <|
  mc_1 (mk_p (ms_aload_n (k := 0) (by decide +kernel) rfl) rfl) <|
  mc_1 (mk_p (ms_get (idx := 234) (w := 1467) (host := none) mx_c12 (by decide) ml_f_LeagueOfficeModel_234 (by decide +kernel)) rfl) <| mc_0
theorem mw_186_1 : ∀ e ∈ mt_186_1, mx_Ok mx_MT mq_186 e.1 e.2 := 
  mc_1 (mk_p (ms_icmp_ge (off := (44)) (by decide +kernel) (by decide)) rfl) <|
  mc_1 (mk_p (ms_aload_n (k := 0) (by decide +kernel) rfl) rfl) <|
  mc_1 (mk_p (ms_get (idx := 90) (w := 1466) (host := none) mx_c12 (by decide) ml_f_LeagueOfficeModel_90 (by decide +kernel)) rfl) <|
  mc_1 (mk_p (ms_aload_n (k := 0) (by decide +kernel) rfl) rfl) <|
  mc_1 (mk_p (ms_get (idx := 244) (w := 1472) (host := none) mx_c12 (by decide) ml_f_LeagueOfficeModel_244 (by decide +kernel)) rfl) <|
  mc_1 (mk_p (ms_ald (Or.inr (Or.inl ⟨rfl, by decide +kernel⟩))) rfl) <|
  mc_1 (mk_p (ms_bipush (n := 32) (by decide +kernel) (by decide +kernel)) rfl) <|
  mc_1 (mk_p (ms_icmp_eq (off := (17)) (by decide +kernel) (by decide)) rfl) <| mc_0
theorem mw_186_2 : ∀ e ∈ mt_186_2, mx_Ok mx_MT mq_186 e.1 e.2 := 
  mc_1 (mk_p (ms_aload_n (k := 0) (by decide +kernel) rfl) rfl) <|
  mc_1 (mk_p (ms_get (idx := 90) (w := 1466) (host := none) mx_c12 (by decide) ml_f_LeagueOfficeModel_90 (by decide +kernel)) rfl) <|
  mc_1 (mk_p (ms_aload_n (k := 0) (by decide +kernel) rfl) rfl) <|
  mc_1 (mk_p (ms_get (idx := 244) (w := 1472) (host := none) mx_c12 (by decide) ml_f_LeagueOfficeModel_244 (by decide +kernel)) rfl) <|
  mc_1 (mk_p (ms_ald (Or.inr (Or.inl ⟨rfl, by decide +kernel⟩))) rfl) <|
  mc_1 (mk_p (ms_bipush (n := 10) (by decide +kernel) (by decide +kernel)) rfl) <|
  mc_1 (mk_p (ms_icmp_ne (off := (16)) (by decide +kernel) (by decide)) rfl) <|
  mc_1 (mk_p (ms_aload_n (k := 0) (by decide +kernel) rfl) rfl) <| mc_0
theorem mw_186_3 : ∀ e ∈ mt_186_3, mx_Ok mx_MT mq_186 e.1 e.2 := 
  mc_1 (mk_p (ms_dup (by decide +kernel)) rfl) <|
  mc_1 (mk_p (ms_get (idx := 244) (w := 1472) (host := none) mx_c12 (by decide) ml_f_LeagueOfficeModel_244 (by decide +kernel)) rfl) <|
  mc_1 (mk_p (ms_iconst (n := 1) (by decide +kernel) (by decide +kernel)) rfl) <|
  mc_1 (mk_p (ms_iadd (by decide +kernel)) rfl) <|
  mc_1 (mk_p (ms_put (idx := 244) (w := 1472) (host := none) mx_c12 (by decide) ml_f_LeagueOfficeModel_244 rfl rfl (by decide +kernel)) rfl) <|
  mc_1 (mk_p (ms_goto (off := (-49)) (by decide +kernel) (by decide)) rfl) <|
  mc_1 (mk_p (ms_aload_n (k := 0) (by decide +kernel) rfl) rfl) <|
  mc_1 (mk_p (ms_aload_n (k := 0) (by decide +kernel) rfl) rfl) <|
  mc_1 (mk_p (ms_get (idx := 244) (w := 1472) (host := none) mx_c12 (by decide) ml_f_LeagueOfficeModel_244 (by decide +kernel)) rfl) <| mc_0
theorem mw_186_4 : ∀ e ∈ mt_186_4, mx_Ok mx_MT mq_186 e.1 e.2 := 
  mc_1 (mk_p (ms_put (idx := 241) (w := 1473) (host := none) mx_c12 (by decide) ml_f_LeagueOfficeModel_241 rfl rfl (by decide +kernel)) rfl) <|
  mc_1 (mk_p (ms_aload_n (k := 0) (by decide +kernel) rfl) rfl) <|
  mc_1 (mk_p (ms_get (idx := 244) (w := 1472) (host := none) mx_c12 (by decide) ml_f_LeagueOfficeModel_244 (by decide +kernel)) rfl) <|
  mc_1 (mk_p (ms_aload_n (k := 0) (by decide +kernel) rfl) rfl) <|
  mc_1 (mk_p (ms_get (idx := 234) (w := 1467) (host := none) mx_c12 (by decide) ml_f_LeagueOfficeModel_234 (by decide +kernel)) rfl) <|
  mc_1 (mk_p (ms_icmp_ne (off := (9)) (by decide +kernel) (by decide)) rfl) <|
  mc_1 (mk_p (ms_aload_n (k := 0) (by decide +kernel) rfl) rfl) <| mc_0
theorem mw_186_5 : ∀ e ∈ mt_186_5, mx_Ok mx_MT mq_186 e.1 e.2 := 
  mc_1 (mk_p (ms_iconst (n := 0) (by decide +kernel) (by decide +kernel)) rfl) <|
  mc_1 (mk_p (ms_put (idx := 247) (w := 1474) (host := none) mx_c12 (by decide) ml_f_LeagueOfficeModel_247 rfl rfl (by decide +kernel)) rfl) <|
  mc_1 (mk_r (Or.inr (Or.inr (Or.inr ⟨rfl, by decide +kernel, rfl⟩))) rfl) <|
  mc_1 (mk_p (ms_aload_n (k := 0) (by decide +kernel) rfl) rfl) <|
  mc_1 (mk_p (ms_get (idx := 90) (w := 1466) (host := none) mx_c12 (by decide) ml_f_LeagueOfficeModel_90 (by decide +kernel)) rfl) <|
  mc_1 (mk_p (ms_aload_n (k := 0) (by decide +kernel) rfl) rfl) <|
  mc_1 (mk_p (ms_get (idx := 244) (w := 1472) (host := none) mx_c12 (by decide) ml_f_LeagueOfficeModel_244 (by decide +kernel)) rfl) <|
  mc_1 (mk_p (ms_ald (Or.inr (Or.inl ⟨rfl, by decide +kernel⟩))) rfl) <|
  mc_1 (mk_c (k := mq_183) rfl ⟨mo_183, 250, 1391, none, ml_m_LeagueOfficeModel_250, Or.inl ⟨rfl, (by decide +kernel), mx_npd (by decide +kernel), ml_st_1392⟩⟩) <| mc_0
theorem mw_186_6 : ∀ e ∈ mt_186_6, mx_Ok mx_MT mq_186 e.1 e.2 := 
  mc_1 (mk_p (ms_if_eq (off := (48)) (by decide +kernel) (by decide)) rfl) <|
  mc_1 (mk_p (ms_aload_n (k := 0) (by decide +kernel) rfl) rfl) <|
  mc_1 (mk_p (ms_get (idx := 241) (w := 1473) (host := none) mx_c12 (by decide) ml_f_LeagueOfficeModel_241 (by decide +kernel)) rfl) <|
  mc_1 (mk_p (ms_aload_n (k := 0) (by decide +kernel) rfl) rfl) <|
  mc_1 (mk_p (ms_get (idx := 234) (w := 1467) (host := none) mx_c12 (by decide) ml_f_LeagueOfficeModel_234 (by decide +kernel)) rfl) <|
  mc_1 (mk_p (ms_icmp_ge (off := (31)) (by decide +kernel) (by decide)) rfl) <|
  mc_1 (mk_p (ms_aload_n (k := 0) (by decide +kernel) rfl) rfl) <| mc_0
theorem mw_186_7 : ∀ e ∈ mt_186_7, mx_Ok mx_MT mq_186 e.1 e.2 := 
  mc_1 (mk_p (ms_get (idx := 90) (w := 1466) (host := none) mx_c12 (by decide) ml_f_LeagueOfficeModel_90 (by decide +kernel)) rfl) <|
  mc_1 (mk_p (ms_aload_n (k := 0) (by decide +kernel) rfl) rfl) <|
  mc_1 (mk_p (ms_get (idx := 241) (w := 1473) (host := none) mx_c12 (by decide) ml_f_LeagueOfficeModel_241 (by decide +kernel)) rfl) <|
  mc_1 (mk_p (ms_ald (Or.inr (Or.inl ⟨rfl, by decide +kernel⟩))) rfl) <|
  mc_1 (mk_c (k := mq_183) rfl ⟨mo_183, 250, 1391, none, ml_m_LeagueOfficeModel_250, Or.inl ⟨rfl, (by decide +kernel), mx_npd (by decide +kernel), ml_st_1392⟩⟩) <|
  mc_1 (mk_p (ms_if_eq (off := (16)) (by decide +kernel) (by decide)) rfl) <|
  mc_1 (mk_p (ms_aload_n (k := 0) (by decide +kernel) rfl) rfl) <|
  mc_1 (mk_p (ms_dup (by decide +kernel)) rfl) <| mc_0
theorem mw_186_8 : ∀ e ∈ mt_186_8, mx_Ok mx_MT mq_186 e.1 e.2 := 
  mc_1 (mk_p (ms_get (idx := 241) (w := 1473) (host := none) mx_c12 (by decide) ml_f_LeagueOfficeModel_241 (by decide +kernel)) rfl) <|
  mc_1 (mk_p (ms_iconst (n := 1) (by decide +kernel) (by decide +kernel)) rfl) <|
  mc_1 (mk_p (ms_iadd (by decide +kernel)) rfl) <|
  mc_1 (mk_p (ms_put (idx := 241) (w := 1473) (host := none) mx_c12 (by decide) ml_f_LeagueOfficeModel_241 rfl rfl (by decide +kernel)) rfl) <|
  mc_1 (mk_p (ms_goto (off := (-36)) (by decide +kernel) (by decide)) rfl) <|
  mc_1 (mk_p (ms_aload_n (k := 0) (by decide +kernel) rfl) rfl) <|
  mc_1 (mk_p (ms_iconst (n := 1) (by decide +kernel) (by decide +kernel)) rfl) <|
  mc_1 (mk_p (ms_put (idx := 247) (w := 1474) (host := none) mx_c12 (by decide) ml_f_LeagueOfficeModel_247 rfl rfl (by decide +kernel)) rfl) <| mc_0
theorem mw_186_9 : ∀ e ∈ mt_186_9, mx_Ok mx_MT mq_186 e.1 e.2 := 
  mc_1 (mk_r (Or.inr (Or.inr (Or.inr ⟨rfl, by decide +kernel, rfl⟩))) rfl) <|
  mc_1 (mk_p (ms_aload_n (k := 0) (by decide +kernel) rfl) rfl) <|
  mc_1 (mk_p (ms_get (idx := 90) (w := 1466) (host := none) mx_c12 (by decide) ml_f_LeagueOfficeModel_90 (by decide +kernel)) rfl) <|
  mc_1 (mk_p (ms_aload_n (k := 0) (by decide +kernel) rfl) rfl) <|
  mc_1 (mk_p (ms_get (idx := 244) (w := 1472) (host := none) mx_c12 (by decide) ml_f_LeagueOfficeModel_244 (by decide +kernel)) rfl) <|
  mc_1 (mk_p (ms_ald (Or.inr (Or.inl ⟨rfl, by decide +kernel⟩))) rfl) <|
  mc_1 (mk_c (k := mq_184) rfl ⟨mo_184, 253, 1394, none, ml_m_LeagueOfficeModel_253, Or.inl ⟨rfl, (by decide +kernel), mx_npd (by decide +kernel), ml_st_1395⟩⟩) <|
  mc_1 (mk_p (ms_if_eq (off := (114)) (by decide +kernel) (by decide)) rfl) <| mc_0
theorem mw_186_10 : ∀ e ∈ mt_186_10, mx_Ok mx_MT mq_186 e.1 e.2 := 
  mc_1 (mk_p (ms_aload_n (k := 0) (by decide +kernel) rfl) rfl) <|
  mc_1 (mk_p (ms_iconst (n := 0) (by decide +kernel) (by decide +kernel)) rfl) <|
  mc_1 (mk_p (ms_put (idx := 256) (w := 1475) (host := none) mx_c12 (by decide) ml_f_LeagueOfficeModel_256 rfl rfl (by decide +kernel)) rfl) <|
  mc_1 (mk_p (ms_aload_n (k := 0) (by decide +kernel) rfl) rfl) <|
  mc_1 (mk_p (ms_get (idx := 241) (w := 1473) (host := none) mx_c12 (by decide) ml_f_LeagueOfficeModel_241 (by decide +kernel)) rfl) <|
  mc_1 (mk_p (ms_aload_n (k := 0) (by decide +kernel) rfl) rfl) <|
  mc_1 (mk_p (ms_get (idx := 234) (w := 1467) (host := none) mx_c12 (by decide) ml_f_LeagueOfficeModel_234 (by decide +kernel)) rfl) <|
  mc_1 (mk_p (ms_icmp_ge (off := (75)) (by decide +kernel) (by decide)) rfl) <| mc_0
theorem mw_186_11 : ∀ e ∈ mt_186_11, mx_Ok mx_MT mq_186 e.1 e.2 := 
  mc_1 (mk_p (ms_aload_n (k := 0) (by decide +kernel) rfl) rfl) <|
  mc_1 (mk_p (ms_get (idx := 90) (w := 1466) (host := none) mx_c12 (by decide) ml_f_LeagueOfficeModel_90 (by decide +kernel)) rfl) <|
  mc_1 (mk_p (ms_aload_n (k := 0) (by decide +kernel) rfl) rfl) <|
  mc_1 (mk_p (ms_get (idx := 241) (w := 1473) (host := none) mx_c12 (by decide) ml_f_LeagueOfficeModel_241 (by decide +kernel)) rfl) <|
  mc_1 (mk_p (ms_ald (Or.inr (Or.inl ⟨rfl, by decide +kernel⟩))) rfl) <|
  mc_1 (mk_c (k := mq_184) rfl ⟨mo_184, 253, 1394, none, ml_m_LeagueOfficeModel_253, Or.inl ⟨rfl, (by decide +kernel), mx_npd (by decide +kernel), ml_st_1395⟩⟩) <|
  mc_1 (mk_p (ms_if_eq (off := (60)) (by decide +kernel) (by decide)) rfl) <|
  mc_1 (mk_p (ms_aload_n (k := 0) (by decide +kernel) rfl) rfl) <| mc_0
theorem mw_186_12 : ∀ e ∈ mt_186_12, mx_Ok mx_MT mq_186 e.1 e.2 := 
  mc_1 (mk_p (ms_aload_n (k := 0) (by decide +kernel) rfl) rfl) <|
  mc_1 (mk_p (ms_get (idx := 241) (w := 1473) (host := none) mx_c12 (by decide) ml_f_LeagueOfficeModel_241 (by decide +kernel)) rfl) <|
  mc_1 (mk_p (ms_aload_n (k := 0) (by decide +kernel) rfl) rfl) <|
  mc_1 (mk_p (ms_get (idx := 244) (w := 1472) (host := none) mx_c12 (by decide) ml_f_LeagueOfficeModel_244 (by decide +kernel)) rfl) <|
  mc_1 (mk_p (ms_isub (by decide +kernel)) rfl) <|
  mc_1 (mk_p (ms_iconst (n := 5) (by decide +kernel) (by decide +kernel)) rfl) <|
  mc_1 (mk_p (ms_icmp_ge (off := (26)) (by decide +kernel) (by decide)) rfl) <|
  mc_1 (mk_p (ms_bipush (n := 10) (by decide +kernel) (by decide +kernel)) rfl) <|
  mc_1 (mk_p (ms_aload_n (k := 0) (by decide +kernel) rfl) rfl) <| mc_0
theorem mw_186_13 : ∀ e ∈ mt_186_13, mx_Ok mx_MT mq_186 e.1 e.2 := 
  mc_1 (mk_p (ms_get (idx := 256) (w := 1475) (host := none) mx_c12 (by decide) ml_f_LeagueOfficeModel_256 (by decide +kernel)) rfl) <|
  mc_1 (mk_p (ms_imul (by decide +kernel)) rfl) <|
  mc_1 (mk_p (ms_aload_n (k := 0) (by decide +kernel) rfl) rfl) <|
  mc_1 (mk_p (ms_get (idx := 90) (w := 1466) (host := none) mx_c12 (by decide) ml_f_LeagueOfficeModel_90 (by decide +kernel)) rfl) <|
  mc_1 (mk_p (ms_aload_n (k := 0) (by decide +kernel) rfl) rfl) <|
  mc_1 (mk_p (ms_get (idx := 241) (w := 1473) (host := none) mx_c12 (by decide) ml_f_LeagueOfficeModel_241 (by decide +kernel)) rfl) <|
  mc_1 (mk_p (ms_ald (Or.inr (Or.inl ⟨rfl, by decide +kernel⟩))) rfl) <|
  mc_1 (mk_p (ms_iadd (by decide +kernel)) rfl) <|
  mc_1 (mk_p (ms_bipush (n := 48) (by decide +kernel) (by decide +kernel)) rfl) <| mc_0
theorem mw_186_14 : ∀ e ∈ mt_186_14, mx_Ok mx_MT mq_186 e.1 e.2 := 
  mc_1 (mk_p (ms_isub (by decide +kernel)) rfl) <|
  mc_1 (mk_p (ms_goto (off := (7)) (by decide +kernel) (by decide)) rfl) <|
  mc_1 (mk_p (ms_aload_n (k := 0) (by decide +kernel) rfl) rfl) <|
  mc_1 (mk_p (ms_get (idx := 256) (w := 1475) (host := none) mx_c12 (by decide) ml_f_LeagueOfficeModel_256 (by decide +kernel)) rfl) <|
  mc_1 (mk_p (ms_put (idx := 256) (w := 1475) (host := none) mx_c12 (by decide) ml_f_LeagueOfficeModel_256 rfl rfl (by decide +kernel)) rfl) <|
  mc_1 (mk_p (ms_aload_n (k := 0) (by decide +kernel) rfl) rfl) <|
  mc_1 (mk_p (ms_dup (by decide +kernel)) rfl) <|
  mc_1 (mk_p (ms_get (idx := 241) (w := 1473) (host := none) mx_c12 (by decide) ml_f_LeagueOfficeModel_241 (by decide +kernel)) rfl) <| mc_0
theorem mw_186_15 : ∀ e ∈ mt_186_15, mx_Ok mx_MT mq_186 e.1 e.2 := 
  mc_1 (mk_p (ms_iconst (n := 1) (by decide +kernel) (by decide +kernel)) rfl) <|
  mc_1 (mk_p (ms_iadd (by decide +kernel)) rfl) <|
  mc_1 (mk_p (ms_put (idx := 241) (w := 1473) (host := none) mx_c12 (by decide) ml_f_LeagueOfficeModel_241 rfl rfl (by decide +kernel)) rfl) <|
  mc_1 (mk_p (ms_goto (off := (-80)) (by decide +kernel) (by decide)) rfl) <|
  mc_1 (mk_p (ms_aload_n (k := 0) (by decide +kernel) rfl) rfl) <|
  mc_1 (mk_p (ms_aload_n (k := 0) (by decide +kernel) rfl) rfl) <|
  mc_1 (mk_p (ms_get (idx := 241) (w := 1473) (host := none) mx_c12 (by decide) ml_f_LeagueOfficeModel_241 (by decide +kernel)) rfl) <|
  mc_1 (mk_p (ms_aload_n (k := 0) (by decide +kernel) rfl) rfl) <|
  mc_1 (mk_p (ms_get (idx := 244) (w := 1472) (host := none) mx_c12 (by decide) ml_f_LeagueOfficeModel_244 (by decide +kernel)) rfl) <| mc_0
theorem mw_186_16 : ∀ e ∈ mt_186_16, mx_Ok mx_MT mq_186 e.1 e.2 := 
  mc_1 (mk_p (ms_isub (by decide +kernel)) rfl) <|
  mc_1 (mk_p (ms_iconst (n := 4) (by decide +kernel) (by decide +kernel)) rfl) <|
  mc_1 (mk_p (ms_icmp_le (off := (7)) (by decide +kernel) (by decide)) rfl) <|
  mc_1 (mk_p (ms_iconst (n := (-1)) (by decide +kernel) (by decide +kernel)) rfl) <|
  mc_1 (mk_p (ms_goto (off := (4)) (by decide +kernel) (by decide)) rfl) <|
  mc_1 (mk_p (ms_iconst (n := 2) (by decide +kernel) (by decide +kernel)) rfl) <|
  mc_1 (mk_p (ms_put (idx := 247) (w := 1474) (host := none) mx_c12 (by decide) ml_f_LeagueOfficeModel_247 rfl rfl (by decide +kernel)) rfl) <|
  mc_1 (mk_r (Or.inr (Or.inr (Or.inr ⟨rfl, by decide +kernel, rfl⟩))) rfl) <|
  mc_1 (mk_p (ms_aload_n (k := 0) (by decide +kernel) rfl) rfl) <| mc_0
theorem mw_186_17 : ∀ e ∈ mt_186_17, mx_Ok mx_MT mq_186 e.1 e.2 := 
  mc_1 (mk_p (ms_dup (by decide +kernel)) rfl) <|
  mc_1 (mk_p (ms_get (idx := 241) (w := 1473) (host := none) mx_c12 (by decide) ml_f_LeagueOfficeModel_241 (by decide +kernel)) rfl) <|
  mc_1 (mk_p (ms_iconst (n := 1) (by decide +kernel) (by decide +kernel)) rfl) <|
  mc_1 (mk_p (ms_iadd (by decide +kernel)) rfl) <|
  mc_1 (mk_p (ms_put (idx := 241) (w := 1473) (host := none) mx_c12 (by decide) ml_f_LeagueOfficeModel_241 rfl rfl (by decide +kernel)) rfl) <|
  mc_1 (mk_p (ms_aload_n (k := 0) (by decide +kernel) rfl) rfl) <|
  mc_1 (mk_p (ms_aload_n (k := 0) (by decide +kernel) rfl) rfl) <|
  mc_1 (mk_p (ms_get (idx := 90) (w := 1466) (host := none) mx_c12 (by decide) ml_f_LeagueOfficeModel_90 (by decide +kernel)) rfl) <|
  mc_1 (mk_p (ms_aload_n (k := 0) (by decide +kernel) rfl) rfl) <|
  mc_1 (mk_p (ms_get (idx := 244) (w := 1472) (host := none) mx_c12 (by decide) ml_f_LeagueOfficeModel_244 (by decide +kernel)) rfl) <| mc_0
theorem mw_186_18 : ∀ e ∈ mt_186_18, mx_Ok mx_MT mq_186 e.1 e.2 := 
  mc_1 (mk_p (ms_ald (Or.inr (Or.inl ⟨rfl, by decide +kernel⟩))) rfl) <|
  mc_1 (mk_c (k := mq_185) rfl ⟨mo_185, 259, 1397, none, ml_m_LeagueOfficeModel_259, Or.inl ⟨rfl, (by decide +kernel), mx_npd (by decide +kernel), ml_st_1398⟩⟩) <|
  mc_1 (mk_p (ms_if_eq (off := (15)) (by decide +kernel) (by decide)) rfl) <|
  mc_1 (mk_p (ms_aload_n (k := 0) (by decide +kernel) rfl) rfl) <|
  mc_1 (mk_p (ms_get (idx := 90) (w := 1466) (host := none) mx_c12 (by decide) ml_f_LeagueOfficeModel_90 (by decide +kernel)) rfl) <|
  mc_1 (mk_p (ms_aload_n (k := 0) (by decide +kernel) rfl) rfl) <|
  mc_1 (mk_p (ms_get (idx := 244) (w := 1472) (host := none) mx_c12 (by decide) ml_f_LeagueOfficeModel_244 (by decide +kernel)) rfl) <| mc_0
theorem mw_186_19 : ∀ e ∈ mt_186_19, mx_Ok mx_MT mq_186 e.1 e.2 := 
  mc_1 (mk_p (ms_ald (Or.inr (Or.inl ⟨rfl, by decide +kernel⟩))) rfl) <|
  mc_1 (mk_p (ms_goto (off := (4)) (by decide +kernel) (by decide)) rfl) <|
  mc_1 (mk_p (ms_iconst (n := (-1)) (by decide +kernel) (by decide +kernel)) rfl) <|
  mc_1 (mk_p (ms_put (idx := 247) (w := 1474) (host := none) mx_c12 (by decide) ml_f_LeagueOfficeModel_247 rfl rfl (by decide +kernel)) rfl) <|
  mc_1 (mk_r (Or.inr (Or.inr (Or.inr ⟨rfl, by decide +kernel, rfl⟩))) rfl) <| mc_0
theorem mw_186 : ∀ ch ∈ mt_186, ∀ e ∈ ch, mx_Ok mx_MT mq_186 e.1 e.2 := mc_2 mw_186_0 <| mc_2 mw_186_1 <| mc_2 mw_186_2 <| mc_2 mw_186_3 <| mc_2 mw_186_4 <| mc_2 mw_186_5 <| mc_2 mw_186_6 <| mc_2 mw_186_7 <| mc_2 mw_186_8 <| mc_2 mw_186_9 <| mc_2 mw_186_10 <| mc_2 mw_186_11 <| mc_2 mw_186_12 <| mc_2 mw_186_13 <| mc_2 mw_186_14 <| mc_2 mw_186_15 <| mc_2 mw_186_16 <| mc_2 mw_186_17 <| mc_2 mw_186_18 <| mc_2 mw_186_19 <| mc_3
/- 187 LeagueOfficeModel.isWord(J)Z -/
theorem mw_187_0 : ∀ e ∈ mt_187_0, mx_Ok mx_MT mq_187 e.1 e.2 := 
  mc_1 (mk_p (ms_aload_n (k := 0) (by decide +kernel) rfl) rfl) <|
  mc_1 (mk_p (ms_get (idx := 247) (w := 1474) (host := none) mx_c12 (by decide) ml_f_LeagueOfficeModel_247 (by decide +kernel)) rfl) <|
  mc_1 (mk_p (ms_iconst (n := 1) (by decide +kernel) (by decide +kernel)) rfl) <|
  mc_1 (mk_p (ms_icmp_ne (off := (17)) (by decide +kernel) (by decide)) rfl) <|
  mc_1 (mk_p (ms_aload_n (k := 0) (by decide +kernel) rfl) rfl) <|
  mc_1 (mk_p (ms_get (idx := 241) (w := 1473) (host := none) mx_c12 (by decide) ml_f_LeagueOfficeModel_241 (by decide +kernel)) rfl) <|
  mc_1 (mk_p (ms_aload_n (k := 0) (by decide +kernel) rfl) rfl) <|
  mc_1 (mk_p (ms_get (idx := 244) (w := 1472) (host := none) mx_c12 (by decide) ml_f_LeagueOfficeModel_244 (by decide +kernel)) rfl) <| mc_0
theorem mw_187_1 : ∀ e ∈ mt_187_1, mx_Ok mx_MT mq_187 e.1 e.2 := 
  mc_1 (mk_p (ms_isub (by decide +kernel)) rfl) <|
  mc_1 (mk_p (ms_bipush (n := 12) (by decide +kernel) (by decide +kernel)) rfl) <|
  mc_1 (mk_p (ms_icmp_le (off := (5)) (by decide +kernel) (by decide)) rfl) <|
  mc_1 (mk_p (ms_iconst (n := 0) (by decide +kernel) (by decide +kernel)) rfl) <|
  mc_1 (mk_r (Or.inl ⟨rfl, by decide +kernel, _, rfl, mf_2⟩) rfl) <|
  mc_1 (mk_p (ms_lconst (n := 0) (by decide +kernel) rfl) rfl) <|
  mc_1 (mk_p (ms_lstore_n (k := 3) (by decide +kernel) rfl (by decide)) rfl) <|
  mc_1 (mk_p (ms_aload_n (k := 0) (by decide +kernel) rfl) rfl) <|
  mc_1 (mk_p (ms_get (idx := 244) (w := 1472) (host := none) mx_c12 (by decide) ml_f_LeagueOfficeModel_244 (by decide +kernel)) rfl) <|
  mc_1 (mk_p (ms_istore (by decide +kernel) (by decide)) rfl) <| mc_0
theorem mw_187_2 : ∀ e ∈ mt_187_2, mx_Ok mx_MT mq_187 e.1 e.2 := 
  mc_1 (mk_p (ms_iload (by decide +kernel)) rfl) <|
  mc_1 (mk_p (ms_aload_n (k := 0) (by decide +kernel) rfl) rfl) <|
  mc_1 (mk_p (ms_get (idx := 241) (w := 1473) (host := none) mx_c12 (by decide) ml_f_LeagueOfficeModel_241 (by decide +kernel)) rfl) <|
  mc_1 (mk_p (ms_icmp_ge (off := (28)) (by decide +kernel) (by decide)) rfl) <|
  mc_1 (mk_p (ms_ldc2 (idx := 262) 1406 (by decide +kernel) (by decide +kernel)) rfl) <|
  mc_1 (mk_p (ms_lload_n (k := 3) (by decide +kernel) rfl) rfl) <|
  mc_1 (mk_p (ms_lmul (by decide +kernel)) rfl) <|
  mc_1 (mk_p (ms_aload_n (k := 0) (by decide +kernel) rfl) rfl) <|
  mc_1 (mk_p (ms_get (idx := 90) (w := 1466) (host := none) mx_c12 (by decide) ml_f_LeagueOfficeModel_90 (by decide +kernel)) rfl) <| mc_0
theorem mw_187_3 : ∀ e ∈ mt_187_3, mx_Ok mx_MT mq_187 e.1 e.2 := 
  mc_1 (mk_p (ms_iload (by decide +kernel)) rfl) <|
  mc_1 (mk_p (ms_ald (Or.inr (Or.inl ⟨rfl, by decide +kernel⟩))) rfl) <|
  mc_1 (mk_p (ms_i2l (by decide +kernel)) rfl) <|
  mc_1 (mk_p (ms_ladd (by decide +kernel)) rfl) <|
  mc_1 (mk_p (ms_ldc2 (idx := 264) 1407 (by decide +kernel) (by decide +kernel)) rfl) <|
  mc_1 (mk_p (ms_lsub (by decide +kernel)) rfl) <|
  mc_1 (mk_p (ms_lstore_n (k := 3) (by decide +kernel) rfl (by decide)) rfl) <|
  mc_1 (mk_p (ms_iinc (n := (1)) (by decide +kernel) (by decide +kernel) (by decide)) rfl) <|
  mc_1 (mk_p (ms_goto (off := (-31)) (by decide +kernel) (by decide)) rfl) <| mc_0
theorem mw_187_4 : ∀ e ∈ mt_187_4, mx_Ok mx_MT mq_187 e.1 e.2 := 
  mc_1 (mk_p (ms_lload_n (k := 3) (by decide +kernel) rfl) rfl) <|
  mc_1 (mk_p (ms_lload_n (k := 1) (by decide +kernel) rfl) rfl) <|
  mc_1 (mk_p (ms_lcmp (by decide +kernel)) rfl) <|
  mc_1 (mk_p (ms_if_ne (off := (7)) (by decide +kernel) (by decide)) rfl) <|
  mc_1 (mk_p (ms_iconst (n := 1) (by decide +kernel) (by decide +kernel)) rfl) <|
  mc_1 (mk_p (ms_goto (off := (4)) (by decide +kernel) (by decide)) rfl) <|
  mc_1 (mk_p (ms_iconst (n := 0) (by decide +kernel) (by decide +kernel)) rfl) <|
  mc_1 (mk_r (Or.inl ⟨rfl, by decide +kernel, _, rfl, mf_2⟩) rfl) <| mc_0
theorem mw_187 : ∀ ch ∈ mt_187, ∀ e ∈ ch, mx_Ok mx_MT mq_187 e.1 e.2 := mc_2 mw_187_0 <| mc_2 mw_187_1 <| mc_2 mw_187_2 <| mc_2 mw_187_3 <| mc_2 mw_187_4 <| mc_3
/- 188 LeagueOfficeModel.faultHere()V -/
theorem mw_188_0 : ∀ e ∈ mt_188_0, mx_Ok mx_MT mq_188 e.1 e.2 := 
  mc_1 (mk_p (ms_aload_n (k := 0) (by decide +kernel) rfl) rfl) <|
  mc_1 (mk_p (ms_get (idx := 266) (w := 1476) (host := none) mx_c12 (by decide) ml_f_LeagueOfficeModel_266 (by decide +kernel)) rfl) <|
  mc_1 (mk_p (ms_if_ge (off := (11)) (by decide +kernel) (by decide)) rfl) <|
  mc_1 (mk_p (ms_aload_n (k := 0) (by decide +kernel) rfl) rfl) <|
  mc_1 (mk_p (ms_aload_n (k := 0) (by decide +kernel) rfl) rfl) <|
  mc_1 (mk_p (ms_get (idx := 244) (w := 1472) (host := none) mx_c12 (by decide) ml_f_LeagueOfficeModel_244 (by decide +kernel)) rfl) <|
  mc_1 (mk_p (ms_put (idx := 266) (w := 1476) (host := none) mx_c12 (by decide) ml_f_LeagueOfficeModel_266 rfl rfl (by decide +kernel)) rfl) <|
  mc_1 (mk_r (Or.inr (Or.inr (Or.inr ⟨rfl, by decide +kernel, rfl⟩))) rfl) <| mc_0
theorem mw_188 : ∀ ch ∈ mt_188, ∀ e ∈ ch, mx_Ok mx_MT mq_188 e.1 e.2 := mc_2 mw_188_0 <| mc_3
/- 189 LeagueOfficeModel.lay(II)V -/
theorem mw_189_0 : ∀ e ∈ mt_189_0, mx_Ok mx_MT mq_189 e.1 e.2 := 
  mc_1 (mk_p (ms_aload_n (k := 0) (by decide +kernel) rfl) rfl) <|
  mc_1 (mk_p (ms_get (idx := 97) (w := 1470) (host := none) mx_c12 (by decide) ml_f_LeagueOfficeModel_97 (by decide +kernel)) rfl) <|
  mc_1 (mk_p (ms_sipush (n := 170) (by decide +kernel) (by decide +kernel)) rfl) <|
  mc_1 (mk_p (ms_aload_n (k := 0) (by decide +kernel) rfl) rfl) <|
  mc_1 (mk_p (ms_get (idx := 269) (w := 1468) (host := none) mx_c12 (by decide) ml_f_LeagueOfficeModel_269 (by decide +kernel)) rfl) <|
  mc_1 (mk_p (ms_imul (by decide +kernel)) rfl) <|
  mc_1 (mk_p (ms_aload_n (k := 0) (by decide +kernel) rfl) rfl) <|
  mc_1 (mk_p (ms_get (idx := 272) (w := 1478) (host := none) mx_c12 (by decide) ml_f_LeagueOfficeModel_272 (by decide +kernel)) rfl) <| mc_0
theorem mw_189_1 : ∀ e ∈ mt_189_1, mx_Ok mx_MT mq_189 e.1 e.2 := 
  mc_1 (mk_p (ms_iadd (by decide +kernel)) rfl) <|
  mc_1 (mk_p (ms_iload_n (k := 1) (by decide +kernel) rfl) rfl) <|
  mc_1 (mk_p (ms_ast (Or.inl ⟨rfl, by decide +kernel⟩)) rfl) <|
  mc_1 (mk_p (ms_aload_n (k := 0) (by decide +kernel) rfl) rfl) <|
  mc_1 (mk_p (ms_get (idx := 100) (w := 1471) (host := none) mx_c12 (by decide) ml_f_LeagueOfficeModel_100 (by decide +kernel)) rfl) <|
  mc_1 (mk_p (ms_sipush (n := 170) (by decide +kernel) (by decide +kernel)) rfl) <|
  mc_1 (mk_p (ms_aload_n (k := 0) (by decide +kernel) rfl) rfl) <|
  mc_1 (mk_p (ms_get (idx := 269) (w := 1468) (host := none) mx_c12 (by decide) ml_f_LeagueOfficeModel_269 (by decide +kernel)) rfl) <|
  mc_1 (mk_p (ms_imul (by decide +kernel)) rfl) <|
  mc_1 (mk_p (ms_aload_n (k := 0) (by decide +kernel) rfl) rfl) <| mc_0
theorem mw_189_2 : ∀ e ∈ mt_189_2, mx_Ok mx_MT mq_189 e.1 e.2 := 
  mc_1 (mk_p (ms_get (idx := 272) (w := 1478) (host := none) mx_c12 (by decide) ml_f_LeagueOfficeModel_272 (by decide +kernel)) rfl) <|
  mc_1 (mk_p (ms_iadd (by decide +kernel)) rfl) <|
  mc_1 (mk_p (ms_iload_n (k := 2) (by decide +kernel) rfl) rfl) <|
  mc_1 (mk_p (ms_ast (Or.inl ⟨rfl, by decide +kernel⟩)) rfl) <|
  mc_1 (mk_p (ms_aload_n (k := 0) (by decide +kernel) rfl) rfl) <|
  mc_1 (mk_p (ms_dup (by decide +kernel)) rfl) <|
  mc_1 (mk_p (ms_get (idx := 272) (w := 1478) (host := none) mx_c12 (by decide) ml_f_LeagueOfficeModel_272 (by decide +kernel)) rfl) <|
  mc_1 (mk_p (ms_iconst (n := 1) (by decide +kernel) (by decide +kernel)) rfl) <|
  mc_1 (mk_p (ms_iadd (by decide +kernel)) rfl) <|
  mc_1 (mk_p (ms_put (idx := 272) (w := 1478) (host := none) mx_c12 (by decide) ml_f_LeagueOfficeModel_272 rfl rfl (by decide +kernel)) rfl) <| mc_0
theorem mw_189_3 : ∀ e ∈ mt_189_3, mx_Ok mx_MT mq_189 e.1 e.2 := 
  mc_1 (mk_r (Or.inr (Or.inr (Or.inr ⟨rfl, by decide +kernel, rfl⟩))) rfl) <| mc_0
theorem mw_189 : ∀ ch ∈ mt_189, ∀ e ∈ ch, mx_Ok mx_MT mq_189 e.1 e.2 := mc_2 mw_189_0 <| mc_2 mw_189_1 <| mc_2 mw_189_2 <| mc_2 mw_189_3 <| mc_3
/- 190 LeagueOfficeModel.opens()Z -/
theorem mw_190_0 : ∀ e ∈ mt_190_0, mx_Ok mx_MT mq_190 e.1 e.2 := 
  mc_1 (mk_p (ms_aload_n (k := 0) (by decide +kernel) rfl) rfl) <|
  mc_1 (mk_p (ms_get (idx := 275) (w := 1477) (host := none) mx_c12 (by decide) ml_f_LeagueOfficeModel_275 (by decide +kernel)) rfl) <|
  mc_1 (mk_p (ms_iconst (n := 5) (by decide +kernel) (by decide +kernel)) rfl) <|
  mc_1 (mk_p (ms_icmp_ne (off := (9)) (by decide +kernel) (by decide)) rfl) <|
  mc_1 (mk_p (ms_aload_n (k := 0) (by decide +kernel) rfl) rfl) <|
  mc_1 (mk_c (k := mq_188) rfl ⟨mo_188, 278, 1408, none, ml_m_LeagueOfficeModel_278, Or.inr (Or.inr (Or.inl ⟨12, TX12, 78, by decide, rfl, rfl, (by decide +kernel), ⟨0, rfl, mx_npd (by decide +kernel)⟩, ml_in_1410, ml_se_36⟩))⟩) <|
  mc_1 (mk_p (ms_iconst (n := 0) (by decide +kernel) (by decide +kernel)) rfl) <|
  mc_1 (mk_r (Or.inl ⟨rfl, by decide +kernel, _, rfl, mf_2⟩) rfl) <|
  mc_1 (mk_p (ms_aload_n (k := 0) (by decide +kernel) rfl) rfl) <|
  mc_1 (mk_p (ms_dup (by decide +kernel)) rfl) <| mc_0
theorem mw_190_1 : ∀ e ∈ mt_190_1, mx_Ok mx_MT mq_190 e.1 e.2 := 
  mc_1 (mk_p (ms_get (idx := 275) (w := 1477) (host := none) mx_c12 (by decide) ml_f_LeagueOfficeModel_275 (by decide +kernel)) rfl) <|
  mc_1 (mk_p (ms_iconst (n := 1) (by decide +kernel) (by decide +kernel)) rfl) <|
  mc_1 (mk_p (ms_iadd (by decide +kernel)) rfl) <|
  mc_1 (mk_p (ms_put (idx := 275) (w := 1477) (host := none) mx_c12 (by decide) ml_f_LeagueOfficeModel_275 rfl rfl (by decide +kernel)) rfl) <|
  mc_1 (mk_p (ms_aload_n (k := 0) (by decide +kernel) rfl) rfl) <|
  mc_1 (mk_c (k := mq_186) rfl ⟨mo_186, 281, 1387, none, ml_m_LeagueOfficeModel_281, Or.inr (Or.inr (Or.inl ⟨12, TX12, 78, by decide, rfl, rfl, (by decide +kernel), ⟨0, rfl, mx_npd (by decide +kernel)⟩, ml_in_1389, ml_se_34⟩))⟩) <|
  mc_1 (mk_p (ms_iconst (n := 1) (by decide +kernel) (by decide +kernel)) rfl) <|
  mc_1 (mk_r (Or.inl ⟨rfl, by decide +kernel, _, rfl, mf_2⟩) rfl) <| mc_0
theorem mw_190 : ∀ ch ∈ mt_190, ∀ e ∈ ch, mx_Ok mx_MT mq_190 e.1 e.2 := mc_2 mw_190_0 <| mc_2 mw_190_1 <| mc_3
/- 191 LeagueOfficeModel.nameOf()I -/
theorem mw_191_0 : ∀ e ∈ mt_191_0, mx_Ok mx_MT mq_191 e.1 e.2 := 
  mc_1 (mk_p (ms_iconst (n := 0) (by decide +kernel) (by decide +kernel)) rfl) <|
  mc_1 (mk_p (ms_istore_n (k := 1) (by decide +kernel) rfl (by decide)) rfl) <|
  mc_1 (mk_p (ms_iload_n (k := 1) (by decide +kernel) rfl) rfl) <|
  mc_1 (mk_p (ms_bipush (n := 6) (by decide +kernel) (by decide +kernel)) rfl) <|
  mc_1 (mk_p (ms_icmp_ge (off := (23)) (by decide +kernel) (by decide)) rfl) <|
  mc_1 (mk_p (ms_aload_n (k := 0) (by decide +kernel) rfl) rfl) <|
  mc_1 (mk_p (ms_gets (q := ("LeagueOfficeModel", "NAMES", "[J", .ref 1007)) (idx := 284) (w := 1449) (host := none) rfl ml_f_LeagueOfficeModel_284 (by decide +kernel)) rfl) <|
  mc_1 (mk_p (ms_iload_n (k := 1) (by decide +kernel) rfl) rfl) <|
  mc_1 (mk_p (ms_ald (Or.inr (Or.inr (Or.inr ⟨rfl, by decide +kernel⟩)))) rfl) <|
  mc_1 (mk_c (k := mq_187) rfl ⟨mo_187, 287, 1402, none, ml_m_LeagueOfficeModel_287, Or.inr (Or.inr (Or.inl ⟨12, TX12, 78, by decide, rfl, rfl, (by decide +kernel), ⟨1, rfl, mx_npd (by decide +kernel)⟩, ml_in_1404, ml_se_35⟩))⟩) <| mc_0
theorem mw_191_1 : ∀ e ∈ mt_191_1, mx_Ok mx_MT mq_191 e.1 e.2 := 
  mc_1 (mk_p (ms_if_eq (off := (5)) (by decide +kernel) (by decide)) rfl) <|
  mc_1 (mk_p (ms_iload_n (k := 1) (by decide +kernel) rfl) rfl) <|
  mc_1 (mk_r (Or.inl ⟨rfl, by decide +kernel, _, rfl, mf_0⟩) rfl) <|
  mc_1 (mk_p (ms_iinc (n := (1)) (by decide +kernel) (by decide +kernel) (by decide)) rfl) <|
  mc_1 (mk_p (ms_goto (off := (-23)) (by decide +kernel) (by decide)) rfl) <|
  mc_1 (mk_p (ms_iconst (n := (-1)) (by decide +kernel) (by decide +kernel)) rfl) <|
  mc_1 (mk_r (Or.inl ⟨rfl, by decide +kernel, _, rfl, mf_0⟩) rfl) <| mc_0
theorem mw_191 : ∀ ch ∈ mt_191, ∀ e ∈ ch, mx_Ok mx_MT mq_191 e.1 e.2 := mc_2 mw_191_0 <| mc_2 mw_191_1 <| mc_3
/- 192 LeagueOfficeModel.one()V -/
theorem mw_192_0 : ∀ e ∈ mt_192_0, mx_Ok mx_MT mq_192 e.1 e.2 := 
  mc_1 (mk_p (ms_aload_n (k := 0) (by decide +kernel) rfl) rfl) <|
  mc_1 (mk_p (ms_get (idx := 247) (w := 1474) (host := none) mx_c12 (by decide) ml_f_LeagueOfficeModel_247 (by decide +kernel)) rfl) <|
  mc_1 (mk_p (ms_iconst (n := 2) (by decide +kernel) (by decide +kernel)) rfl) <|
  mc_1 (mk_p (ms_icmp_ne (off := (19)) (by decide +kernel) (by decide)) rfl) <|
  mc_1 (mk_p (ms_aload_n (k := 0) (by decide +kernel) rfl) rfl) <|
  mc_1 (mk_p (ms_iconst (n := 1) (by decide +kernel) (by decide +kernel)) rfl) <|
  mc_1 (mk_p (ms_aload_n (k := 0) (by decide +kernel) rfl) rfl) <|
  mc_1 (mk_p (ms_get (idx := 256) (w := 1475) (host := none) mx_c12 (by decide) ml_f_LeagueOfficeModel_256 (by decide +kernel)) rfl) <|
  mc_1 (mk_c (k := mq_189) rfl ⟨mo_189, 291, 1429, none, ml_m_LeagueOfficeModel_291, Or.inr (Or.inr (Or.inl ⟨12, TX12, 78, by decide, rfl, rfl, (by decide +kernel), ⟨2, rfl, mx_npd (by decide +kernel)⟩, ml_in_1431, ml_se_41⟩))⟩) <| mc_0
theorem mw_192_1 : ∀ e ∈ mt_192_1, mx_Ok mx_MT mq_192 e.1 e.2 := 
  mc_1 (mk_p (ms_aload_n (k := 0) (by decide +kernel) rfl) rfl) <|
  mc_1 (mk_c (k := mq_186) rfl ⟨mo_186, 281, 1387, none, ml_m_LeagueOfficeModel_281, Or.inr (Or.inr (Or.inl ⟨12, TX12, 78, by decide, rfl, rfl, (by decide +kernel), ⟨0, rfl, mx_npd (by decide +kernel)⟩, ml_in_1389, ml_se_34⟩))⟩) <|
  mc_1 (mk_p (ms_goto (off := (130)) (by decide +kernel) (by decide)) rfl) <|
  mc_1 (mk_p (ms_aload_n (k := 0) (by decide +kernel) rfl) rfl) <|
  mc_1 (mk_p (ms_get (idx := 247) (w := 1474) (host := none) mx_c12 (by decide) ml_f_LeagueOfficeModel_247 (by decide +kernel)) rfl) <|
  mc_1 (mk_p (ms_bipush (n := 45) (by decide +kernel) (by decide +kernel)) rfl) <|
  mc_1 (mk_p (ms_icmp_ne (off := (34)) (by decide +kernel) (by decide)) rfl) <| mc_0
theorem mw_192_2 : ∀ e ∈ mt_192_2, mx_Ok mx_MT mq_192 e.1 e.2 := 
  mc_1 (mk_p (ms_aload_n (k := 0) (by decide +kernel) rfl) rfl) <|
  mc_1 (mk_c (k := mq_190) rfl ⟨mo_190, 295, 1425, none, ml_m_LeagueOfficeModel_295, Or.inr (Or.inr (Or.inl ⟨12, TX12, 78, by decide, rfl, rfl, (by decide +kernel), ⟨0, rfl, mx_npd (by decide +kernel)⟩, ml_in_1427, ml_se_40⟩))⟩) <|
  mc_1 (mk_p (ms_if_ne (off := (4)) (by decide +kernel) (by decide)) rfl) <|
  mc_1 (mk_r (Or.inr (Or.inr (Or.inr ⟨rfl, by decide +kernel, rfl⟩))) rfl) <|
  mc_1 (mk_p (ms_aload_n (k := 0) (by decide +kernel) rfl) rfl) <|
  mc_1 (mk_c (k := mq_192) rfl ⟨mo_192, 299, 1441, none, ml_m_LeagueOfficeModel_299, Or.inr (Or.inr (Or.inl ⟨12, TX12, 78, by decide, rfl, rfl, (by decide +kernel), ⟨0, rfl, mx_npd (by decide +kernel)⟩, ml_in_1443, ml_se_44⟩))⟩) <|
  mc_1 (mk_p (ms_aload_n (k := 0) (by decide +kernel) rfl) rfl) <|
  mc_1 (mk_p (ms_dup (by decide +kernel)) rfl) <|
  mc_1 (mk_p (ms_get (idx := 275) (w := 1477) (host := none) mx_c12 (by decide) ml_f_LeagueOfficeModel_275 (by decide +kernel)) rfl) <| mc_0
theorem mw_192_3 : ∀ e ∈ mt_192_3, mx_Ok mx_MT mq_192 e.1 e.2 := 
  mc_1 (mk_p (ms_iconst (n := 1) (by decide +kernel) (by decide +kernel)) rfl) <|
  mc_1 (mk_p (ms_isub (by decide +kernel)) rfl) <|
  mc_1 (mk_p (ms_put (idx := 275) (w := 1477) (host := none) mx_c12 (by decide) ml_f_LeagueOfficeModel_275 rfl rfl (by decide +kernel)) rfl) <|
  mc_1 (mk_p (ms_aload_n (k := 0) (by decide +kernel) rfl) rfl) <|
  mc_1 (mk_p (ms_iconst (n := 4) (by decide +kernel) (by decide +kernel)) rfl) <|
  mc_1 (mk_p (ms_iconst (n := 0) (by decide +kernel) (by decide +kernel)) rfl) <|
  mc_1 (mk_c (k := mq_189) rfl ⟨mo_189, 291, 1429, none, ml_m_LeagueOfficeModel_291, Or.inr (Or.inr (Or.inl ⟨12, TX12, 78, by decide, rfl, rfl, (by decide +kernel), ⟨2, rfl, mx_npd (by decide +kernel)⟩, ml_in_1431, ml_se_41⟩))⟩) <|
  mc_1 (mk_p (ms_goto (off := (90)) (by decide +kernel) (by decide)) rfl) <| mc_0
theorem mw_192_4 : ∀ e ∈ mt_192_4, mx_Ok mx_MT mq_192 e.1 e.2 := 
  mc_1 (mk_p (ms_aload_n (k := 0) (by decide +kernel) rfl) rfl) <|
  mc_1 (mk_p (ms_get (idx := 247) (w := 1474) (host := none) mx_c12 (by decide) ml_f_LeagueOfficeModel_247 (by decide +kernel)) rfl) <|
  mc_1 (mk_p (ms_bipush (n := 40) (by decide +kernel) (by decide +kernel)) rfl) <|
  mc_1 (mk_p (ms_icmp_ne (off := (54)) (by decide +kernel) (by decide)) rfl) <|
  mc_1 (mk_p (ms_aload_n (k := 0) (by decide +kernel) rfl) rfl) <|
  mc_1 (mk_c (k := mq_190) rfl ⟨mo_190, 295, 1425, none, ml_m_LeagueOfficeModel_295, Or.inr (Or.inr (Or.inl ⟨12, TX12, 78, by decide, rfl, rfl, (by decide +kernel), ⟨0, rfl, mx_npd (by decide +kernel)⟩, ml_in_1427, ml_se_40⟩))⟩) <|
  mc_1 (mk_p (ms_if_ne (off := (4)) (by decide +kernel) (by decide)) rfl) <| mc_0
theorem mw_192_5 : ∀ e ∈ mt_192_5, mx_Ok mx_MT mq_192 e.1 e.2 := 
  mc_1 (mk_r (Or.inr (Or.inr (Or.inr ⟨rfl, by decide +kernel, rfl⟩))) rfl) <|
  mc_1 (mk_p (ms_aload_n (k := 0) (by decide +kernel) rfl) rfl) <|
  mc_1 (mk_c (k := mq_197) rfl ⟨mo_197, 302, 1412, none, ml_m_LeagueOfficeModel_302, Or.inr (Or.inr (Or.inl ⟨12, TX12, 78, by decide, rfl, rfl, (by decide +kernel), ⟨0, rfl, mx_npd (by decide +kernel)⟩, ml_in_1414, ml_se_37⟩))⟩) <|
  mc_1 (mk_p (ms_aload_n (k := 0) (by decide +kernel) rfl) rfl) <|
  mc_1 (mk_p (ms_get (idx := 266) (w := 1476) (host := none) mx_c12 (by decide) ml_f_LeagueOfficeModel_266 (by decide +kernel)) rfl) <|
  mc_1 (mk_p (ms_if_lt (off := (4)) (by decide +kernel) (by decide)) rfl) <|
  mc_1 (mk_r (Or.inr (Or.inr (Or.inr ⟨rfl, by decide +kernel, rfl⟩))) rfl) <|
  mc_1 (mk_p (ms_aload_n (k := 0) (by decide +kernel) rfl) rfl) <|
  mc_1 (mk_p (ms_get (idx := 247) (w := 1474) (host := none) mx_c12 (by decide) ml_f_LeagueOfficeModel_247 (by decide +kernel)) rfl) <| mc_0
theorem mw_192_6 : ∀ e ∈ mt_192_6, mx_Ok mx_MT mq_192 e.1 e.2 := 
  mc_1 (mk_p (ms_bipush (n := 41) (by decide +kernel) (by decide +kernel)) rfl) <|
  mc_1 (mk_p (ms_icmp_eq (off := (8)) (by decide +kernel) (by decide)) rfl) <|
  mc_1 (mk_p (ms_aload_n (k := 0) (by decide +kernel) rfl) rfl) <|
  mc_1 (mk_c (k := mq_188) rfl ⟨mo_188, 278, 1408, none, ml_m_LeagueOfficeModel_278, Or.inr (Or.inr (Or.inl ⟨12, TX12, 78, by decide, rfl, rfl, (by decide +kernel), ⟨0, rfl, mx_npd (by decide +kernel)⟩, ml_in_1410, ml_se_36⟩))⟩) <|
  mc_1 (mk_r (Or.inr (Or.inr (Or.inr ⟨rfl, by decide +kernel, rfl⟩))) rfl) <|
  mc_1 (mk_p (ms_aload_n (k := 0) (by decide +kernel) rfl) rfl) <|
  mc_1 (mk_p (ms_dup (by decide +kernel)) rfl) <|
  mc_1 (mk_p (ms_get (idx := 275) (w := 1477) (host := none) mx_c12 (by decide) ml_f_LeagueOfficeModel_275 (by decide +kernel)) rfl) <| mc_0
theorem mw_192_7 : ∀ e ∈ mt_192_7, mx_Ok mx_MT mq_192 e.1 e.2 := 
  mc_1 (mk_p (ms_iconst (n := 1) (by decide +kernel) (by decide +kernel)) rfl) <|
  mc_1 (mk_p (ms_isub (by decide +kernel)) rfl) <|
  mc_1 (mk_p (ms_put (idx := 275) (w := 1477) (host := none) mx_c12 (by decide) ml_f_LeagueOfficeModel_275 rfl rfl (by decide +kernel)) rfl) <|
  mc_1 (mk_p (ms_aload_n (k := 0) (by decide +kernel) rfl) rfl) <|
  mc_1 (mk_c (k := mq_186) rfl ⟨mo_186, 281, 1387, none, ml_m_LeagueOfficeModel_281, Or.inr (Or.inr (Or.inl ⟨12, TX12, 78, by decide, rfl, rfl, (by decide +kernel), ⟨0, rfl, mx_npd (by decide +kernel)⟩, ml_in_1389, ml_se_34⟩))⟩) <|
  mc_1 (mk_p (ms_goto (off := (30)) (by decide +kernel) (by decide)) rfl) <|
  mc_1 (mk_p (ms_aload_n (k := 0) (by decide +kernel) rfl) rfl) <|
  mc_1 (mk_c (k := mq_191) rfl ⟨mo_191, 305, 1445, none, ml_m_LeagueOfficeModel_305, Or.inr (Or.inr (Or.inl ⟨12, TX12, 78, by decide, rfl, rfl, (by decide +kernel), ⟨0, rfl, mx_npd (by decide +kernel)⟩, ml_in_1447, ml_se_45⟩))⟩) <| mc_0
theorem mw_192_8 : ∀ e ∈ mt_192_8, mx_Ok mx_MT mq_192 e.1 e.2 := 
  mc_1 (mk_p (ms_if_lt (off := (19)) (by decide +kernel) (by decide)) rfl) <|
  mc_1 (mk_p (ms_aload_n (k := 0) (by decide +kernel) rfl) rfl) <|
  mc_1 (mk_p (ms_iconst (n := 2) (by decide +kernel) (by decide +kernel)) rfl) <|
  mc_1 (mk_p (ms_aload_n (k := 0) (by decide +kernel) rfl) rfl) <|
  mc_1 (mk_c (k := mq_191) rfl ⟨mo_191, 305, 1445, none, ml_m_LeagueOfficeModel_305, Or.inr (Or.inr (Or.inl ⟨12, TX12, 78, by decide, rfl, rfl, (by decide +kernel), ⟨0, rfl, mx_npd (by decide +kernel)⟩, ml_in_1447, ml_se_45⟩))⟩) <|
  mc_1 (mk_c (k := mq_189) rfl ⟨mo_189, 291, 1429, none, ml_m_LeagueOfficeModel_291, Or.inr (Or.inr (Or.inl ⟨12, TX12, 78, by decide, rfl, rfl, (by decide +kernel), ⟨2, rfl, mx_npd (by decide +kernel)⟩, ml_in_1431, ml_se_41⟩))⟩) <|
  mc_1 (mk_p (ms_aload_n (k := 0) (by decide +kernel) rfl) rfl) <|
  mc_1 (mk_c (k := mq_186) rfl ⟨mo_186, 281, 1387, none, ml_m_LeagueOfficeModel_281, Or.inr (Or.inr (Or.inl ⟨12, TX12, 78, by decide, rfl, rfl, (by decide +kernel), ⟨0, rfl, mx_npd (by decide +kernel)⟩, ml_in_1389, ml_se_34⟩))⟩) <| mc_0
theorem mw_192_9 : ∀ e ∈ mt_192_9, mx_Ok mx_MT mq_192 e.1 e.2 := 
  mc_1 (mk_p (ms_goto (off := (7)) (by decide +kernel) (by decide)) rfl) <|
  mc_1 (mk_p (ms_aload_n (k := 0) (by decide +kernel) rfl) rfl) <|
  mc_1 (mk_c (k := mq_188) rfl ⟨mo_188, 278, 1408, none, ml_m_LeagueOfficeModel_278, Or.inr (Or.inr (Or.inl ⟨12, TX12, 78, by decide, rfl, rfl, (by decide +kernel), ⟨0, rfl, mx_npd (by decide +kernel)⟩, ml_in_1410, ml_se_36⟩))⟩) <|
  mc_1 (mk_r (Or.inr (Or.inr (Or.inr ⟨rfl, by decide +kernel, rfl⟩))) rfl) <| mc_0
theorem mw_192 : ∀ ch ∈ mt_192, ∀ e ∈ ch, mx_Ok mx_MT mq_192 e.1 e.2 := mc_2 mw_192_0 <| mc_2 mw_192_1 <| mc_2 mw_192_2 <| mc_2 mw_192_3 <| mc_2 mw_192_4 <| mc_2 mw_192_5 <| mc_2 mw_192_6 <| mc_2 mw_192_7 <| mc_2 mw_192_8 <| mc_2 mw_192_9 <| mc_3
/- 193 LeagueOfficeModel.term()V -/
theorem mw_193_0 : ∀ e ∈ mt_193_0, mx_Ok mx_MT mq_193 e.1 e.2 := 
  mc_1 (mk_p (ms_aload_n (k := 0) (by decide +kernel) rfl) rfl) <|
  mc_1 (mk_c (k := mq_192) rfl ⟨mo_192, 299, 1441, none, ml_m_LeagueOfficeModel_299, Or.inr (Or.inr (Or.inl ⟨12, TX12, 78, by decide, rfl, rfl, (by decide +kernel), ⟨0, rfl, mx_npd (by decide +kernel)⟩, ml_in_1443, ml_se_44⟩))⟩) <|
  mc_1 (mk_p (ms_aload_n (k := 0) (by decide +kernel) rfl) rfl) <|
  mc_1 (mk_p (ms_get (idx := 266) (w := 1476) (host := none) mx_c12 (by decide) ml_f_LeagueOfficeModel_266 (by decide +kernel)) rfl) <|
  mc_1 (mk_p (ms_if_ge (off := (30)) (by decide +kernel) (by decide)) rfl) <|
  mc_1 (mk_p (ms_aload_n (k := 0) (by decide +kernel) rfl) rfl) <|
  mc_1 (mk_p (ms_get (idx := 247) (w := 1474) (host := none) mx_c12 (by decide) ml_f_LeagueOfficeModel_247 (by decide +kernel)) rfl) <|
  mc_1 (mk_p (ms_bipush (n := 42) (by decide +kernel) (by decide +kernel)) rfl) <| mc_0
theorem mw_193_1 : ∀ e ∈ mt_193_1, mx_Ok mx_MT mq_193 e.1 e.2 := 
  mc_1 (mk_p (ms_icmp_ne (off := (21)) (by decide +kernel) (by decide)) rfl) <|
  mc_1 (mk_p (ms_aload_n (k := 0) (by decide +kernel) rfl) rfl) <|
  mc_1 (mk_c (k := mq_186) rfl ⟨mo_186, 281, 1387, none, ml_m_LeagueOfficeModel_281, Or.inr (Or.inr (Or.inl ⟨12, TX12, 78, by decide, rfl, rfl, (by decide +kernel), ⟨0, rfl, mx_npd (by decide +kernel)⟩, ml_in_1389, ml_se_34⟩))⟩) <|
  mc_1 (mk_p (ms_aload_n (k := 0) (by decide +kernel) rfl) rfl) <|
  mc_1 (mk_c (k := mq_192) rfl ⟨mo_192, 299, 1441, none, ml_m_LeagueOfficeModel_299, Or.inr (Or.inr (Or.inl ⟨12, TX12, 78, by decide, rfl, rfl, (by decide +kernel), ⟨0, rfl, mx_npd (by decide +kernel)⟩, ml_in_1443, ml_se_44⟩))⟩) <|
  mc_1 (mk_p (ms_aload_n (k := 0) (by decide +kernel) rfl) rfl) <|
  mc_1 (mk_p (ms_bipush (n := 42) (by decide +kernel) (by decide +kernel)) rfl) <|
  mc_1 (mk_p (ms_iconst (n := 0) (by decide +kernel) (by decide +kernel)) rfl) <| mc_0
theorem mw_193_2 : ∀ e ∈ mt_193_2, mx_Ok mx_MT mq_193 e.1 e.2 := 
  mc_1 (mk_c (k := mq_189) rfl ⟨mo_189, 291, 1429, none, ml_m_LeagueOfficeModel_291, Or.inr (Or.inr (Or.inl ⟨12, TX12, 78, by decide, rfl, rfl, (by decide +kernel), ⟨2, rfl, mx_npd (by decide +kernel)⟩, ml_in_1431, ml_se_41⟩))⟩) <|
  mc_1 (mk_p (ms_goto (off := (-31)) (by decide +kernel) (by decide)) rfl) <|
  mc_1 (mk_r (Or.inr (Or.inr (Or.inr ⟨rfl, by decide +kernel, rfl⟩))) rfl) <| mc_0
theorem mw_193 : ∀ ch ∈ mt_193, ∀ e ∈ ch, mx_Ok mx_MT mq_193 e.1 e.2 := mc_2 mw_193_0 <| mc_2 mw_193_1 <| mc_2 mw_193_2 <| mc_3
/- 194 LeagueOfficeModel.sum()V -/
theorem mw_194_0 : ∀ e ∈ mt_194_0, mx_Ok mx_MT mq_194 e.1 e.2 := 
  mc_1 (mk_p (ms_aload_n (k := 0) (by decide +kernel) rfl) rfl) <|
  mc_1 (mk_c (k := mq_193) rfl ⟨mo_193, 308, 1437, none, ml_m_LeagueOfficeModel_308, Or.inr (Or.inr (Or.inl ⟨12, TX12, 78, by decide, rfl, rfl, (by decide +kernel), ⟨0, rfl, mx_npd (by decide +kernel)⟩, ml_in_1439, ml_se_43⟩))⟩) <|
  mc_1 (mk_p (ms_aload_n (k := 0) (by decide +kernel) rfl) rfl) <|
  mc_1 (mk_p (ms_get (idx := 266) (w := 1476) (host := none) mx_c12 (by decide) ml_f_LeagueOfficeModel_266 (by decide +kernel)) rfl) <|
  mc_1 (mk_p (ms_if_ge (off := (43)) (by decide +kernel) (by decide)) rfl) <|
  mc_1 (mk_p (ms_aload_n (k := 0) (by decide +kernel) rfl) rfl) <|
  mc_1 (mk_p (ms_get (idx := 247) (w := 1474) (host := none) mx_c12 (by decide) ml_f_LeagueOfficeModel_247 (by decide +kernel)) rfl) <|
  mc_1 (mk_p (ms_bipush (n := 43) (by decide +kernel) (by decide +kernel)) rfl) <| mc_0
theorem mw_194_1 : ∀ e ∈ mt_194_1, mx_Ok mx_MT mq_194 e.1 e.2 := 
  mc_1 (mk_p (ms_icmp_eq (off := (12)) (by decide +kernel) (by decide)) rfl) <|
  mc_1 (mk_p (ms_aload_n (k := 0) (by decide +kernel) rfl) rfl) <|
  mc_1 (mk_p (ms_get (idx := 247) (w := 1474) (host := none) mx_c12 (by decide) ml_f_LeagueOfficeModel_247 (by decide +kernel)) rfl) <|
  mc_1 (mk_p (ms_bipush (n := 45) (by decide +kernel) (by decide +kernel)) rfl) <|
  mc_1 (mk_p (ms_icmp_ne (off := (25)) (by decide +kernel) (by decide)) rfl) <|
  mc_1 (mk_p (ms_aload_n (k := 0) (by decide +kernel) rfl) rfl) <|
  mc_1 (mk_p (ms_get (idx := 247) (w := 1474) (host := none) mx_c12 (by decide) ml_f_LeagueOfficeModel_247 (by decide +kernel)) rfl) <| mc_0
theorem mw_194_2 : ∀ e ∈ mt_194_2, mx_Ok mx_MT mq_194 e.1 e.2 := 
  mc_1 (mk_p (ms_istore_n (k := 1) (by decide +kernel) rfl (by decide)) rfl) <|
  mc_1 (mk_p (ms_aload_n (k := 0) (by decide +kernel) rfl) rfl) <|
  mc_1 (mk_c (k := mq_186) rfl ⟨mo_186, 281, 1387, none, ml_m_LeagueOfficeModel_281, Or.inr (Or.inr (Or.inl ⟨12, TX12, 78, by decide, rfl, rfl, (by decide +kernel), ⟨0, rfl, mx_npd (by decide +kernel)⟩, ml_in_1389, ml_se_34⟩))⟩) <|
  mc_1 (mk_p (ms_aload_n (k := 0) (by decide +kernel) rfl) rfl) <|
  mc_1 (mk_c (k := mq_193) rfl ⟨mo_193, 308, 1437, none, ml_m_LeagueOfficeModel_308, Or.inr (Or.inr (Or.inl ⟨12, TX12, 78, by decide, rfl, rfl, (by decide +kernel), ⟨0, rfl, mx_npd (by decide +kernel)⟩, ml_in_1439, ml_se_43⟩))⟩) <|
  mc_1 (mk_p (ms_aload_n (k := 0) (by decide +kernel) rfl) rfl) <|
  mc_1 (mk_p (ms_iload_n (k := 1) (by decide +kernel) rfl) rfl) <|
  mc_1 (mk_p (ms_iconst (n := 0) (by decide +kernel) (by decide +kernel)) rfl) <|
  mc_1 (mk_c (k := mq_189) rfl ⟨mo_189, 291, 1429, none, ml_m_LeagueOfficeModel_291, Or.inr (Or.inr (Or.inl ⟨12, TX12, 78, by decide, rfl, rfl, (by decide +kernel), ⟨2, rfl, mx_npd (by decide +kernel)⟩, ml_in_1431, ml_se_41⟩))⟩) <| mc_0
theorem mw_194_3 : ∀ e ∈ mt_194_3, mx_Ok mx_MT mq_194 e.1 e.2 := 
  mc_1 (mk_p (ms_goto (off := (-44)) (by decide +kernel) (by decide)) rfl) <|
  mc_1 (mk_r (Or.inr (Or.inr (Or.inr ⟨rfl, by decide +kernel, rfl⟩))) rfl) <| mc_0
theorem mw_194 : ∀ ch ∈ mt_194, ∀ e ∈ ch, mx_Ok mx_MT mq_194 e.1 e.2 := mc_2 mw_194_0 <| mc_2 mw_194_1 <| mc_2 mw_194_2 <| mc_2 mw_194_3 <| mc_3
/- 195 LeagueOfficeModel.not()V -/
theorem mw_195_0 : ∀ e ∈ mt_195_0, mx_Ok mx_MT mq_195 e.1 e.2 := 
  mc_1 (mk_p (ms_aload_n (k := 0) (by decide +kernel) rfl) rfl) <|
  mc_1 (mk_p (ms_ldc2 (idx := 311) 1424 (by decide +kernel) (by decide +kernel)) rfl) <|
  mc_1 (mk_c (k := mq_187) rfl ⟨mo_187, 287, 1402, none, ml_m_LeagueOfficeModel_287, Or.inr (Or.inr (Or.inl ⟨12, TX12, 78, by decide, rfl, rfl, (by decide +kernel), ⟨1, rfl, mx_npd (by decide +kernel)⟩, ml_in_1404, ml_se_35⟩))⟩) <|
  mc_1 (mk_p (ms_if_eq (off := (32)) (by decide +kernel) (by decide)) rfl) <|
  mc_1 (mk_p (ms_aload_n (k := 0) (by decide +kernel) rfl) rfl) <|
  mc_1 (mk_c (k := mq_190) rfl ⟨mo_190, 295, 1425, none, ml_m_LeagueOfficeModel_295, Or.inr (Or.inr (Or.inl ⟨12, TX12, 78, by decide, rfl, rfl, (by decide +kernel), ⟨0, rfl, mx_npd (by decide +kernel)⟩, ml_in_1427, ml_se_40⟩))⟩) <|
  mc_1 (mk_p (ms_if_ne (off := (4)) (by decide +kernel) (by decide)) rfl) <| mc_0
theorem mw_195_1 : ∀ e ∈ mt_195_1, mx_Ok mx_MT mq_195 e.1 e.2 := 
  mc_1 (mk_r (Or.inr (Or.inr (Or.inr ⟨rfl, by decide +kernel, rfl⟩))) rfl) <|
  mc_1 (mk_p (ms_aload_n (k := 0) (by decide +kernel) rfl) rfl) <|
  mc_1 (mk_c (k := mq_195) rfl ⟨mo_195, 313, 1420, none, ml_m_LeagueOfficeModel_313, Or.inr (Or.inr (Or.inl ⟨12, TX12, 78, by decide, rfl, rfl, (by decide +kernel), ⟨0, rfl, mx_npd (by decide +kernel)⟩, ml_in_1422, ml_se_39⟩))⟩) <|
  mc_1 (mk_p (ms_aload_n (k := 0) (by decide +kernel) rfl) rfl) <|
  mc_1 (mk_p (ms_dup (by decide +kernel)) rfl) <|
  mc_1 (mk_p (ms_get (idx := 275) (w := 1477) (host := none) mx_c12 (by decide) ml_f_LeagueOfficeModel_275 (by decide +kernel)) rfl) <|
  mc_1 (mk_p (ms_iconst (n := 1) (by decide +kernel) (by decide +kernel)) rfl) <|
  mc_1 (mk_p (ms_isub (by decide +kernel)) rfl) <|
  mc_1 (mk_p (ms_put (idx := 275) (w := 1477) (host := none) mx_c12 (by decide) ml_f_LeagueOfficeModel_275 rfl rfl (by decide +kernel)) rfl) <| mc_0
theorem mw_195_2 : ∀ e ∈ mt_195_2, mx_Ok mx_MT mq_195 e.1 e.2 := 
  mc_1 (mk_p (ms_aload_n (k := 0) (by decide +kernel) rfl) rfl) <|
  mc_1 (mk_p (ms_iconst (n := 3) (by decide +kernel) (by decide +kernel)) rfl) <|
  mc_1 (mk_p (ms_iconst (n := 0) (by decide +kernel) (by decide +kernel)) rfl) <|
  mc_1 (mk_c (k := mq_189) rfl ⟨mo_189, 291, 1429, none, ml_m_LeagueOfficeModel_291, Or.inr (Or.inr (Or.inl ⟨12, TX12, 78, by decide, rfl, rfl, (by decide +kernel), ⟨2, rfl, mx_npd (by decide +kernel)⟩, ml_in_1431, ml_se_41⟩))⟩) <|
  mc_1 (mk_r (Or.inr (Or.inr (Or.inr ⟨rfl, by decide +kernel, rfl⟩))) rfl) <|
  mc_1 (mk_p (ms_aload_n (k := 0) (by decide +kernel) rfl) rfl) <|
  mc_1 (mk_c (k := mq_194) rfl ⟨mo_194, 316, 1433, none, ml_m_LeagueOfficeModel_316, Or.inr (Or.inr (Or.inl ⟨12, TX12, 78, by decide, rfl, rfl, (by decide +kernel), ⟨0, rfl, mx_npd (by decide +kernel)⟩, ml_in_1435, ml_se_42⟩))⟩) <|
  mc_1 (mk_p (ms_aload_n (k := 0) (by decide +kernel) rfl) rfl) <|
  mc_1 (mk_p (ms_get (idx := 247) (w := 1474) (host := none) mx_c12 (by decide) ml_f_LeagueOfficeModel_247 (by decide +kernel)) rfl) <|
  mc_1 (mk_p (ms_istore_n (k := 1) (by decide +kernel) rfl (by decide)) rfl) <| mc_0
theorem mw_195_3 : ∀ e ∈ mt_195_3, mx_Ok mx_MT mq_195 e.1 e.2 := 
  mc_1 (mk_p (ms_aload_n (k := 0) (by decide +kernel) rfl) rfl) <|
  mc_1 (mk_p (ms_get (idx := 266) (w := 1476) (host := none) mx_c12 (by decide) ml_f_LeagueOfficeModel_266 (by decide +kernel)) rfl) <|
  mc_1 (mk_p (ms_if_ge (off := (15)) (by decide +kernel) (by decide)) rfl) <|
  mc_1 (mk_p (ms_iload_n (k := 1) (by decide +kernel) rfl) rfl) <|
  mc_1 (mk_p (ms_bipush (n := 60) (by decide +kernel) (by decide +kernel)) rfl) <|
  mc_1 (mk_p (ms_icmp_eq (off := (10)) (by decide +kernel) (by decide)) rfl) <|
  mc_1 (mk_p (ms_iload_n (k := 1) (by decide +kernel) rfl) rfl) <|
  mc_1 (mk_p (ms_bipush (n := 61) (by decide +kernel) (by decide +kernel)) rfl) <| mc_0
theorem mw_195_4 : ∀ e ∈ mt_195_4, mx_Ok mx_MT mq_195 e.1 e.2 := 
  mc_1 (mk_p (ms_icmp_eq (off := (4)) (by decide +kernel) (by decide)) rfl) <|
  mc_1 (mk_r (Or.inr (Or.inr (Or.inr ⟨rfl, by decide +kernel, rfl⟩))) rfl) <|
  mc_1 (mk_p (ms_aload_n (k := 0) (by decide +kernel) rfl) rfl) <|
  mc_1 (mk_c (k := mq_186) rfl ⟨mo_186, 281, 1387, none, ml_m_LeagueOfficeModel_281, Or.inr (Or.inr (Or.inl ⟨12, TX12, 78, by decide, rfl, rfl, (by decide +kernel), ⟨0, rfl, mx_npd (by decide +kernel)⟩, ml_in_1389, ml_se_34⟩))⟩) <|
  mc_1 (mk_p (ms_aload_n (k := 0) (by decide +kernel) rfl) rfl) <|
  mc_1 (mk_c (k := mq_194) rfl ⟨mo_194, 316, 1433, none, ml_m_LeagueOfficeModel_316, Or.inr (Or.inr (Or.inl ⟨12, TX12, 78, by decide, rfl, rfl, (by decide +kernel), ⟨0, rfl, mx_npd (by decide +kernel)⟩, ml_in_1435, ml_se_42⟩))⟩) <|
  mc_1 (mk_p (ms_aload_n (k := 0) (by decide +kernel) rfl) rfl) <|
  mc_1 (mk_p (ms_iload_n (k := 1) (by decide +kernel) rfl) rfl) <|
  mc_1 (mk_p (ms_iconst (n := 0) (by decide +kernel) (by decide +kernel)) rfl) <|
  mc_1 (mk_c (k := mq_189) rfl ⟨mo_189, 291, 1429, none, ml_m_LeagueOfficeModel_291, Or.inr (Or.inr (Or.inl ⟨12, TX12, 78, by decide, rfl, rfl, (by decide +kernel), ⟨2, rfl, mx_npd (by decide +kernel)⟩, ml_in_1431, ml_se_41⟩))⟩) <| mc_0
theorem mw_195_5 : ∀ e ∈ mt_195_5, mx_Ok mx_MT mq_195 e.1 e.2 := 
  mc_1 (mk_r (Or.inr (Or.inr (Or.inr ⟨rfl, by decide +kernel, rfl⟩))) rfl) <| mc_0
theorem mw_195 : ∀ ch ∈ mt_195, ∀ e ∈ ch, mx_Ok mx_MT mq_195 e.1 e.2 := mc_2 mw_195_0 <| mc_2 mw_195_1 <| mc_2 mw_195_2 <| mc_2 mw_195_3 <| mc_2 mw_195_4 <| mc_2 mw_195_5 <| mc_3
/- 196 LeagueOfficeModel.and()V -/
theorem mw_196_0 : ∀ e ∈ mt_196_0, mx_Ok mx_MT mq_196 e.1 e.2 := 
  mc_1 (mk_p (ms_aload_n (k := 0) (by decide +kernel) rfl) rfl) <|
  mc_1 (mk_c (k := mq_195) rfl ⟨mo_195, 313, 1420, none, ml_m_LeagueOfficeModel_313, Or.inr (Or.inr (Or.inl ⟨12, TX12, 78, by decide, rfl, rfl, (by decide +kernel), ⟨0, rfl, mx_npd (by decide +kernel)⟩, ml_in_1422, ml_se_39⟩))⟩) <|
  mc_1 (mk_p (ms_aload_n (k := 0) (by decide +kernel) rfl) rfl) <|
  mc_1 (mk_p (ms_get (idx := 266) (w := 1476) (host := none) mx_c12 (by decide) ml_f_LeagueOfficeModel_266 (by decide +kernel)) rfl) <|
  mc_1 (mk_p (ms_if_ge (off := (30)) (by decide +kernel) (by decide)) rfl) <|
  mc_1 (mk_p (ms_aload_n (k := 0) (by decide +kernel) rfl) rfl) <|
  mc_1 (mk_p (ms_ldc2 (idx := 319) 1451 (by decide +kernel) (by decide +kernel)) rfl) <|
  mc_1 (mk_c (k := mq_187) rfl ⟨mo_187, 287, 1402, none, ml_m_LeagueOfficeModel_287, Or.inr (Or.inr (Or.inl ⟨12, TX12, 78, by decide, rfl, rfl, (by decide +kernel), ⟨1, rfl, mx_npd (by decide +kernel)⟩, ml_in_1404, ml_se_35⟩))⟩) <| mc_0
theorem mw_196_1 : ∀ e ∈ mt_196_1, mx_Ok mx_MT mq_196 e.1 e.2 := 
  mc_1 (mk_p (ms_if_eq (off := (20)) (by decide +kernel) (by decide)) rfl) <|
  mc_1 (mk_p (ms_aload_n (k := 0) (by decide +kernel) rfl) rfl) <|
  mc_1 (mk_c (k := mq_186) rfl ⟨mo_186, 281, 1387, none, ml_m_LeagueOfficeModel_281, Or.inr (Or.inr (Or.inl ⟨12, TX12, 78, by decide, rfl, rfl, (by decide +kernel), ⟨0, rfl, mx_npd (by decide +kernel)⟩, ml_in_1389, ml_se_34⟩))⟩) <|
  mc_1 (mk_p (ms_aload_n (k := 0) (by decide +kernel) rfl) rfl) <|
  mc_1 (mk_c (k := mq_195) rfl ⟨mo_195, 313, 1420, none, ml_m_LeagueOfficeModel_313, Or.inr (Or.inr (Or.inl ⟨12, TX12, 78, by decide, rfl, rfl, (by decide +kernel), ⟨0, rfl, mx_npd (by decide +kernel)⟩, ml_in_1422, ml_se_39⟩))⟩) <|
  mc_1 (mk_p (ms_aload_n (k := 0) (by decide +kernel) rfl) rfl) <|
  mc_1 (mk_p (ms_iconst (n := 5) (by decide +kernel) (by decide +kernel)) rfl) <|
  mc_1 (mk_p (ms_iconst (n := 0) (by decide +kernel) (by decide +kernel)) rfl) <| mc_0
theorem mw_196_2 : ∀ e ∈ mt_196_2, mx_Ok mx_MT mq_196 e.1 e.2 := 
  mc_1 (mk_c (k := mq_189) rfl ⟨mo_189, 291, 1429, none, ml_m_LeagueOfficeModel_291, Or.inr (Or.inr (Or.inl ⟨12, TX12, 78, by decide, rfl, rfl, (by decide +kernel), ⟨2, rfl, mx_npd (by decide +kernel)⟩, ml_in_1431, ml_se_41⟩))⟩) <|
  mc_1 (mk_p (ms_goto (off := (-31)) (by decide +kernel) (by decide)) rfl) <|
  mc_1 (mk_r (Or.inr (Or.inr (Or.inr ⟨rfl, by decide +kernel, rfl⟩))) rfl) <| mc_0
theorem mw_196 : ∀ ch ∈ mt_196, ∀ e ∈ ch, mx_Ok mx_MT mq_196 e.1 e.2 := mc_2 mw_196_0 <| mc_2 mw_196_1 <| mc_2 mw_196_2 <| mc_3
/- 197 LeagueOfficeModel.either()V -/
theorem mw_197_0 : ∀ e ∈ mt_197_0, mx_Ok mx_MT mq_197 e.1 e.2 := 
  mc_1 (mk_p (ms_aload_n (k := 0) (by decide +kernel) rfl) rfl) <|
  mc_1 (mk_c (k := mq_196) rfl ⟨mo_196, 321, 1416, none, ml_m_LeagueOfficeModel_321, Or.inr (Or.inr (Or.inl ⟨12, TX12, 78, by decide, rfl, rfl, (by decide +kernel), ⟨0, rfl, mx_npd (by decide +kernel)⟩, ml_in_1418, ml_se_38⟩))⟩) <|
  mc_1 (mk_p (ms_aload_n (k := 0) (by decide +kernel) rfl) rfl) <|
  mc_1 (mk_p (ms_get (idx := 266) (w := 1476) (host := none) mx_c12 (by decide) ml_f_LeagueOfficeModel_266 (by decide +kernel)) rfl) <|
  mc_1 (mk_p (ms_if_ge (off := (31)) (by decide +kernel) (by decide)) rfl) <|
  mc_1 (mk_p (ms_aload_n (k := 0) (by decide +kernel) rfl) rfl) <|
  mc_1 (mk_p (ms_ldc2 (idx := 324) 1452 (by decide +kernel) (by decide +kernel)) rfl) <|
  mc_1 (mk_c (k := mq_187) rfl ⟨mo_187, 287, 1402, none, ml_m_LeagueOfficeModel_287, Or.inr (Or.inr (Or.inl ⟨12, TX12, 78, by decide, rfl, rfl, (by decide +kernel), ⟨1, rfl, mx_npd (by decide +kernel)⟩, ml_in_1404, ml_se_35⟩))⟩) <| mc_0
theorem mw_197_1 : ∀ e ∈ mt_197_1, mx_Ok mx_MT mq_197 e.1 e.2 := 
  mc_1 (mk_p (ms_if_eq (off := (21)) (by decide +kernel) (by decide)) rfl) <|
  mc_1 (mk_p (ms_aload_n (k := 0) (by decide +kernel) rfl) rfl) <|
  mc_1 (mk_c (k := mq_186) rfl ⟨mo_186, 281, 1387, none, ml_m_LeagueOfficeModel_281, Or.inr (Or.inr (Or.inl ⟨12, TX12, 78, by decide, rfl, rfl, (by decide +kernel), ⟨0, rfl, mx_npd (by decide +kernel)⟩, ml_in_1389, ml_se_34⟩))⟩) <|
  mc_1 (mk_p (ms_aload_n (k := 0) (by decide +kernel) rfl) rfl) <|
  mc_1 (mk_c (k := mq_196) rfl ⟨mo_196, 321, 1416, none, ml_m_LeagueOfficeModel_321, Or.inr (Or.inr (Or.inl ⟨12, TX12, 78, by decide, rfl, rfl, (by decide +kernel), ⟨0, rfl, mx_npd (by decide +kernel)⟩, ml_in_1418, ml_se_38⟩))⟩) <|
  mc_1 (mk_p (ms_aload_n (k := 0) (by decide +kernel) rfl) rfl) <|
  mc_1 (mk_p (ms_bipush (n := 6) (by decide +kernel) (by decide +kernel)) rfl) <| mc_0
theorem mw_197_2 : ∀ e ∈ mt_197_2, mx_Ok mx_MT mq_197 e.1 e.2 := 
  mc_1 (mk_p (ms_iconst (n := 0) (by decide +kernel) (by decide +kernel)) rfl) <|
  mc_1 (mk_c (k := mq_189) rfl ⟨mo_189, 291, 1429, none, ml_m_LeagueOfficeModel_291, Or.inr (Or.inr (Or.inl ⟨12, TX12, 78, by decide, rfl, rfl, (by decide +kernel), ⟨2, rfl, mx_npd (by decide +kernel)⟩, ml_in_1431, ml_se_41⟩))⟩) <|
  mc_1 (mk_p (ms_goto (off := (-32)) (by decide +kernel) (by decide)) rfl) <|
  mc_1 (mk_r (Or.inr (Or.inr (Or.inr ⟨rfl, by decide +kernel, rfl⟩))) rfl) <| mc_0
theorem mw_197 : ∀ ch ∈ mt_197, ∀ e ∈ ch, mx_Ok mx_MT mq_197 e.1 e.2 := mc_2 mw_197_0 <| mc_2 mw_197_1 <| mc_2 mw_197_2 <| mc_3
/- 198 LeagueOfficeModel.readText()I -/
theorem mw_198_0 : ∀ e ∈ mt_198_0, mx_Ok mx_MT mq_198 e.1 e.2 := 
  mc_1 (mk_p (ms_aload_n (k := 0) (by decide +kernel) rfl) rfl) <|
  mc_1 (mk_p (ms_iconst (n := (-1)) (by decide +kernel) (by decide +kernel)) rfl) <|
  mc_1 (mk_p (ms_put (idx := 266) (w := 1476) (host := none) mx_c12 (by decide) ml_f_LeagueOfficeModel_266 rfl rfl (by decide +kernel)) rfl) <|
  mc_1 (mk_p (ms_aload_n (k := 0) (by decide +kernel) rfl) rfl) <|
  mc_1 (mk_p (ms_iconst (n := 0) (by decide +kernel) (by decide +kernel)) rfl) <|
  mc_1 (mk_p (ms_put (idx := 275) (w := 1477) (host := none) mx_c12 (by decide) ml_f_LeagueOfficeModel_275 rfl rfl (by decide +kernel)) rfl) <|
  mc_1 (mk_p (ms_aload_n (k := 0) (by decide +kernel) rfl) rfl) <|
  mc_1 (mk_p (ms_iconst (n := 0) (by decide +kernel) (by decide +kernel)) rfl) <|
  mc_1 (mk_p (ms_put (idx := 272) (w := 1478) (host := none) mx_c12 (by decide) ml_f_LeagueOfficeModel_272 rfl rfl (by decide +kernel)) rfl) <|
  mc_1 (mk_p (ms_aload_n (k := 0) (by decide +kernel) rfl) rfl) <| mc_0
theorem mw_198_1 : ∀ e ∈ mt_198_1, mx_Ok mx_MT mq_198 e.1 e.2 := 
  mc_1 (mk_p (ms_iconst (n := 0) (by decide +kernel) (by decide +kernel)) rfl) <|
  mc_1 (mk_p (ms_put (idx := 241) (w := 1473) (host := none) mx_c12 (by decide) ml_f_LeagueOfficeModel_241 rfl rfl (by decide +kernel)) rfl) <|
  mc_1 (mk_p (ms_aload_n (k := 0) (by decide +kernel) rfl) rfl) <|
  mc_1 (mk_c (k := mq_186) rfl ⟨mo_186, 281, 1387, none, ml_m_LeagueOfficeModel_281, Or.inr (Or.inr (Or.inl ⟨12, TX12, 78, by decide, rfl, rfl, (by decide +kernel), ⟨0, rfl, mx_npd (by decide +kernel)⟩, ml_in_1389, ml_se_34⟩))⟩) <|
  mc_1 (mk_p (ms_iconst (n := 0) (by decide +kernel) (by decide +kernel)) rfl) <|
  mc_1 (mk_p (ms_istore_n (k := 1) (by decide +kernel) rfl (by decide)) rfl) <|
  mc_1 (mk_p (ms_iload_n (k := 1) (by decide +kernel) rfl) rfl) <|
  mc_1 (mk_p (ms_iconst (n := 4) (by decide +kernel) (by decide +kernel)) rfl) <|
  mc_1 (mk_p (ms_icmp_ge (off := (90)) (by decide +kernel) (by decide)) rfl) <|
  mc_1 (mk_p (ms_aload_n (k := 0) (by decide +kernel) rfl) rfl) <| mc_0
theorem mw_198_2 : ∀ e ∈ mt_198_2, mx_Ok mx_MT mq_198 e.1 e.2 := 
  mc_1 (mk_p (ms_get (idx := 266) (w := 1476) (host := none) mx_c12 (by decide) ml_f_LeagueOfficeModel_266 (by decide +kernel)) rfl) <|
  mc_1 (mk_p (ms_if_ge (off := (83)) (by decide +kernel) (by decide)) rfl) <|
  mc_1 (mk_p (ms_aload_n (k := 0) (by decide +kernel) rfl) rfl) <|
  mc_1 (mk_p (ms_gets (q := ("LeagueOfficeModel", "PARTS", "[J", .ref 1006)) (idx := 326) (w := 1400) (host := none) rfl ml_f_LeagueOfficeModel_326 (by decide +kernel)) rfl) <|
  mc_1 (mk_p (ms_iload_n (k := 1) (by decide +kernel) rfl) rfl) <|
  mc_1 (mk_p (ms_ald (Or.inr (Or.inr (Or.inr ⟨rfl, by decide +kernel⟩)))) rfl) <|
  mc_1 (mk_c (k := mq_187) rfl ⟨mo_187, 287, 1402, none, ml_m_LeagueOfficeModel_287, Or.inr (Or.inr (Or.inl ⟨12, TX12, 78, by decide, rfl, rfl, (by decide +kernel), ⟨1, rfl, mx_npd (by decide +kernel)⟩, ml_in_1404, ml_se_35⟩))⟩) <|
  mc_1 (mk_p (ms_if_ne (off := (10)) (by decide +kernel) (by decide)) rfl) <| mc_0
theorem mw_198_3 : ∀ e ∈ mt_198_3, mx_Ok mx_MT mq_198 e.1 e.2 := 
  mc_1 (mk_p (ms_aload_n (k := 0) (by decide +kernel) rfl) rfl) <|
  mc_1 (mk_c (k := mq_188) rfl ⟨mo_188, 278, 1408, none, ml_m_LeagueOfficeModel_278, Or.inr (Or.inr (Or.inl ⟨12, TX12, 78, by decide, rfl, rfl, (by decide +kernel), ⟨0, rfl, mx_npd (by decide +kernel)⟩, ml_in_1410, ml_se_36⟩))⟩) <|
  mc_1 (mk_p (ms_goto (off := (64)) (by decide +kernel) (by decide)) rfl) <|
  mc_1 (mk_p (ms_aload_n (k := 0) (by decide +kernel) rfl) rfl) <|
  mc_1 (mk_c (k := mq_186) rfl ⟨mo_186, 281, 1387, none, ml_m_LeagueOfficeModel_281, Or.inr (Or.inr (Or.inl ⟨12, TX12, 78, by decide, rfl, rfl, (by decide +kernel), ⟨0, rfl, mx_npd (by decide +kernel)⟩, ml_in_1389, ml_se_34⟩))⟩) <|
  mc_1 (mk_p (ms_aload_n (k := 0) (by decide +kernel) rfl) rfl) <|
  mc_1 (mk_c (k := mq_197) rfl ⟨mo_197, 302, 1412, none, ml_m_LeagueOfficeModel_302, Or.inr (Or.inr (Or.inl ⟨12, TX12, 78, by decide, rfl, rfl, (by decide +kernel), ⟨0, rfl, mx_npd (by decide +kernel)⟩, ml_in_1414, ml_se_37⟩))⟩) <| mc_0
theorem mw_198_4 : ∀ e ∈ mt_198_4, mx_Ok mx_MT mq_198 e.1 e.2 := 
  mc_1 (mk_p (ms_aload_n (k := 0) (by decide +kernel) rfl) rfl) <|
  mc_1 (mk_p (ms_get (idx := 266) (w := 1476) (host := none) mx_c12 (by decide) ml_f_LeagueOfficeModel_266 (by decide +kernel)) rfl) <|
  mc_1 (mk_p (ms_if_lt (off := (6)) (by decide +kernel) (by decide)) rfl) <|
  mc_1 (mk_p (ms_goto (off := (46)) (by decide +kernel) (by decide)) rfl) <|
  mc_1 (mk_p (ms_aload_n (k := 0) (by decide +kernel) rfl) rfl) <|
  mc_1 (mk_p (ms_get (idx := 247) (w := 1474) (host := none) mx_c12 (by decide) ml_f_LeagueOfficeModel_247 (by decide +kernel)) rfl) <|
  mc_1 (mk_p (ms_bipush (n := 59) (by decide +kernel) (by decide +kernel)) rfl) <| mc_0
theorem mw_198_5 : ∀ e ∈ mt_198_5, mx_Ok mx_MT mq_198 e.1 e.2 := 
  mc_1 (mk_p (ms_icmp_eq (off := (10)) (by decide +kernel) (by decide)) rfl) <|
  mc_1 (mk_p (ms_aload_n (k := 0) (by decide +kernel) rfl) rfl) <|
  mc_1 (mk_c (k := mq_188) rfl ⟨mo_188, 278, 1408, none, ml_m_LeagueOfficeModel_278, Or.inr (Or.inr (Or.inl ⟨12, TX12, 78, by decide, rfl, rfl, (by decide +kernel), ⟨0, rfl, mx_npd (by decide +kernel)⟩, ml_in_1410, ml_se_36⟩))⟩) <|
  mc_1 (mk_p (ms_goto (off := (7)) (by decide +kernel) (by decide)) rfl) <|
  mc_1 (mk_p (ms_aload_n (k := 0) (by decide +kernel) rfl) rfl) <|
  mc_1 (mk_c (k := mq_186) rfl ⟨mo_186, 281, 1387, none, ml_m_LeagueOfficeModel_281, Or.inr (Or.inr (Or.inl ⟨12, TX12, 78, by decide, rfl, rfl, (by decide +kernel), ⟨0, rfl, mx_npd (by decide +kernel)⟩, ml_in_1389, ml_se_34⟩))⟩) <|
  mc_1 (mk_p (ms_aload_n (k := 0) (by decide +kernel) rfl) rfl) <| mc_0
theorem mw_198_6 : ∀ e ∈ mt_198_6, mx_Ok mx_MT mq_198 e.1 e.2 := 
  mc_1 (mk_p (ms_get (idx := 94) (w := 1469) (host := none) mx_c12 (by decide) ml_f_LeagueOfficeModel_94 (by decide +kernel)) rfl) <|
  mc_1 (mk_p (ms_iconst (n := 4) (by decide +kernel) (by decide +kernel)) rfl) <|
  mc_1 (mk_p (ms_aload_n (k := 0) (by decide +kernel) rfl) rfl) <|
  mc_1 (mk_p (ms_get (idx := 269) (w := 1468) (host := none) mx_c12 (by decide) ml_f_LeagueOfficeModel_269 (by decide +kernel)) rfl) <|
  mc_1 (mk_p (ms_imul (by decide +kernel)) rfl) <|
  mc_1 (mk_p (ms_iload_n (k := 1) (by decide +kernel) rfl) rfl) <|
  mc_1 (mk_p (ms_iadd (by decide +kernel)) rfl) <|
  mc_1 (mk_p (ms_aload_n (k := 0) (by decide +kernel) rfl) rfl) <|
  mc_1 (mk_p (ms_get (idx := 272) (w := 1478) (host := none) mx_c12 (by decide) ml_f_LeagueOfficeModel_272 (by decide +kernel)) rfl) <|
  mc_1 (mk_p (ms_ast (Or.inl ⟨rfl, by decide +kernel⟩)) rfl) <| mc_0
theorem mw_198_7 : ∀ e ∈ mt_198_7, mx_Ok mx_MT mq_198 e.1 e.2 := 
  mc_1 (mk_p (ms_iinc (n := (1)) (by decide +kernel) (by decide +kernel) (by decide)) rfl) <|
  mc_1 (mk_p (ms_goto (off := (-89)) (by decide +kernel) (by decide)) rfl) <|
  mc_1 (mk_p (ms_aload_n (k := 0) (by decide +kernel) rfl) rfl) <|
  mc_1 (mk_p (ms_get (idx := 266) (w := 1476) (host := none) mx_c12 (by decide) ml_f_LeagueOfficeModel_266 (by decide +kernel)) rfl) <|
  mc_1 (mk_p (ms_if_ge (off := (14)) (by decide +kernel) (by decide)) rfl) <|
  mc_1 (mk_p (ms_aload_n (k := 0) (by decide +kernel) rfl) rfl) <|
  mc_1 (mk_p (ms_get (idx := 247) (w := 1474) (host := none) mx_c12 (by decide) ml_f_LeagueOfficeModel_247 (by decide +kernel)) rfl) <| mc_0
theorem mw_198_8 : ∀ e ∈ mt_198_8, mx_Ok mx_MT mq_198 e.1 e.2 := 
  mc_1 (mk_p (ms_if_eq (off := (7)) (by decide +kernel) (by decide)) rfl) <|
  mc_1 (mk_p (ms_aload_n (k := 0) (by decide +kernel) rfl) rfl) <|
  mc_1 (mk_c (k := mq_188) rfl ⟨mo_188, 278, 1408, none, ml_m_LeagueOfficeModel_278, Or.inr (Or.inr (Or.inl ⟨12, TX12, 78, by decide, rfl, rfl, (by decide +kernel), ⟨0, rfl, mx_npd (by decide +kernel)⟩, ml_in_1410, ml_se_36⟩))⟩) <|
  mc_1 (mk_p (ms_aload_n (k := 0) (by decide +kernel) rfl) rfl) <|
  mc_1 (mk_p (ms_iconst (n := 0) (by decide +kernel) (by decide +kernel)) rfl) <|
  mc_1 (mk_p (ms_put (idx := 234) (w := 1467) (host := none) mx_c12 (by decide) ml_f_LeagueOfficeModel_234 rfl rfl (by decide +kernel)) rfl) <|
  mc_1 (mk_p (ms_aload_n (k := 0) (by decide +kernel) rfl) rfl) <|
  mc_1 (mk_p (ms_get (idx := 266) (w := 1476) (host := none) mx_c12 (by decide) ml_f_LeagueOfficeModel_266 (by decide +kernel)) rfl) <| mc_0
theorem mw_198_9 : ∀ e ∈ mt_198_9, mx_Ok mx_MT mq_198 e.1 e.2 := 
  mc_1 (mk_p (ms_if_lt (off := (11)) (by decide +kernel) (by decide)) rfl) <|
  mc_1 (mk_p (ms_bipush (n := (-100)) (by decide +kernel) (by decide +kernel)) rfl) <|
  mc_1 (mk_p (ms_aload_n (k := 0) (by decide +kernel) rfl) rfl) <|
  mc_1 (mk_p (ms_get (idx := 266) (w := 1476) (host := none) mx_c12 (by decide) ml_f_LeagueOfficeModel_266 (by decide +kernel)) rfl) <|
  mc_1 (mk_p (ms_isub (by decide +kernel)) rfl) <|
  mc_1 (mk_r (Or.inl ⟨rfl, by decide +kernel, _, rfl, mf_0⟩) rfl) <|
  mc_1 (mk_p (ms_aload_n (k := 0) (by decide +kernel) rfl) rfl) <|
  mc_1 (mk_p (ms_dup (by decide +kernel)) rfl) <|
  mc_1 (mk_p (ms_get (idx := 269) (w := 1468) (host := none) mx_c12 (by decide) ml_f_LeagueOfficeModel_269 (by decide +kernel)) rfl) <| mc_0
theorem mw_198_10 : ∀ e ∈ mt_198_10, mx_Ok mx_MT mq_198 e.1 e.2 := 
  mc_1 (mk_p (ms_iconst (n := 1) (by decide +kernel) (by decide +kernel)) rfl) <|
  mc_1 (mk_p (ms_iadd (by decide +kernel)) rfl) <|
  mc_1 (mk_p (ms_put (idx := 269) (w := 1468) (host := none) mx_c12 (by decide) ml_f_LeagueOfficeModel_269 rfl rfl (by decide +kernel)) rfl) <|
  mc_1 (mk_p (ms_aload_n (k := 0) (by decide +kernel) rfl) rfl) <|
  mc_1 (mk_p (ms_get (idx := 269) (w := 1468) (host := none) mx_c12 (by decide) ml_f_LeagueOfficeModel_269 (by decide +kernel)) rfl) <|
  mc_1 (mk_p (ms_iconst (n := 1) (by decide +kernel) (by decide +kernel)) rfl) <|
  mc_1 (mk_p (ms_isub (by decide +kernel)) rfl) <|
  mc_1 (mk_r (Or.inl ⟨rfl, by decide +kernel, _, rfl, mf_0⟩) rfl) <| mc_0
theorem mw_198 : ∀ ch ∈ mt_198, ∀ e ∈ ch, mx_Ok mx_MT mq_198 e.1 e.2 := mc_2 mw_198_0 <| mc_2 mw_198_1 <| mc_2 mw_198_2 <| mc_2 mw_198_3 <| mc_2 mw_198_4 <| mc_2 mw_198_5 <| mc_2 mw_198_6 <| mc_2 mw_198_7 <| mc_2 mw_198_8 <| mc_2 mw_198_9 <| mc_2 mw_198_10 <| mc_3
