/- 199 LeagueOfficeModel.text()I -/
theorem mw_199_0 : ∀ e ∈ mt_199_0, mx_Ok mx_MT mq_199 e.1 e.2 := 
  mc_1 (mk_p (ms_aload_n (k := 0) (by decide +kernel) rfl) rfl) <|
  mc_1 (mk_p (ms_get (idx := 269) (w := 1468) (host := none) mx_c12 (by decide) ml_f_LeagueOfficeModel_269 (by decide +kernel)) rfl) <|
  mc_1 (mk_p (ms_bipush (n := 6) (by decide +kernel) (by decide +kernel)) rfl) <|
  mc_1 (mk_p (ms_icmp_ne (off := (8)) (by decide +kernel) (by decide)) rfl) <|
  mc_1 (mk_p (ms_bipush (n := (-4)) (by decide +kernel) (by decide +kernel)) rfl) <|
  mc_1 (mk_p (ms_goto (off := (7)) (by decide +kernel) (by decide)) rfl) <|
  mc_1 (mk_p (ms_aload_n (k := 0) (by decide +kernel) rfl) rfl) <|
  mc_1 (mk_c (k := mq_198) rfl ⟨mo_198, 237, 1383, none, ml_m_LeagueOfficeModel_237, Or.inr (Or.inr (Or.inl ⟨12, TX12, 78, by decide, rfl, rfl, (by decide +kernel), ⟨0, rfl, mx_npd (by decide +kernel)⟩, ml_in_1385, ml_se_33⟩))⟩) <| mc_0
theorem mw_199_1 : ∀ e ∈ mt_199_1, mx_Ok mx_MT mq_199 e.1 e.2 := 
  mc_1 (mk_r (Or.inl ⟨rfl, by decide +kernel, _, rfl, mf_0⟩) rfl) <| mc_0
theorem mw_199 : ∀ ch ∈ mt_199, ∀ e ∈ ch, mx_Ok mx_MT mq_199 e.1 e.2 := mc_2 mw_199_0 <| mc_2 mw_199_1 <| mc_3
/- 200 LeagueOfficeModel.rule(II)I -/
theorem mw_200_0 : ∀ e ∈ mt_200_0, mx_Ok mx_MT mq_200 e.1 e.2 := 
  mc_1 (mk_p (ms_iload_n (k := 1) (by decide +kernel) rfl) rfl) <|
  mc_1 (mk_p (ms_iconst (n := 0) (by decide +kernel) (by decide +kernel)) rfl) <|
  mc_1 (mk_p (ms_aload_n (k := 0) (by decide +kernel) rfl) rfl) <|
  mc_1 (mk_p (ms_get (idx := 269) (w := 1468) (host := none) mx_c12 (by decide) ml_f_LeagueOfficeModel_269 (by decide +kernel)) rfl) <|
  mc_1 (mk_p (ms_iconst (n := 1) (by decide +kernel) (by decide +kernel)) rfl) <|
  mc_1 (mk_p (ms_isub (by decide +kernel)) rfl) <|
  mc_1 (mk_c (k := mq_163) rfl ⟨mo_163, 7, 1318, none, ml_m_LeagueOfficeModel_7, Or.inl ⟨rfl, (by decide +kernel), mx_npd (by decide +kernel), ml_st_1319⟩⟩) <|
  mc_1 (mk_p (ms_if_eq (off := (10)) (by decide +kernel) (by decide)) rfl) <|
  mc_1 (mk_p (ms_iload_n (k := 2) (by decide +kernel) rfl) rfl) <|
  mc_1 (mk_c (k := mq_164) rfl ⟨mo_164, 34, 1341, none, ml_m_LeagueOfficeModel_34, Or.inl ⟨rfl, (by decide +kernel), mx_npd (by decide +kernel), ml_st_1342⟩⟩) <| mc_0
theorem mw_200_1 : ∀ e ∈ mt_200_1, mx_Ok mx_MT mq_200 e.1 e.2 := 
  mc_1 (mk_p (ms_if_ne (off := (6)) (by decide +kernel) (by decide)) rfl) <|
  mc_1 (mk_p (ms_bipush (n := (-2)) (by decide +kernel) (by decide +kernel)) rfl) <|
  mc_1 (mk_r (Or.inl ⟨rfl, by decide +kernel, _, rfl, mf_0⟩) rfl) <|
  mc_1 (mk_p (ms_aload_n (k := 0) (by decide +kernel) rfl) rfl) <|
  mc_1 (mk_p (ms_get (idx := 329) (w := 1479) (host := none) mx_c12 (by decide) ml_f_LeagueOfficeModel_329 (by decide +kernel)) rfl) <|
  mc_1 (mk_p (ms_bipush (n := 20) (by decide +kernel) (by decide +kernel)) rfl) <|
  mc_1 (mk_p (ms_icmp_ne (off := (6)) (by decide +kernel) (by decide)) rfl) <| mc_0
theorem mw_200_2 : ∀ e ∈ mt_200_2, mx_Ok mx_MT mq_200 e.1 e.2 := 
  mc_1 (mk_p (ms_bipush (n := (-4)) (by decide +kernel) (by decide +kernel)) rfl) <|
  mc_1 (mk_r (Or.inl ⟨rfl, by decide +kernel, _, rfl, mf_0⟩) rfl) <|
  mc_1 (mk_p (ms_aload_n (k := 0) (by decide +kernel) rfl) rfl) <|
  mc_1 (mk_p (ms_get (idx := 103) (w := 1480) (host := none) mx_c12 (by decide) ml_f_LeagueOfficeModel_103 (by decide +kernel)) rfl) <|
  mc_1 (mk_p (ms_aload_n (k := 0) (by decide +kernel) rfl) rfl) <|
  mc_1 (mk_p (ms_get (idx := 329) (w := 1479) (host := none) mx_c12 (by decide) ml_f_LeagueOfficeModel_329 (by decide +kernel)) rfl) <|
  mc_1 (mk_p (ms_iload_n (k := 1) (by decide +kernel) rfl) rfl) <|
  mc_1 (mk_p (ms_ast (Or.inl ⟨rfl, by decide +kernel⟩)) rfl) <|
  mc_1 (mk_p (ms_aload_n (k := 0) (by decide +kernel) rfl) rfl) <|
  mc_1 (mk_p (ms_get (idx := 106) (w := 1481) (host := none) mx_c12 (by decide) ml_f_LeagueOfficeModel_106 (by decide +kernel)) rfl) <| mc_0
theorem mw_200_3 : ∀ e ∈ mt_200_3, mx_Ok mx_MT mq_200 e.1 e.2 := 
  mc_1 (mk_p (ms_aload_n (k := 0) (by decide +kernel) rfl) rfl) <|
  mc_1 (mk_p (ms_get (idx := 329) (w := 1479) (host := none) mx_c12 (by decide) ml_f_LeagueOfficeModel_329 (by decide +kernel)) rfl) <|
  mc_1 (mk_p (ms_iload_n (k := 2) (by decide +kernel) rfl) rfl) <|
  mc_1 (mk_p (ms_ast (Or.inl ⟨rfl, by decide +kernel⟩)) rfl) <|
  mc_1 (mk_p (ms_aload_n (k := 0) (by decide +kernel) rfl) rfl) <|
  mc_1 (mk_p (ms_dup (by decide +kernel)) rfl) <|
  mc_1 (mk_p (ms_get (idx := 329) (w := 1479) (host := none) mx_c12 (by decide) ml_f_LeagueOfficeModel_329 (by decide +kernel)) rfl) <|
  mc_1 (mk_p (ms_iconst (n := 1) (by decide +kernel) (by decide +kernel)) rfl) <|
  mc_1 (mk_p (ms_iadd (by decide +kernel)) rfl) <|
  mc_1 (mk_p (ms_put (idx := 329) (w := 1479) (host := none) mx_c12 (by decide) ml_f_LeagueOfficeModel_329 rfl rfl (by decide +kernel)) rfl) <| mc_0
theorem mw_200_4 : ∀ e ∈ mt_200_4, mx_Ok mx_MT mq_200 e.1 e.2 := 
  mc_1 (mk_p (ms_aload_n (k := 0) (by decide +kernel) rfl) rfl) <|
  mc_1 (mk_p (ms_get (idx := 329) (w := 1479) (host := none) mx_c12 (by decide) ml_f_LeagueOfficeModel_329 (by decide +kernel)) rfl) <|
  mc_1 (mk_r (Or.inl ⟨rfl, by decide +kernel, _, rfl, mf_0⟩) rfl) <| mc_0
theorem mw_200 : ∀ ch ∈ mt_200, ∀ e ∈ ch, mx_Ok mx_MT mq_200 e.1 e.2 := mc_2 mw_200_0 <| mc_2 mw_200_1 <| mc_2 mw_200_2 <| mc_2 mw_200_3 <| mc_2 mw_200_4 <| mc_3
/- 201 LeagueOfficeModel.textOn(I)I -/
theorem mw_201_0 : ∀ e ∈ mt_201_0, mx_Ok mx_MT mq_201 e.1 e.2 := 
  mc_1 (mk_p (ms_iconst (n := (-1)) (by decide +kernel) (by decide +kernel)) rfl) <|
  mc_1 (mk_p (ms_istore_n (k := 2) (by decide +kernel) rfl (by decide)) rfl) <|
  mc_1 (mk_p (ms_iconst (n := 0) (by decide +kernel) (by decide +kernel)) rfl) <|
  mc_1 (mk_p (ms_istore_n (k := 3) (by decide +kernel) rfl (by decide)) rfl) <|
  mc_1 (mk_p (ms_iload_n (k := 3) (by decide +kernel) rfl) rfl) <|
  mc_1 (mk_p (ms_aload_n (k := 0) (by decide +kernel) rfl) rfl) <|
  mc_1 (mk_p (ms_get (idx := 329) (w := 1479) (host := none) mx_c12 (by decide) ml_f_LeagueOfficeModel_329 (by decide +kernel)) rfl) <|
  mc_1 (mk_p (ms_icmp_ge (off := (40)) (by decide +kernel) (by decide)) rfl) <|
  mc_1 (mk_p (ms_aload_n (k := 0) (by decide +kernel) rfl) rfl) <|
  mc_1 (mk_p (ms_get (idx := 106) (w := 1481) (host := none) mx_c12 (by decide) ml_f_LeagueOfficeModel_106 (by decide +kernel)) rfl) <| mc_0
theorem mw_201_1 : ∀ e ∈ mt_201_1, mx_Ok mx_MT mq_201 e.1 e.2 := 
  mc_1 (mk_p (ms_iload_n (k := 3) (by decide +kernel) rfl) rfl) <|
  mc_1 (mk_p (ms_ald (Or.inl ⟨rfl, by decide +kernel⟩)) rfl) <|
  mc_1 (mk_p (ms_iload_n (k := 1) (by decide +kernel) rfl) rfl) <|
  mc_1 (mk_p (ms_icmp_gt (off := (24)) (by decide +kernel) (by decide)) rfl) <|
  mc_1 (mk_p (ms_iload_n (k := 2) (by decide +kernel) rfl) rfl) <|
  mc_1 (mk_p (ms_if_lt (off := (18)) (by decide +kernel) (by decide)) rfl) <|
  mc_1 (mk_p (ms_aload_n (k := 0) (by decide +kernel) rfl) rfl) <|
  mc_1 (mk_p (ms_get (idx := 106) (w := 1481) (host := none) mx_c12 (by decide) ml_f_LeagueOfficeModel_106 (by decide +kernel)) rfl) <|
  mc_1 (mk_p (ms_iload_n (k := 3) (by decide +kernel) rfl) rfl) <|
  mc_1 (mk_p (ms_ald (Or.inl ⟨rfl, by decide +kernel⟩)) rfl) <| mc_0
theorem mw_201_2 : ∀ e ∈ mt_201_2, mx_Ok mx_MT mq_201 e.1 e.2 := 
  mc_1 (mk_p (ms_aload_n (k := 0) (by decide +kernel) rfl) rfl) <|
  mc_1 (mk_p (ms_get (idx := 106) (w := 1481) (host := none) mx_c12 (by decide) ml_f_LeagueOfficeModel_106 (by decide +kernel)) rfl) <|
  mc_1 (mk_p (ms_iload_n (k := 2) (by decide +kernel) rfl) rfl) <|
  mc_1 (mk_p (ms_ald (Or.inl ⟨rfl, by decide +kernel⟩)) rfl) <|
  mc_1 (mk_p (ms_icmp_lt (off := (5)) (by decide +kernel) (by decide)) rfl) <|
  mc_1 (mk_p (ms_iload_n (k := 3) (by decide +kernel) rfl) rfl) <|
  mc_1 (mk_p (ms_istore_n (k := 2) (by decide +kernel) rfl (by decide)) rfl) <|
  mc_1 (mk_p (ms_iinc (n := (1)) (by decide +kernel) (by decide +kernel) (by decide)) rfl) <|
  mc_1 (mk_p (ms_goto (off := (-42)) (by decide +kernel) (by decide)) rfl) <| mc_0
theorem mw_201_3 : ∀ e ∈ mt_201_3, mx_Ok mx_MT mq_201 e.1 e.2 := 
  mc_1 (mk_p (ms_iload_n (k := 2) (by decide +kernel) rfl) rfl) <|
  mc_1 (mk_p (ms_if_ge (off := (7)) (by decide +kernel) (by decide)) rfl) <|
  mc_1 (mk_p (ms_iconst (n := 0) (by decide +kernel) (by decide +kernel)) rfl) <|
  mc_1 (mk_p (ms_goto (off := (9)) (by decide +kernel) (by decide)) rfl) <|
  mc_1 (mk_p (ms_aload_n (k := 0) (by decide +kernel) rfl) rfl) <|
  mc_1 (mk_p (ms_get (idx := 103) (w := 1480) (host := none) mx_c12 (by decide) ml_f_LeagueOfficeModel_103 (by decide +kernel)) rfl) <|
  mc_1 (mk_p (ms_iload_n (k := 2) (by decide +kernel) rfl) rfl) <|
  mc_1 (mk_p (ms_ald (Or.inl ⟨rfl, by decide +kernel⟩)) rfl) <|
  mc_1 (mk_r (Or.inl ⟨rfl, by decide +kernel, _, rfl, mf_0⟩) rfl) <| mc_0
theorem mw_201 : ∀ ch ∈ mt_201, ∀ e ∈ ch, mx_Ok mx_MT mq_201 e.1 e.2 := mc_2 mw_201_0 <| mc_2 mw_201_1 <| mc_2 mw_201_2 <| mc_2 mw_201_3 <| mc_3
/- 202 LeagueOfficeModel.ruleOf(I)I -/
theorem mw_202_0 : ∀ e ∈ mt_202_0, mx_Ok mx_MT mq_202 e.1 e.2 := 
  mc_1 (mk_p (ms_iload_n (k := 1) (by decide +kernel) rfl) rfl) <|
  mc_1 (mk_c (k := mq_164) rfl ⟨mo_164, 34, 1341, none, ml_m_LeagueOfficeModel_34, Or.inl ⟨rfl, (by decide +kernel), mx_npd (by decide +kernel), ml_st_1342⟩⟩) <|
  mc_1 (mk_p (ms_if_eq (off := (11)) (by decide +kernel) (by decide)) rfl) <|
  mc_1 (mk_p (ms_aload_n (k := 0) (by decide +kernel) rfl) rfl) <|
  mc_1 (mk_p (ms_iload_n (k := 1) (by decide +kernel) rfl) rfl) <|
  mc_1 (mk_c (k := mq_201) rfl ⟨mo_201, 332, 1704, none, ml_m_LeagueOfficeModel_332, Or.inr (Or.inr (Or.inl ⟨12, TX12, 78, by decide, rfl, rfl, (by decide +kernel), ⟨1, rfl, mx_npd (by decide +kernel)⟩, ml_in_1706, ml_se_46⟩))⟩) <|
  mc_1 (mk_p (ms_goto (off := (5)) (by decide +kernel) (by decide)) rfl) <|
  mc_1 (mk_p (ms_bipush (n := (-2)) (by decide +kernel) (by decide +kernel)) rfl) <| mc_0
theorem mw_202_1 : ∀ e ∈ mt_202_1, mx_Ok mx_MT mq_202 e.1 e.2 := 
  mc_1 (mk_r (Or.inl ⟨rfl, by decide +kernel, _, rfl, mf_0⟩) rfl) <| mc_0
theorem mw_202 : ∀ ch ∈ mt_202, ∀ e ∈ ch, mx_Ok mx_MT mq_202 e.1 e.2 := mc_2 mw_202_0 <| mc_2 mw_202_1 <| mc_3
/- 203 LeagueOfficeModel.both(III)I -/
theorem mw_203_0 : ∀ e ∈ mt_203_0, mx_Ok mx_MT mq_203 e.1 e.2 := 
  mc_1 (mk_p (ms_iload_n (k := 0) (by decide +kernel) rfl) rfl) <|
  mc_1 (mk_p (ms_lsw (dflt := (107)) (ps := #[(5, 93), (42, 67), (43, 59), (45, 63), (60, 71), (61, 82)]) (len := 59) (by decide +kernel) (by decide +kernel) (by decide +kernel) (by decide +kernel)) rfl) <| mc_0
theorem mw_203_1 : ∀ e ∈ mt_203_1, mx_Ok mx_MT mq_203 e.1 e.2 := mc_0
theorem mw_203_2 : ∀ e ∈ mt_203_2, mx_Ok mx_MT mq_203 e.1 e.2 := mc_0
theorem mw_203_3 : ∀ e ∈ mt_203_3, mx_Ok mx_MT mq_203 e.1 e.2 := 
  mc_1 (mk_p (ms_iload_n (k := 1) (by decide +kernel) rfl) rfl) <|
  mc_1 (mk_p (ms_iload_n (k := 2) (by decide +kernel) rfl) rfl) <|
  mc_1 (mk_p (ms_iadd (by decide +kernel)) rfl) <|
  mc_1 (mk_r (Or.inl ⟨rfl, by decide +kernel, _, rfl, mf_0⟩) rfl) <| mc_0
theorem mw_203_4 : ∀ e ∈ mt_203_4, mx_Ok mx_MT mq_203 e.1 e.2 := 
  mc_1 (mk_p (ms_iload_n (k := 1) (by decide +kernel) rfl) rfl) <|
  mc_1 (mk_p (ms_iload_n (k := 2) (by decide +kernel) rfl) rfl) <|
  mc_1 (mk_p (ms_isub (by decide +kernel)) rfl) <|
  mc_1 (mk_r (Or.inl ⟨rfl, by decide +kernel, _, rfl, mf_0⟩) rfl) <|
  mc_1 (mk_p (ms_iload_n (k := 1) (by decide +kernel) rfl) rfl) <|
  mc_1 (mk_p (ms_iload_n (k := 2) (by decide +kernel) rfl) rfl) <|
  mc_1 (mk_p (ms_imul (by decide +kernel)) rfl) <|
  mc_1 (mk_r (Or.inl ⟨rfl, by decide +kernel, _, rfl, mf_0⟩) rfl) <|
  mc_1 (mk_p (ms_iload_n (k := 1) (by decide +kernel) rfl) rfl) <|
  mc_1 (mk_p (ms_iload_n (k := 2) (by decide +kernel) rfl) rfl) <|
  mc_1 (mk_p (ms_icmp_ge (off := (7)) (by decide +kernel) (by decide)) rfl) <|
  mc_1 (mk_p (ms_iconst (n := 1) (by decide +kernel) (by decide +kernel)) rfl) <|
  mc_1 (mk_p (ms_goto (off := (4)) (by decide +kernel) (by decide)) rfl) <| mc_0
theorem mw_203_5 : ∀ e ∈ mt_203_5, mx_Ok mx_MT mq_203 e.1 e.2 := 
  mc_1 (mk_p (ms_iconst (n := 0) (by decide +kernel) (by decide +kernel)) rfl) <|
  mc_1 (mk_r (Or.inl ⟨rfl, by decide +kernel, _, rfl, mf_0⟩) rfl) <|
  mc_1 (mk_p (ms_iload_n (k := 1) (by decide +kernel) rfl) rfl) <|
  mc_1 (mk_p (ms_iload_n (k := 2) (by decide +kernel) rfl) rfl) <|
  mc_1 (mk_p (ms_icmp_ne (off := (7)) (by decide +kernel) (by decide)) rfl) <|
  mc_1 (mk_p (ms_iconst (n := 1) (by decide +kernel) (by decide +kernel)) rfl) <|
  mc_1 (mk_p (ms_goto (off := (4)) (by decide +kernel) (by decide)) rfl) <|
  mc_1 (mk_p (ms_iconst (n := 0) (by decide +kernel) (by decide +kernel)) rfl) <|
  mc_1 (mk_r (Or.inl ⟨rfl, by decide +kernel, _, rfl, mf_0⟩) rfl) <|
  mc_1 (mk_p (ms_iload_n (k := 1) (by decide +kernel) rfl) rfl) <|
  mc_1 (mk_p (ms_if_eq (off := (11)) (by decide +kernel) (by decide)) rfl) <| mc_0
theorem mw_203_6 : ∀ e ∈ mt_203_6, mx_Ok mx_MT mq_203 e.1 e.2 := 
  mc_1 (mk_p (ms_iload_n (k := 2) (by decide +kernel) rfl) rfl) <|
  mc_1 (mk_p (ms_if_eq (off := (7)) (by decide +kernel) (by decide)) rfl) <|
  mc_1 (mk_p (ms_iconst (n := 1) (by decide +kernel) (by decide +kernel)) rfl) <|
  mc_1 (mk_p (ms_goto (off := (4)) (by decide +kernel) (by decide)) rfl) <|
  mc_1 (mk_p (ms_iconst (n := 0) (by decide +kernel) (by decide +kernel)) rfl) <|
  mc_1 (mk_r (Or.inl ⟨rfl, by decide +kernel, _, rfl, mf_0⟩) rfl) <|
  mc_1 (mk_p (ms_iload_n (k := 1) (by decide +kernel) rfl) rfl) <|
  mc_1 (mk_p (ms_if_ne (off := (7)) (by decide +kernel) (by decide)) rfl) <| mc_0
theorem mw_203_7 : ∀ e ∈ mt_203_7, mx_Ok mx_MT mq_203 e.1 e.2 := 
  mc_1 (mk_p (ms_iload_n (k := 2) (by decide +kernel) rfl) rfl) <|
  mc_1 (mk_p (ms_if_eq (off := (7)) (by decide +kernel) (by decide)) rfl) <|
  mc_1 (mk_p (ms_iconst (n := 1) (by decide +kernel) (by decide +kernel)) rfl) <|
  mc_1 (mk_p (ms_goto (off := (4)) (by decide +kernel) (by decide)) rfl) <|
  mc_1 (mk_p (ms_iconst (n := 0) (by decide +kernel) (by decide +kernel)) rfl) <|
  mc_1 (mk_r (Or.inl ⟨rfl, by decide +kernel, _, rfl, mf_0⟩) rfl) <| mc_0
theorem mw_203 : ∀ ch ∈ mt_203, ∀ e ∈ ch, mx_Ok mx_MT mq_203 e.1 e.2 := mc_2 mw_203_0 <| mc_2 mw_203_1 <| mc_2 mw_203_2 <| mc_2 mw_203_3 <| mc_2 mw_203_4 <| mc_2 mw_203_5 <| mc_2 mw_203_6 <| mc_2 mw_203_7 <| mc_3
/- 204 LeagueOfficeModel.says(II)I -/
theorem mw_204_0 : ∀ e ∈ mt_204_0, mx_Ok mx_MT mq_204 e.1 e.2 := 
  mc_1 (mk_p (ms_iconst (n := 0) (by decide +kernel) (by decide +kernel)) rfl) <|
  mc_1 (mk_p (ms_istore_n (k := 3) (by decide +kernel) rfl (by decide)) rfl) <|
  mc_1 (mk_p (ms_sipush (n := 170) (by decide +kernel) (by decide +kernel)) rfl) <|
  mc_1 (mk_p (ms_iload_n (k := 1) (by decide +kernel) rfl) rfl) <|
  mc_1 (mk_p (ms_imul (by decide +kernel)) rfl) <|
  mc_1 (mk_p (ms_iload_n (k := 2) (by decide +kernel) rfl) rfl) <|
  mc_1 (mk_p (ms_if_ne (off := (7)) (by decide +kernel) (by decide)) rfl) <|
  mc_1 (mk_p (ms_iconst (n := 0) (by decide +kernel) (by decide +kernel)) rfl) <|
  mc_1 (mk_p (ms_goto (off := (15)) (by decide +kernel) (by decide)) rfl) <|
  mc_1 (mk_p (ms_aload_n (k := 0) (by decide +kernel) rfl) rfl) <| mc_0
theorem mw_204_1 : ∀ e ∈ mt_204_1, mx_Ok mx_MT mq_204 e.1 e.2 := 
  mc_1 (mk_p (ms_get (idx := 94) (w := 1469) (host := none) mx_c12 (by decide) ml_f_LeagueOfficeModel_94 (by decide +kernel)) rfl) <|
  mc_1 (mk_p (ms_iconst (n := 4) (by decide +kernel) (by decide +kernel)) rfl) <|
  mc_1 (mk_p (ms_iload_n (k := 1) (by decide +kernel) rfl) rfl) <|
  mc_1 (mk_p (ms_imul (by decide +kernel)) rfl) <|
  mc_1 (mk_p (ms_iload_n (k := 2) (by decide +kernel) rfl) rfl) <|
  mc_1 (mk_p (ms_iadd (by decide +kernel)) rfl) <|
  mc_1 (mk_p (ms_iconst (n := 1) (by decide +kernel) (by decide +kernel)) rfl) <|
  mc_1 (mk_p (ms_isub (by decide +kernel)) rfl) <|
  mc_1 (mk_p (ms_ald (Or.inl ⟨rfl, by decide +kernel⟩)) rfl) <|
  mc_1 (mk_p (ms_iadd (by decide +kernel)) rfl) <|
  mc_1 (mk_p (ms_istore (by decide +kernel) (by decide)) rfl) <|
  mc_1 (mk_p (ms_iload (by decide +kernel)) rfl) <| mc_0
theorem mw_204_2 : ∀ e ∈ mt_204_2, mx_Ok mx_MT mq_204 e.1 e.2 := 
  mc_1 (mk_p (ms_sipush (n := 170) (by decide +kernel) (by decide +kernel)) rfl) <|
  mc_1 (mk_p (ms_iload_n (k := 1) (by decide +kernel) rfl) rfl) <|
  mc_1 (mk_p (ms_imul (by decide +kernel)) rfl) <|
  mc_1 (mk_p (ms_aload_n (k := 0) (by decide +kernel) rfl) rfl) <|
  mc_1 (mk_p (ms_get (idx := 94) (w := 1469) (host := none) mx_c12 (by decide) ml_f_LeagueOfficeModel_94 (by decide +kernel)) rfl) <|
  mc_1 (mk_p (ms_iconst (n := 4) (by decide +kernel) (by decide +kernel)) rfl) <|
  mc_1 (mk_p (ms_iload_n (k := 1) (by decide +kernel) rfl) rfl) <|
  mc_1 (mk_p (ms_imul (by decide +kernel)) rfl) <|
  mc_1 (mk_p (ms_iload_n (k := 2) (by decide +kernel) rfl) rfl) <|
  mc_1 (mk_p (ms_iadd (by decide +kernel)) rfl) <|
  mc_1 (mk_p (ms_ald (Or.inl ⟨rfl, by decide +kernel⟩)) rfl) <|
  mc_1 (mk_p (ms_iadd (by decide +kernel)) rfl) <| mc_0
theorem mw_204_3 : ∀ e ∈ mt_204_3, mx_Ok mx_MT mq_204 e.1 e.2 := 
  mc_1 (mk_p (ms_icmp_ge (off := (159)) (by decide +kernel) (by decide)) rfl) <|
  mc_1 (mk_p (ms_aload_n (k := 0) (by decide +kernel) rfl) rfl) <|
  mc_1 (mk_p (ms_get (idx := 97) (w := 1470) (host := none) mx_c12 (by decide) ml_f_LeagueOfficeModel_97 (by decide +kernel)) rfl) <|
  mc_1 (mk_p (ms_iload (by decide +kernel)) rfl) <|
  mc_1 (mk_p (ms_ald (Or.inl ⟨rfl, by decide +kernel⟩)) rfl) <|
  mc_1 (mk_p (ms_istore (by decide +kernel) (by decide)) rfl) <|
  mc_1 (mk_p (ms_iload (by decide +kernel)) rfl) <|
  mc_1 (mk_p (ms_iconst (n := 1) (by decide +kernel) (by decide +kernel)) rfl) <|
  mc_1 (mk_p (ms_icmp_eq (off := (9)) (by decide +kernel) (by decide)) rfl) <| mc_0
theorem mw_204_4 : ∀ e ∈ mt_204_4, mx_Ok mx_MT mq_204 e.1 e.2 := 
  mc_1 (mk_p (ms_iload (by decide +kernel)) rfl) <|
  mc_1 (mk_p (ms_iconst (n := 2) (by decide +kernel) (by decide +kernel)) rfl) <|
  mc_1 (mk_p (ms_icmp_ne (off := (43)) (by decide +kernel) (by decide)) rfl) <|
  mc_1 (mk_p (ms_aload_n (k := 0) (by decide +kernel) rfl) rfl) <|
  mc_1 (mk_p (ms_get (idx := 112) (w := 1483) (host := none) mx_c12 (by decide) ml_f_LeagueOfficeModel_112 (by decide +kernel)) rfl) <|
  mc_1 (mk_p (ms_iload_n (k := 3) (by decide +kernel) rfl) rfl) <|
  mc_1 (mk_p (ms_iload (by decide +kernel)) rfl) <|
  mc_1 (mk_p (ms_iconst (n := 1) (by decide +kernel) (by decide +kernel)) rfl) <| mc_0
theorem mw_204_5 : ∀ e ∈ mt_204_5, mx_Ok mx_MT mq_204 e.1 e.2 := 
  mc_1 (mk_p (ms_icmp_ne (off := (13)) (by decide +kernel) (by decide)) rfl) <|
  mc_1 (mk_p (ms_aload_n (k := 0) (by decide +kernel) rfl) rfl) <|
  mc_1 (mk_p (ms_get (idx := 100) (w := 1471) (host := none) mx_c12 (by decide) ml_f_LeagueOfficeModel_100 (by decide +kernel)) rfl) <|
  mc_1 (mk_p (ms_iload (by decide +kernel)) rfl) <|
  mc_1 (mk_p (ms_ald (Or.inl ⟨rfl, by decide +kernel⟩)) rfl) <|
  mc_1 (mk_p (ms_goto (off := (15)) (by decide +kernel) (by decide)) rfl) <|
  mc_1 (mk_p (ms_aload_n (k := 0) (by decide +kernel) rfl) rfl) <|
  mc_1 (mk_p (ms_get (idx := 109) (w := 1482) (host := none) mx_c12 (by decide) ml_f_LeagueOfficeModel_109 (by decide +kernel)) rfl) <| mc_0
theorem mw_204_6 : ∀ e ∈ mt_204_6, mx_Ok mx_MT mq_204 e.1 e.2 := 
  mc_1 (mk_p (ms_aload_n (k := 0) (by decide +kernel) rfl) rfl) <|
  mc_1 (mk_p (ms_get (idx := 100) (w := 1471) (host := none) mx_c12 (by decide) ml_f_LeagueOfficeModel_100 (by decide +kernel)) rfl) <|
  mc_1 (mk_p (ms_iload (by decide +kernel)) rfl) <|
  mc_1 (mk_p (ms_ald (Or.inl ⟨rfl, by decide +kernel⟩)) rfl) <|
  mc_1 (mk_p (ms_ald (Or.inl ⟨rfl, by decide +kernel⟩)) rfl) <|
  mc_1 (mk_p (ms_ast (Or.inl ⟨rfl, by decide +kernel⟩)) rfl) <|
  mc_1 (mk_p (ms_iinc (n := (1)) (by decide +kernel) (by decide +kernel) (by decide)) rfl) <|
  mc_1 (mk_p (ms_goto (off := (92)) (by decide +kernel) (by decide)) rfl) <| mc_0
theorem mw_204_7 : ∀ e ∈ mt_204_7, mx_Ok mx_MT mq_204 e.1 e.2 := 
  mc_1 (mk_p (ms_iload (by decide +kernel)) rfl) <|
  mc_1 (mk_p (ms_iconst (n := 3) (by decide +kernel) (by decide +kernel)) rfl) <|
  mc_1 (mk_p (ms_icmp_ne (off := (30)) (by decide +kernel) (by decide)) rfl) <|
  mc_1 (mk_p (ms_aload_n (k := 0) (by decide +kernel) rfl) rfl) <|
  mc_1 (mk_p (ms_get (idx := 112) (w := 1483) (host := none) mx_c12 (by decide) ml_f_LeagueOfficeModel_112 (by decide +kernel)) rfl) <|
  mc_1 (mk_p (ms_iload_n (k := 3) (by decide +kernel) rfl) rfl) <|
  mc_1 (mk_p (ms_iconst (n := 1) (by decide +kernel) (by decide +kernel)) rfl) <|
  mc_1 (mk_p (ms_isub (by decide +kernel)) rfl) <|
  mc_1 (mk_p (ms_aload_n (k := 0) (by decide +kernel) rfl) rfl) <|
  mc_1 (mk_p (ms_get (idx := 112) (w := 1483) (host := none) mx_c12 (by decide) ml_f_LeagueOfficeModel_112 (by decide +kernel)) rfl) <| mc_0
theorem mw_204_8 : ∀ e ∈ mt_204_8, mx_Ok mx_MT mq_204 e.1 e.2 := 
  mc_1 (mk_p (ms_iload_n (k := 3) (by decide +kernel) rfl) rfl) <|
  mc_1 (mk_p (ms_iconst (n := 1) (by decide +kernel) (by decide +kernel)) rfl) <|
  mc_1 (mk_p (ms_isub (by decide +kernel)) rfl) <|
  mc_1 (mk_p (ms_ald (Or.inl ⟨rfl, by decide +kernel⟩)) rfl) <|
  mc_1 (mk_p (ms_if_ne (off := (7)) (by decide +kernel) (by decide)) rfl) <|
  mc_1 (mk_p (ms_iconst (n := 1) (by decide +kernel) (by decide +kernel)) rfl) <|
  mc_1 (mk_p (ms_goto (off := (4)) (by decide +kernel) (by decide)) rfl) <|
  mc_1 (mk_p (ms_iconst (n := 0) (by decide +kernel) (by decide +kernel)) rfl) <|
  mc_1 (mk_p (ms_ast (Or.inl ⟨rfl, by decide +kernel⟩)) rfl) <|
  mc_1 (mk_p (ms_goto (off := (59)) (by decide +kernel) (by decide)) rfl) <| mc_0
theorem mw_204_9 : ∀ e ∈ mt_204_9, mx_Ok mx_MT mq_204 e.1 e.2 := 
  mc_1 (mk_p (ms_iload (by decide +kernel)) rfl) <|
  mc_1 (mk_p (ms_iconst (n := 4) (by decide +kernel) (by decide +kernel)) rfl) <|
  mc_1 (mk_p (ms_icmp_ne (off := (23)) (by decide +kernel) (by decide)) rfl) <|
  mc_1 (mk_p (ms_aload_n (k := 0) (by decide +kernel) rfl) rfl) <|
  mc_1 (mk_p (ms_get (idx := 112) (w := 1483) (host := none) mx_c12 (by decide) ml_f_LeagueOfficeModel_112 (by decide +kernel)) rfl) <|
  mc_1 (mk_p (ms_iload_n (k := 3) (by decide +kernel) rfl) rfl) <|
  mc_1 (mk_p (ms_iconst (n := 1) (by decide +kernel) (by decide +kernel)) rfl) <|
  mc_1 (mk_p (ms_isub (by decide +kernel)) rfl) <|
  mc_1 (mk_p (ms_aload_n (k := 0) (by decide +kernel) rfl) rfl) <|
  mc_1 (mk_p (ms_get (idx := 112) (w := 1483) (host := none) mx_c12 (by decide) ml_f_LeagueOfficeModel_112 (by decide +kernel)) rfl) <| mc_0
theorem mw_204_10 : ∀ e ∈ mt_204_10, mx_Ok mx_MT mq_204 e.1 e.2 := 
  mc_1 (mk_p (ms_iload_n (k := 3) (by decide +kernel) rfl) rfl) <|
  mc_1 (mk_p (ms_iconst (n := 1) (by decide +kernel) (by decide +kernel)) rfl) <|
  mc_1 (mk_p (ms_isub (by decide +kernel)) rfl) <|
  mc_1 (mk_p (ms_ald (Or.inl ⟨rfl, by decide +kernel⟩)) rfl) <|
  mc_1 (mk_p (ms_ineg (by decide +kernel)) rfl) <|
  mc_1 (mk_p (ms_ast (Or.inl ⟨rfl, by decide +kernel⟩)) rfl) <|
  mc_1 (mk_p (ms_goto (off := (33)) (by decide +kernel) (by decide)) rfl) <|
  mc_1 (mk_p (ms_iinc (n := (-1)) (by decide +kernel) (by decide +kernel) (by decide)) rfl) <|
  mc_1 (mk_p (ms_aload_n (k := 0) (by decide +kernel) rfl) rfl) <|
  mc_1 (mk_p (ms_get (idx := 112) (w := 1483) (host := none) mx_c12 (by decide) ml_f_LeagueOfficeModel_112 (by decide +kernel)) rfl) <| mc_0
theorem mw_204_11 : ∀ e ∈ mt_204_11, mx_Ok mx_MT mq_204 e.1 e.2 := 
  mc_1 (mk_p (ms_iload_n (k := 3) (by decide +kernel) rfl) rfl) <|
  mc_1 (mk_p (ms_iconst (n := 1) (by decide +kernel) (by decide +kernel)) rfl) <|
  mc_1 (mk_p (ms_isub (by decide +kernel)) rfl) <|
  mc_1 (mk_p (ms_iload (by decide +kernel)) rfl) <|
  mc_1 (mk_p (ms_aload_n (k := 0) (by decide +kernel) rfl) rfl) <|
  mc_1 (mk_p (ms_get (idx := 112) (w := 1483) (host := none) mx_c12 (by decide) ml_f_LeagueOfficeModel_112 (by decide +kernel)) rfl) <|
  mc_1 (mk_p (ms_iload_n (k := 3) (by decide +kernel) rfl) rfl) <|
  mc_1 (mk_p (ms_iconst (n := 1) (by decide +kernel) (by decide +kernel)) rfl) <|
  mc_1 (mk_p (ms_isub (by decide +kernel)) rfl) <|
  mc_1 (mk_p (ms_ald (Or.inl ⟨rfl, by decide +kernel⟩)) rfl) <|
  mc_1 (mk_p (ms_aload_n (k := 0) (by decide +kernel) rfl) rfl) <| mc_0
theorem mw_204_12 : ∀ e ∈ mt_204_12, mx_Ok mx_MT mq_204 e.1 e.2 := 
  mc_1 (mk_p (ms_get (idx := 112) (w := 1483) (host := none) mx_c12 (by decide) ml_f_LeagueOfficeModel_112 (by decide +kernel)) rfl) <|
  mc_1 (mk_p (ms_iload_n (k := 3) (by decide +kernel) rfl) rfl) <|
  mc_1 (mk_p (ms_ald (Or.inl ⟨rfl, by decide +kernel⟩)) rfl) <|
  mc_1 (mk_c (k := mq_203) rfl ⟨mo_203, 335, 1743, none, ml_m_LeagueOfficeModel_335, Or.inl ⟨rfl, (by decide +kernel), mx_npd (by decide +kernel), ml_st_1744⟩⟩) <|
  mc_1 (mk_p (ms_ast (Or.inl ⟨rfl, by decide +kernel⟩)) rfl) <|
  mc_1 (mk_p (ms_iinc (n := (1)) (by decide +kernel) (by decide +kernel) (by decide)) rfl) <|
  mc_1 (mk_p (ms_goto (off := (-174)) (by decide +kernel) (by decide)) rfl) <|
  mc_1 (mk_p (ms_aload_n (k := 0) (by decide +kernel) rfl) rfl) <| mc_0
theorem mw_204_13 : ∀ e ∈ mt_204_13, mx_Ok mx_MT mq_204 e.1 e.2 := 
  mc_1 (mk_p (ms_get (idx := 112) (w := 1483) (host := none) mx_c12 (by decide) ml_f_LeagueOfficeModel_112 (by decide +kernel)) rfl) <|
  mc_1 (mk_p (ms_iconst (n := 0) (by decide +kernel) (by decide +kernel)) rfl) <|
  mc_1 (mk_p (ms_ald (Or.inl ⟨rfl, by decide +kernel⟩)) rfl) <|
  mc_1 (mk_r (Or.inl ⟨rfl, by decide +kernel, _, rfl, mf_0⟩) rfl) <| mc_0
theorem mw_204 : ∀ ch ∈ mt_204, ∀ e ∈ ch, mx_Ok mx_MT mq_204 e.1 e.2 := mc_2 mw_204_0 <| mc_2 mw_204_1 <| mc_2 mw_204_2 <| mc_2 mw_204_3 <| mc_2 mw_204_4 <| mc_2 mw_204_5 <| mc_2 mw_204_6 <| mc_2 mw_204_7 <| mc_2 mw_204_8 <| mc_2 mw_204_9 <| mc_2 mw_204_10 <| mc_2 mw_204_11 <| mc_2 mw_204_12 <| mc_2 mw_204_13 <| mc_3
/- 205 LeagueOfficeModel.setFacts(IIIIII)V -/
theorem mw_205_0 : ∀ e ∈ mt_205_0, mx_Ok mx_MT mq_205 e.1 e.2 := 
  mc_1 (mk_p (ms_aload_n (k := 0) (by decide +kernel) rfl) rfl) <|
  mc_1 (mk_p (ms_get (idx := 109) (w := 1482) (host := none) mx_c12 (by decide) ml_f_LeagueOfficeModel_109 (by decide +kernel)) rfl) <|
  mc_1 (mk_p (ms_iconst (n := 0) (by decide +kernel) (by decide +kernel)) rfl) <|
  mc_1 (mk_p (ms_iload_n (k := 1) (by decide +kernel) rfl) rfl) <|
  mc_1 (mk_p (ms_ast (Or.inl ⟨rfl, by decide +kernel⟩)) rfl) <|
  mc_1 (mk_p (ms_aload_n (k := 0) (by decide +kernel) rfl) rfl) <|
  mc_1 (mk_p (ms_get (idx := 109) (w := 1482) (host := none) mx_c12 (by decide) ml_f_LeagueOfficeModel_109 (by decide +kernel)) rfl) <|
  mc_1 (mk_p (ms_iconst (n := 1) (by decide +kernel) (by decide +kernel)) rfl) <|
  mc_1 (mk_p (ms_iload_n (k := 2) (by decide +kernel) rfl) rfl) <|
  mc_1 (mk_p (ms_ast (Or.inl ⟨rfl, by decide +kernel⟩)) rfl) <|
  mc_1 (mk_p (ms_aload_n (k := 0) (by decide +kernel) rfl) rfl) <|
  mc_1 (mk_p (ms_get (idx := 109) (w := 1482) (host := none) mx_c12 (by decide) ml_f_LeagueOfficeModel_109 (by decide +kernel)) rfl) <| mc_0
theorem mw_205_1 : ∀ e ∈ mt_205_1, mx_Ok mx_MT mq_205 e.1 e.2 := 
  mc_1 (mk_p (ms_iconst (n := 2) (by decide +kernel) (by decide +kernel)) rfl) <|
  mc_1 (mk_p (ms_iload_n (k := 3) (by decide +kernel) rfl) rfl) <|
  mc_1 (mk_p (ms_ast (Or.inl ⟨rfl, by decide +kernel⟩)) rfl) <|
  mc_1 (mk_p (ms_aload_n (k := 0) (by decide +kernel) rfl) rfl) <|
  mc_1 (mk_p (ms_get (idx := 109) (w := 1482) (host := none) mx_c12 (by decide) ml_f_LeagueOfficeModel_109 (by decide +kernel)) rfl) <|
  mc_1 (mk_p (ms_iconst (n := 3) (by decide +kernel) (by decide +kernel)) rfl) <|
  mc_1 (mk_p (ms_iload (by decide +kernel)) rfl) <|
  mc_1 (mk_p (ms_ast (Or.inl ⟨rfl, by decide +kernel⟩)) rfl) <|
  mc_1 (mk_p (ms_aload_n (k := 0) (by decide +kernel) rfl) rfl) <|
  mc_1 (mk_p (ms_get (idx := 109) (w := 1482) (host := none) mx_c12 (by decide) ml_f_LeagueOfficeModel_109 (by decide +kernel)) rfl) <| mc_0
theorem mw_205_2 : ∀ e ∈ mt_205_2, mx_Ok mx_MT mq_205 e.1 e.2 := 
  mc_1 (mk_p (ms_iconst (n := 4) (by decide +kernel) (by decide +kernel)) rfl) <|
  mc_1 (mk_p (ms_iload (by decide +kernel)) rfl) <|
  mc_1 (mk_p (ms_ast (Or.inl ⟨rfl, by decide +kernel⟩)) rfl) <|
  mc_1 (mk_p (ms_aload_n (k := 0) (by decide +kernel) rfl) rfl) <|
  mc_1 (mk_p (ms_get (idx := 109) (w := 1482) (host := none) mx_c12 (by decide) ml_f_LeagueOfficeModel_109 (by decide +kernel)) rfl) <|
  mc_1 (mk_p (ms_iconst (n := 5) (by decide +kernel) (by decide +kernel)) rfl) <|
  mc_1 (mk_p (ms_iload (by decide +kernel)) rfl) <|
  mc_1 (mk_p (ms_ast (Or.inl ⟨rfl, by decide +kernel⟩)) rfl) <|
  mc_1 (mk_r (Or.inr (Or.inr (Or.inr ⟨rfl, by decide +kernel, rfl⟩))) rfl) <| mc_0
theorem mw_205 : ∀ ch ∈ mt_205, ∀ e ∈ ch, mx_Ok mx_MT mq_205 e.1 e.2 := mc_2 mw_205_0 <| mc_2 mw_205_1 <| mc_2 mw_205_2 <| mc_3
/- 206 LeagueOfficeModel.take(III)I -/
theorem mw_206_0 : ∀ e ∈ mt_206_0, mx_Ok mx_MT mq_206 e.1 e.2 := 
  mc_1 (mk_p (ms_aload_n (k := 0) (by decide +kernel) rfl) rfl) <|
  mc_1 (mk_p (ms_iload_n (k := 1) (by decide +kernel) rfl) rfl) <|
  mc_1 (mk_c (k := mq_166) rfl ⟨mo_166, 28, 1332, none, ml_m_LeagueOfficeModel_28, Or.inr (Or.inr (Or.inl ⟨12, TX12, 78, by decide, rfl, rfl, (by decide +kernel), ⟨1, rfl, mx_npd (by decide +kernel)⟩, ml_in_1334, ml_se_30⟩))⟩) <|
  mc_1 (mk_p (ms_if_eq (off := (20)) (by decide +kernel) (by decide)) rfl) <|
  mc_1 (mk_p (ms_iload_n (k := 2) (by decide +kernel) rfl) rfl) <|
  mc_1 (mk_p (ms_iconst (n := 1) (by decide +kernel) (by decide +kernel)) rfl) <|
  mc_1 (mk_p (ms_bipush (n := 99) (by decide +kernel) (by decide +kernel)) rfl) <|
  mc_1 (mk_c (k := mq_163) rfl ⟨mo_163, 7, 1318, none, ml_m_LeagueOfficeModel_7, Or.inl ⟨rfl, (by decide +kernel), mx_npd (by decide +kernel), ml_st_1319⟩⟩) <|
  mc_1 (mk_p (ms_if_eq (off := (10)) (by decide +kernel) (by decide)) rfl) <| mc_0
theorem mw_206_1 : ∀ e ∈ mt_206_1, mx_Ok mx_MT mq_206 e.1 e.2 := 
  mc_1 (mk_p (ms_iload_n (k := 3) (by decide +kernel) rfl) rfl) <|
  mc_1 (mk_c (k := mq_164) rfl ⟨mo_164, 34, 1341, none, ml_m_LeagueOfficeModel_34, Or.inl ⟨rfl, (by decide +kernel), mx_npd (by decide +kernel), ml_st_1342⟩⟩) <|
  mc_1 (mk_p (ms_if_ne (off := (6)) (by decide +kernel) (by decide)) rfl) <|
  mc_1 (mk_p (ms_bipush (n := (-2)) (by decide +kernel) (by decide +kernel)) rfl) <|
  mc_1 (mk_r (Or.inl ⟨rfl, by decide +kernel, _, rfl, mf_0⟩) rfl) <|
  mc_1 (mk_p (ms_aload_n (k := 0) (by decide +kernel) rfl) rfl) <|
  mc_1 (mk_p (ms_get (idx := 339) (w := 1484) (host := none) mx_c12 (by decide) ml_f_LeagueOfficeModel_339 (by decide +kernel)) rfl) <| mc_0
theorem mw_206_2 : ∀ e ∈ mt_206_2, mx_Ok mx_MT mq_206 e.1 e.2 := 
  mc_1 (mk_p (ms_bipush (n := 30) (by decide +kernel) (by decide +kernel)) rfl) <|
  mc_1 (mk_p (ms_icmp_ne (off := (6)) (by decide +kernel) (by decide)) rfl) <|
  mc_1 (mk_p (ms_bipush (n := (-4)) (by decide +kernel) (by decide +kernel)) rfl) <|
  mc_1 (mk_r (Or.inl ⟨rfl, by decide +kernel, _, rfl, mf_0⟩) rfl) <|
  mc_1 (mk_p (ms_aload_n (k := 0) (by decide +kernel) rfl) rfl) <|
  mc_1 (mk_p (ms_get (idx := 115) (w := 1485) (host := none) mx_c12 (by decide) ml_f_LeagueOfficeModel_115 (by decide +kernel)) rfl) <|
  mc_1 (mk_p (ms_aload_n (k := 0) (by decide +kernel) rfl) rfl) <|
  mc_1 (mk_p (ms_get (idx := 339) (w := 1484) (host := none) mx_c12 (by decide) ml_f_LeagueOfficeModel_339 (by decide +kernel)) rfl) <| mc_0
theorem mw_206_3 : ∀ e ∈ mt_206_3, mx_Ok mx_MT mq_206 e.1 e.2 := 
  mc_1 (mk_p (ms_iload_n (k := 1) (by decide +kernel) rfl) rfl) <|
  mc_1 (mk_p (ms_ast (Or.inl ⟨rfl, by decide +kernel⟩)) rfl) <|
  mc_1 (mk_p (ms_aload_n (k := 0) (by decide +kernel) rfl) rfl) <|
  mc_1 (mk_p (ms_get (idx := 118) (w := 1486) (host := none) mx_c12 (by decide) ml_f_LeagueOfficeModel_118 (by decide +kernel)) rfl) <|
  mc_1 (mk_p (ms_aload_n (k := 0) (by decide +kernel) rfl) rfl) <|
  mc_1 (mk_p (ms_get (idx := 339) (w := 1484) (host := none) mx_c12 (by decide) ml_f_LeagueOfficeModel_339 (by decide +kernel)) rfl) <|
  mc_1 (mk_p (ms_iload_n (k := 2) (by decide +kernel) rfl) rfl) <|
  mc_1 (mk_p (ms_ast (Or.inl ⟨rfl, by decide +kernel⟩)) rfl) <|
  mc_1 (mk_p (ms_aload_n (k := 0) (by decide +kernel) rfl) rfl) <|
  mc_1 (mk_p (ms_get (idx := 121) (w := 1487) (host := none) mx_c12 (by decide) ml_f_LeagueOfficeModel_121 (by decide +kernel)) rfl) <| mc_0
theorem mw_206_4 : ∀ e ∈ mt_206_4, mx_Ok mx_MT mq_206 e.1 e.2 := 
  mc_1 (mk_p (ms_aload_n (k := 0) (by decide +kernel) rfl) rfl) <|
  mc_1 (mk_p (ms_get (idx := 339) (w := 1484) (host := none) mx_c12 (by decide) ml_f_LeagueOfficeModel_339 (by decide +kernel)) rfl) <|
  mc_1 (mk_p (ms_iload_n (k := 3) (by decide +kernel) rfl) rfl) <|
  mc_1 (mk_p (ms_ast (Or.inl ⟨rfl, by decide +kernel⟩)) rfl) <|
  mc_1 (mk_p (ms_aload_n (k := 0) (by decide +kernel) rfl) rfl) <|
  mc_1 (mk_p (ms_dup (by decide +kernel)) rfl) <|
  mc_1 (mk_p (ms_get (idx := 339) (w := 1484) (host := none) mx_c12 (by decide) ml_f_LeagueOfficeModel_339 (by decide +kernel)) rfl) <|
  mc_1 (mk_p (ms_iconst (n := 1) (by decide +kernel) (by decide +kernel)) rfl) <|
  mc_1 (mk_p (ms_iadd (by decide +kernel)) rfl) <|
  mc_1 (mk_p (ms_put (idx := 339) (w := 1484) (host := none) mx_c12 (by decide) ml_f_LeagueOfficeModel_339 rfl rfl (by decide +kernel)) rfl) <| mc_0
theorem mw_206_5 : ∀ e ∈ mt_206_5, mx_Ok mx_MT mq_206 e.1 e.2 := 
  mc_1 (mk_p (ms_aload_n (k := 0) (by decide +kernel) rfl) rfl) <|
  mc_1 (mk_p (ms_get (idx := 339) (w := 1484) (host := none) mx_c12 (by decide) ml_f_LeagueOfficeModel_339 (by decide +kernel)) rfl) <|
  mc_1 (mk_r (Or.inl ⟨rfl, by decide +kernel, _, rfl, mf_0⟩) rfl) <| mc_0
theorem mw_206 : ∀ ch ∈ mt_206, ∀ e ∈ ch, mx_Ok mx_MT mq_206 e.1 e.2 := mc_2 mw_206_0 <| mc_2 mw_206_1 <| mc_2 mw_206_2 <| mc_2 mw_206_3 <| mc_2 mw_206_4 <| mc_2 mw_206_5 <| mc_3
/- 207 LeagueOfficeModel.endOf(II)I -/
theorem mw_207_0 : ∀ e ∈ mt_207_0, mx_Ok mx_MT mq_207 e.1 e.2 := 
  mc_1 (mk_p (ms_aload_n (k := 0) (by decide +kernel) rfl) rfl) <|
  mc_1 (mk_p (ms_get (idx := 37) (w := 1458) (host := none) mx_c12 (by decide) ml_f_LeagueOfficeModel_37 (by decide +kernel)) rfl) <|
  mc_1 (mk_p (ms_iload_n (k := 1) (by decide +kernel) rfl) rfl) <|
  mc_1 (mk_p (ms_ald (Or.inl ⟨rfl, by decide +kernel⟩)) rfl) <|
  mc_1 (mk_c (k := mq_172) rfl ⟨mo_172, 55, 1352, none, ml_m_LeagueOfficeModel_55, Or.inl ⟨rfl, (by decide +kernel), mx_npd (by decide +kernel), ml_st_1353⟩⟩) <|
  mc_1 (mk_p (ms_if_eq (off := (22)) (by decide +kernel) (by decide)) rfl) <|
  mc_1 (mk_p (ms_aload_n (k := 0) (by decide +kernel) rfl) rfl) <|
  mc_1 (mk_p (ms_get (idx := 46) (w := 1461) (host := none) mx_c12 (by decide) ml_f_LeagueOfficeModel_46 (by decide +kernel)) rfl) <| mc_0
theorem mw_207_1 : ∀ e ∈ mt_207_1, mx_Ok mx_MT mq_207 e.1 e.2 := 
  mc_1 (mk_p (ms_iload_n (k := 1) (by decide +kernel) rfl) rfl) <|
  mc_1 (mk_p (ms_ald (Or.inl ⟨rfl, by decide +kernel⟩)) rfl) <|
  mc_1 (mk_p (ms_iload_n (k := 2) (by decide +kernel) rfl) rfl) <|
  mc_1 (mk_p (ms_icmp_gt (off := (12)) (by decide +kernel) (by decide)) rfl) <|
  mc_1 (mk_p (ms_aload_n (k := 0) (by decide +kernel) rfl) rfl) <|
  mc_1 (mk_p (ms_iload_n (k := 1) (by decide +kernel) rfl) rfl) <|
  mc_1 (mk_p (ms_iload_n (k := 2) (by decide +kernel) rfl) rfl) <|
  mc_1 (mk_c (k := mq_179) rfl ⟨mo_179, 80, 1372, none, ml_m_LeagueOfficeModel_80, Or.inr (Or.inr (Or.inl ⟨12, TX12, 78, by decide, rfl, rfl, (by decide +kernel), ⟨2, rfl, mx_npd (by decide +kernel)⟩, ml_in_1374, ml_se_32⟩))⟩) <|
  mc_1 (mk_p (ms_goto (off := (4)) (by decide +kernel) (by decide)) rfl) <|
  mc_1 (mk_p (ms_iconst (n := (-1)) (by decide +kernel) (by decide +kernel)) rfl) <| mc_0
theorem mw_207_2 : ∀ e ∈ mt_207_2, mx_Ok mx_MT mq_207 e.1 e.2 := 
  mc_1 (mk_r (Or.inl ⟨rfl, by decide +kernel, _, rfl, mf_0⟩) rfl) <| mc_0
theorem mw_207 : ∀ ch ∈ mt_207, ∀ e ∈ ch, mx_Ok mx_MT mq_207 e.1 e.2 := mc_2 mw_207_0 <| mc_2 mw_207_1 <| mc_2 mw_207_2 <| mc_3
/- 208 LeagueOfficeModel.isIn(II)Z -/
theorem mw_208_0 : ∀ e ∈ mt_208_0, mx_Ok mx_MT mq_208 e.1 e.2 := 
  mc_1 (mk_p (ms_aload_n (k := 0) (by decide +kernel) rfl) rfl) <|
  mc_1 (mk_p (ms_get (idx := 40) (w := 1459) (host := none) mx_c12 (by decide) ml_f_LeagueOfficeModel_40 (by decide +kernel)) rfl) <|
  mc_1 (mk_p (ms_iload_n (k := 2) (by decide +kernel) rfl) rfl) <|
  mc_1 (mk_p (ms_ald (Or.inl ⟨rfl, by decide +kernel⟩)) rfl) <|
  mc_1 (mk_p (ms_iload_n (k := 1) (by decide +kernel) rfl) rfl) <|
  mc_1 (mk_p (ms_icmp_eq (off := (13)) (by decide +kernel) (by decide)) rfl) <|
  mc_1 (mk_p (ms_aload_n (k := 0) (by decide +kernel) rfl) rfl) <|
  mc_1 (mk_p (ms_get (idx := 43) (w := 1460) (host := none) mx_c12 (by decide) ml_f_LeagueOfficeModel_43 (by decide +kernel)) rfl) <|
  mc_1 (mk_p (ms_iload_n (k := 2) (by decide +kernel) rfl) rfl) <|
  mc_1 (mk_p (ms_ald (Or.inl ⟨rfl, by decide +kernel⟩)) rfl) <| mc_0
theorem mw_208_1 : ∀ e ∈ mt_208_1, mx_Ok mx_MT mq_208 e.1 e.2 := 
  mc_1 (mk_p (ms_iload_n (k := 1) (by decide +kernel) rfl) rfl) <|
  mc_1 (mk_p (ms_icmp_ne (off := (7)) (by decide +kernel) (by decide)) rfl) <|
  mc_1 (mk_p (ms_iconst (n := 1) (by decide +kernel) (by decide +kernel)) rfl) <|
  mc_1 (mk_p (ms_goto (off := (4)) (by decide +kernel) (by decide)) rfl) <|
  mc_1 (mk_p (ms_iconst (n := 0) (by decide +kernel) (by decide +kernel)) rfl) <|
  mc_1 (mk_r (Or.inl ⟨rfl, by decide +kernel, _, rfl, mf_2⟩) rfl) <| mc_0
theorem mw_208 : ∀ ch ∈ mt_208, ∀ e ∈ ch, mx_Ok mx_MT mq_208 e.1 e.2 := mc_2 mw_208_0 <| mc_2 mw_208_1 <| mc_3
/- 209 LeagueOfficeModel.made(IZ)I -/
theorem mw_209_0 : ∀ e ∈ mt_209_0, mx_Ok mx_MT mq_209 e.1 e.2 := 
  mc_1 (mk_p (ms_iload_n (k := 1) (by decide +kernel) rfl) rfl) <|
  mc_1 (mk_p (ms_if_eq (off := (10)) (by decide +kernel) (by decide)) rfl) <|
  mc_1 (mk_p (ms_iload_n (k := 0) (by decide +kernel) rfl) rfl) <|
  mc_1 (mk_p (ms_bipush (n := 100) (by decide +kernel) (by decide +kernel)) rfl) <|
  mc_1 (mk_p (ms_idiv (by decide +kernel)) rfl) <|
  mc_1 (mk_p (ms_goto (off := (7)) (by decide +kernel) (by decide)) rfl) <|
  mc_1 (mk_p (ms_iload_n (k := 0) (by decide +kernel) rfl) rfl) <|
  mc_1 (mk_p (ms_bipush (n := 100) (by decide +kernel) (by decide +kernel)) rfl) <|
  mc_1 (mk_p (ms_irem (by decide +kernel)) rfl) <|
  mc_1 (mk_r (Or.inl ⟨rfl, by decide +kernel, _, rfl, mf_0⟩) rfl) <| mc_0
theorem mw_209 : ∀ ch ∈ mt_209, ∀ e ∈ ch, mx_Ok mx_MT mq_209 e.1 e.2 := mc_2 mw_209_0 <| mc_3
/- 210 LeagueOfficeModel.pointsIn(III)I -/
theorem mw_210_0 : ∀ e ∈ mt_210_0, mx_Ok mx_MT mq_210 e.1 e.2 := 
  mc_1 (mk_p (ms_iload_n (k := 3) (by decide +kernel) rfl) rfl) <|
  mc_1 (mk_p (ms_aload_n (k := 0) (by decide +kernel) rfl) rfl) <|
  mc_1 (mk_p (ms_get (idx := 40) (w := 1459) (host := none) mx_c12 (by decide) ml_f_LeagueOfficeModel_40 (by decide +kernel)) rfl) <|
  mc_1 (mk_p (ms_iload_n (k := 1) (by decide +kernel) rfl) rfl) <|
  mc_1 (mk_p (ms_ald (Or.inl ⟨rfl, by decide +kernel⟩)) rfl) <|
  mc_1 (mk_p (ms_iload_n (k := 2) (by decide +kernel) rfl) rfl) <|
  mc_1 (mk_p (ms_icmp_ne (off := (7)) (by decide +kernel) (by decide)) rfl) <|
  mc_1 (mk_p (ms_iconst (n := 1) (by decide +kernel) (by decide +kernel)) rfl) <|
  mc_1 (mk_p (ms_goto (off := (4)) (by decide +kernel) (by decide)) rfl) <|
  mc_1 (mk_p (ms_iconst (n := 0) (by decide +kernel) (by decide +kernel)) rfl) <| mc_0
theorem mw_210_1 : ∀ e ∈ mt_210_1, mx_Ok mx_MT mq_210 e.1 e.2 := 
  mc_1 (mk_c (k := mq_209) rfl ⟨mo_209, 342, 1732, none, ml_m_LeagueOfficeModel_342, Or.inl ⟨rfl, (by decide +kernel), mx_npd (by decide +kernel), ml_st_1733⟩⟩) <|
  mc_1 (mk_p (ms_istore (by decide +kernel) (by decide)) rfl) <|
  mc_1 (mk_p (ms_iload_n (k := 3) (by decide +kernel) rfl) rfl) <|
  mc_1 (mk_p (ms_aload_n (k := 0) (by decide +kernel) rfl) rfl) <|
  mc_1 (mk_p (ms_get (idx := 40) (w := 1459) (host := none) mx_c12 (by decide) ml_f_LeagueOfficeModel_40 (by decide +kernel)) rfl) <|
  mc_1 (mk_p (ms_iload_n (k := 1) (by decide +kernel) rfl) rfl) <|
  mc_1 (mk_p (ms_ald (Or.inl ⟨rfl, by decide +kernel⟩)) rfl) <|
  mc_1 (mk_p (ms_iload_n (k := 2) (by decide +kernel) rfl) rfl) <|
  mc_1 (mk_p (ms_icmp_eq (off := (7)) (by decide +kernel) (by decide)) rfl) <| mc_0
theorem mw_210_2 : ∀ e ∈ mt_210_2, mx_Ok mx_MT mq_210 e.1 e.2 := 
  mc_1 (mk_p (ms_iconst (n := 1) (by decide +kernel) (by decide +kernel)) rfl) <|
  mc_1 (mk_p (ms_goto (off := (4)) (by decide +kernel) (by decide)) rfl) <|
  mc_1 (mk_p (ms_iconst (n := 0) (by decide +kernel) (by decide +kernel)) rfl) <|
  mc_1 (mk_c (k := mq_209) rfl ⟨mo_209, 342, 1732, none, ml_m_LeagueOfficeModel_342, Or.inl ⟨rfl, (by decide +kernel), mx_npd (by decide +kernel), ml_st_1733⟩⟩) <|
  mc_1 (mk_p (ms_istore (by decide +kernel) (by decide)) rfl) <|
  mc_1 (mk_p (ms_iload (by decide +kernel)) rfl) <|
  mc_1 (mk_p (ms_iload (by decide +kernel)) rfl) <|
  mc_1 (mk_p (ms_icmp_ge (off := (5)) (by decide +kernel) (by decide)) rfl) <| mc_0
theorem mw_210_3 : ∀ e ∈ mt_210_3, mx_Ok mx_MT mq_210 e.1 e.2 := 
  mc_1 (mk_p (ms_iconst (n := 0) (by decide +kernel) (by decide +kernel)) rfl) <|
  mc_1 (mk_r (Or.inl ⟨rfl, by decide +kernel, _, rfl, mf_0⟩) rfl) <|
  mc_1 (mk_p (ms_aload_n (k := 0) (by decide +kernel) rfl) rfl) <|
  mc_1 (mk_p (ms_iload (by decide +kernel)) rfl) <|
  mc_1 (mk_p (ms_iload (by decide +kernel)) rfl) <|
  mc_1 (mk_p (ms_isub (by decide +kernel)) rfl) <|
  mc_1 (mk_p (ms_iload (by decide +kernel)) rfl) <|
  mc_1 (mk_p (ms_iconst (n := 0) (by decide +kernel) (by decide +kernel)) rfl) <|
  mc_1 (mk_p (ms_iconst (n := 0) (by decide +kernel) (by decide +kernel)) rfl) <|
  mc_1 (mk_p (ms_aload_n (k := 0) (by decide +kernel) rfl) rfl) <|
  mc_1 (mk_p (ms_get (idx := 37) (w := 1458) (host := none) mx_c12 (by decide) ml_f_LeagueOfficeModel_37 (by decide +kernel)) rfl) <| mc_0
theorem mw_210_4 : ∀ e ∈ mt_210_4, mx_Ok mx_MT mq_210 e.1 e.2 := 
  mc_1 (mk_p (ms_iload_n (k := 1) (by decide +kernel) rfl) rfl) <|
  mc_1 (mk_p (ms_ald (Or.inl ⟨rfl, by decide +kernel⟩)) rfl) <|
  mc_1 (mk_p (ms_aload_n (k := 0) (by decide +kernel) rfl) rfl) <|
  mc_1 (mk_p (ms_get (idx := 37) (w := 1458) (host := none) mx_c12 (by decide) ml_f_LeagueOfficeModel_37 (by decide +kernel)) rfl) <|
  mc_1 (mk_p (ms_iload_n (k := 1) (by decide +kernel) rfl) rfl) <|
  mc_1 (mk_p (ms_ald (Or.inl ⟨rfl, by decide +kernel⟩)) rfl) <|
  mc_1 (mk_p (ms_iconst (n := 2) (by decide +kernel) (by decide +kernel)) rfl) <|
  mc_1 (mk_p (ms_icmp_eq (off := (13)) (by decide +kernel) (by decide)) rfl) <|
  mc_1 (mk_p (ms_aload_n (k := 0) (by decide +kernel) rfl) rfl) <|
  mc_1 (mk_p (ms_get (idx := 37) (w := 1458) (host := none) mx_c12 (by decide) ml_f_LeagueOfficeModel_37 (by decide +kernel)) rfl) <| mc_0
theorem mw_210_5 : ∀ e ∈ mt_210_5, mx_Ok mx_MT mq_210 e.1 e.2 := 
  mc_1 (mk_p (ms_iload_n (k := 1) (by decide +kernel) rfl) rfl) <|
  mc_1 (mk_p (ms_ald (Or.inl ⟨rfl, by decide +kernel⟩)) rfl) <|
  mc_1 (mk_p (ms_iconst (n := 4) (by decide +kernel) (by decide +kernel)) rfl) <|
  mc_1 (mk_p (ms_icmp_ne (off := (7)) (by decide +kernel) (by decide)) rfl) <|
  mc_1 (mk_p (ms_iconst (n := 1) (by decide +kernel) (by decide +kernel)) rfl) <|
  mc_1 (mk_p (ms_goto (off := (4)) (by decide +kernel) (by decide)) rfl) <|
  mc_1 (mk_p (ms_iconst (n := 0) (by decide +kernel) (by decide +kernel)) rfl) <|
  mc_1 (mk_c (k := mq_205) rfl ⟨mo_205, 346, 1735, none, ml_m_LeagueOfficeModel_346, Or.inr (Or.inr (Or.inl ⟨12, TX12, 78, by decide, rfl, rfl, (by decide +kernel), ⟨6, rfl, mx_npd (by decide +kernel)⟩, ml_in_1737, ml_se_51⟩))⟩) <|
  mc_1 (mk_p (ms_aload_n (k := 0) (by decide +kernel) rfl) rfl) <| mc_0
theorem mw_210_6 : ∀ e ∈ mt_210_6, mx_Ok mx_MT mq_210 e.1 e.2 := 
  mc_1 (mk_p (ms_aload_n (k := 0) (by decide +kernel) rfl) rfl) <|
  mc_1 (mk_p (ms_aload_n (k := 0) (by decide +kernel) rfl) rfl) <|
  mc_1 (mk_p (ms_get (idx := 46) (w := 1461) (host := none) mx_c12 (by decide) ml_f_LeagueOfficeModel_46 (by decide +kernel)) rfl) <|
  mc_1 (mk_p (ms_iload_n (k := 1) (by decide +kernel) rfl) rfl) <|
  mc_1 (mk_p (ms_ald (Or.inl ⟨rfl, by decide +kernel⟩)) rfl) <|
  mc_1 (mk_c (k := mq_201) rfl ⟨mo_201, 332, 1704, none, ml_m_LeagueOfficeModel_332, Or.inr (Or.inr (Or.inl ⟨12, TX12, 78, by decide, rfl, rfl, (by decide +kernel), ⟨1, rfl, mx_npd (by decide +kernel)⟩, ml_in_1706, ml_se_46⟩))⟩) <|
  mc_1 (mk_p (ms_iload (by decide +kernel)) rfl) <|
  mc_1 (mk_p (ms_iload (by decide +kernel)) rfl) <|
  mc_1 (mk_p (ms_icmp_le (off := (7)) (by decide +kernel) (by decide)) rfl) <| mc_0
theorem mw_210_7 : ∀ e ∈ mt_210_7, mx_Ok mx_MT mq_210 e.1 e.2 := 
  mc_1 (mk_p (ms_iconst (n := 0) (by decide +kernel) (by decide +kernel)) rfl) <|
  mc_1 (mk_p (ms_goto (off := (4)) (by decide +kernel) (by decide)) rfl) <|
  mc_1 (mk_p (ms_iconst (n := 1) (by decide +kernel) (by decide +kernel)) rfl) <|
  mc_1 (mk_c (k := mq_204) rfl ⟨mo_204, 350, 1739, none, ml_m_LeagueOfficeModel_350, Or.inr (Or.inr (Or.inl ⟨12, TX12, 78, by decide, rfl, rfl, (by decide +kernel), ⟨2, rfl, mx_npd (by decide +kernel)⟩, ml_in_1741, ml_se_52⟩))⟩) <|
  mc_1 (mk_r (Or.inl ⟨rfl, by decide +kernel, _, rfl, mf_0⟩) rfl) <| mc_0
theorem mw_210 : ∀ ch ∈ mt_210, ∀ e ∈ ch, mx_Ok mx_MT mq_210 e.1 e.2 := mc_2 mw_210_0 <| mc_2 mw_210_1 <| mc_2 mw_210_2 <| mc_2 mw_210_3 <| mc_2 mw_210_4 <| mc_2 mw_210_5 <| mc_2 mw_210_6 <| mc_2 mw_210_7 <| mc_3
/- 211 LeagueOfficeModel.pointsOf(II)J -/
theorem mw_211_0 : ∀ e ∈ mt_211_0, mx_Ok mx_MT mq_211 e.1 e.2 := 
  mc_1 (mk_p (ms_lconst (n := 0) (by decide +kernel) rfl) rfl) <|
  mc_1 (mk_p (ms_lstore_n (k := 3) (by decide +kernel) rfl (by decide)) rfl) <|
  mc_1 (mk_p (ms_iconst (n := 0) (by decide +kernel) (by decide +kernel)) rfl) <|
  mc_1 (mk_p (ms_istore (by decide +kernel) (by decide)) rfl) <|
  mc_1 (mk_p (ms_iload (by decide +kernel)) rfl) <|
  mc_1 (mk_p (ms_aload_n (k := 0) (by decide +kernel) rfl) rfl) <|
  mc_1 (mk_p (ms_get (idx := 31) (w := 1457) (host := none) mx_c12 (by decide) ml_f_LeagueOfficeModel_31 (by decide +kernel)) rfl) <|
  mc_1 (mk_p (ms_icmp_ge (off := (47)) (by decide +kernel) (by decide)) rfl) <|
  mc_1 (mk_p (ms_aload_n (k := 0) (by decide +kernel) rfl) rfl) <|
  mc_1 (mk_p (ms_iload_n (k := 1) (by decide +kernel) rfl) rfl) <| mc_0
theorem mw_211_1 : ∀ e ∈ mt_211_1, mx_Ok mx_MT mq_211 e.1 e.2 := 
  mc_1 (mk_p (ms_iload (by decide +kernel)) rfl) <|
  mc_1 (mk_c (k := mq_208) rfl ⟨mo_208, 353, 1720, none, ml_m_LeagueOfficeModel_353, Or.inr (Or.inr (Or.inl ⟨12, TX12, 78, by decide, rfl, rfl, (by decide +kernel), ⟨2, rfl, mx_npd (by decide +kernel)⟩, ml_in_1722, ml_se_48⟩))⟩) <|
  mc_1 (mk_p (ms_if_eq (off := (31)) (by decide +kernel) (by decide)) rfl) <|
  mc_1 (mk_p (ms_aload_n (k := 0) (by decide +kernel) rfl) rfl) <|
  mc_1 (mk_p (ms_iload (by decide +kernel)) rfl) <|
  mc_1 (mk_p (ms_iload_n (k := 2) (by decide +kernel) rfl) rfl) <|
  mc_1 (mk_c (k := mq_207) rfl ⟨mo_207, 357, 1724, none, ml_m_LeagueOfficeModel_357, Or.inr (Or.inr (Or.inl ⟨12, TX12, 78, by decide, rfl, rfl, (by decide +kernel), ⟨2, rfl, mx_npd (by decide +kernel)⟩, ml_in_1726, ml_se_49⟩))⟩) <|
  mc_1 (mk_p (ms_if_lt (off := (21)) (by decide +kernel) (by decide)) rfl) <| mc_0
theorem mw_211_2 : ∀ e ∈ mt_211_2, mx_Ok mx_MT mq_211 e.1 e.2 := 
  mc_1 (mk_p (ms_lload_n (k := 3) (by decide +kernel) rfl) rfl) <|
  mc_1 (mk_p (ms_aload_n (k := 0) (by decide +kernel) rfl) rfl) <|
  mc_1 (mk_p (ms_iload (by decide +kernel)) rfl) <|
  mc_1 (mk_p (ms_iload_n (k := 1) (by decide +kernel) rfl) rfl) <|
  mc_1 (mk_p (ms_aload_n (k := 0) (by decide +kernel) rfl) rfl) <|
  mc_1 (mk_p (ms_iload (by decide +kernel)) rfl) <|
  mc_1 (mk_p (ms_iload_n (k := 2) (by decide +kernel) rfl) rfl) <|
  mc_1 (mk_c (k := mq_207) rfl ⟨mo_207, 357, 1724, none, ml_m_LeagueOfficeModel_357, Or.inr (Or.inr (Or.inl ⟨12, TX12, 78, by decide, rfl, rfl, (by decide +kernel), ⟨2, rfl, mx_npd (by decide +kernel)⟩, ml_in_1726, ml_se_49⟩))⟩) <|
  mc_1 (mk_c (k := mq_210) rfl ⟨mo_210, 360, 1728, none, ml_m_LeagueOfficeModel_360, Or.inr (Or.inr (Or.inl ⟨12, TX12, 78, by decide, rfl, rfl, (by decide +kernel), ⟨3, rfl, mx_npd (by decide +kernel)⟩, ml_in_1730, ml_se_50⟩))⟩) <| mc_0
theorem mw_211_3 : ∀ e ∈ mt_211_3, mx_Ok mx_MT mq_211 e.1 e.2 := 
  mc_1 (mk_p (ms_i2l (by decide +kernel)) rfl) <|
  mc_1 (mk_p (ms_ladd (by decide +kernel)) rfl) <|
  mc_1 (mk_p (ms_lstore_n (k := 3) (by decide +kernel) rfl (by decide)) rfl) <|
  mc_1 (mk_p (ms_iinc (n := (1)) (by decide +kernel) (by decide +kernel) (by decide)) rfl) <|
  mc_1 (mk_p (ms_goto (off := (-50)) (by decide +kernel) (by decide)) rfl) <|
  mc_1 (mk_p (ms_iconst (n := 0) (by decide +kernel) (by decide +kernel)) rfl) <|
  mc_1 (mk_p (ms_istore (by decide +kernel) (by decide)) rfl) <|
  mc_1 (mk_p (ms_iload (by decide +kernel)) rfl) <|
  mc_1 (mk_p (ms_aload_n (k := 0) (by decide +kernel) rfl) rfl) <| mc_0
theorem mw_211_4 : ∀ e ∈ mt_211_4, mx_Ok mx_MT mq_211 e.1 e.2 := 
  mc_1 (mk_p (ms_get (idx := 339) (w := 1484) (host := none) mx_c12 (by decide) ml_f_LeagueOfficeModel_339 (by decide +kernel)) rfl) <|
  mc_1 (mk_p (ms_icmp_ge (off := (42)) (by decide +kernel) (by decide)) rfl) <|
  mc_1 (mk_p (ms_aload_n (k := 0) (by decide +kernel) rfl) rfl) <|
  mc_1 (mk_p (ms_get (idx := 115) (w := 1485) (host := none) mx_c12 (by decide) ml_f_LeagueOfficeModel_115 (by decide +kernel)) rfl) <|
  mc_1 (mk_p (ms_iload (by decide +kernel)) rfl) <|
  mc_1 (mk_p (ms_ald (Or.inl ⟨rfl, by decide +kernel⟩)) rfl) <|
  mc_1 (mk_p (ms_iload_n (k := 1) (by decide +kernel) rfl) rfl) <|
  mc_1 (mk_p (ms_icmp_ne (off := (25)) (by decide +kernel) (by decide)) rfl) <| mc_0
theorem mw_211_5 : ∀ e ∈ mt_211_5, mx_Ok mx_MT mq_211 e.1 e.2 := 
  mc_1 (mk_p (ms_aload_n (k := 0) (by decide +kernel) rfl) rfl) <|
  mc_1 (mk_p (ms_get (idx := 121) (w := 1487) (host := none) mx_c12 (by decide) ml_f_LeagueOfficeModel_121 (by decide +kernel)) rfl) <|
  mc_1 (mk_p (ms_iload (by decide +kernel)) rfl) <|
  mc_1 (mk_p (ms_ald (Or.inl ⟨rfl, by decide +kernel⟩)) rfl) <|
  mc_1 (mk_p (ms_iload_n (k := 2) (by decide +kernel) rfl) rfl) <|
  mc_1 (mk_p (ms_icmp_gt (off := (14)) (by decide +kernel) (by decide)) rfl) <|
  mc_1 (mk_p (ms_lload_n (k := 3) (by decide +kernel) rfl) rfl) <|
  mc_1 (mk_p (ms_aload_n (k := 0) (by decide +kernel) rfl) rfl) <|
  mc_1 (mk_p (ms_get (idx := 118) (w := 1486) (host := none) mx_c12 (by decide) ml_f_LeagueOfficeModel_118 (by decide +kernel)) rfl) <| mc_0
theorem mw_211_6 : ∀ e ∈ mt_211_6, mx_Ok mx_MT mq_211 e.1 e.2 := 
  mc_1 (mk_p (ms_iload (by decide +kernel)) rfl) <|
  mc_1 (mk_p (ms_ald (Or.inl ⟨rfl, by decide +kernel⟩)) rfl) <|
  mc_1 (mk_p (ms_i2l (by decide +kernel)) rfl) <|
  mc_1 (mk_p (ms_lsub (by decide +kernel)) rfl) <|
  mc_1 (mk_p (ms_lstore_n (k := 3) (by decide +kernel) rfl (by decide)) rfl) <|
  mc_1 (mk_p (ms_iinc (n := (1)) (by decide +kernel) (by decide +kernel) (by decide)) rfl) <|
  mc_1 (mk_p (ms_goto (off := (-45)) (by decide +kernel) (by decide)) rfl) <|
  mc_1 (mk_p (ms_lload_n (k := 3) (by decide +kernel) rfl) rfl) <|
  mc_1 (mk_r (Or.inr (Or.inl ⟨rfl, by decide +kernel, rfl⟩)) rfl) <| mc_0
theorem mw_211 : ∀ ch ∈ mt_211, ∀ e ∈ ch, mx_Ok mx_MT mq_211 e.1 e.2 := mc_2 mw_211_0 <| mc_2 mw_211_1 <| mc_2 mw_211_2 <| mc_2 mw_211_3 <| mc_2 mw_211_4 <| mc_2 mw_211_5 <| mc_2 mw_211_6 <| mc_3
/- 212 LeagueOfficeModel.tally(III)V -/
theorem mw_212_0 : ∀ e ∈ mt_212_0, mx_Ok mx_MT mq_212 e.1 e.2 := 
  mc_1 (mk_p (ms_iload_n (k := 3) (by decide +kernel) rfl) rfl) <|
  mc_1 (mk_p (ms_aload_n (k := 0) (by decide +kernel) rfl) rfl) <|
  mc_1 (mk_p (ms_get (idx := 40) (w := 1459) (host := none) mx_c12 (by decide) ml_f_LeagueOfficeModel_40 (by decide +kernel)) rfl) <|
  mc_1 (mk_p (ms_iload_n (k := 2) (by decide +kernel) rfl) rfl) <|
  mc_1 (mk_p (ms_ald (Or.inl ⟨rfl, by decide +kernel⟩)) rfl) <|
  mc_1 (mk_p (ms_iload_n (k := 1) (by decide +kernel) rfl) rfl) <|
  mc_1 (mk_p (ms_icmp_ne (off := (7)) (by decide +kernel) (by decide)) rfl) <|
  mc_1 (mk_p (ms_iconst (n := 1) (by decide +kernel) (by decide +kernel)) rfl) <|
  mc_1 (mk_p (ms_goto (off := (4)) (by decide +kernel) (by decide)) rfl) <|
  mc_1 (mk_p (ms_iconst (n := 0) (by decide +kernel) (by decide +kernel)) rfl) <| mc_0
theorem mw_212_1 : ∀ e ∈ mt_212_1, mx_Ok mx_MT mq_212 e.1 e.2 := 
  mc_1 (mk_c (k := mq_209) rfl ⟨mo_209, 342, 1732, none, ml_m_LeagueOfficeModel_342, Or.inl ⟨rfl, (by decide +kernel), mx_npd (by decide +kernel), ml_st_1733⟩⟩) <|
  mc_1 (mk_p (ms_istore (by decide +kernel) (by decide)) rfl) <|
  mc_1 (mk_p (ms_iload_n (k := 3) (by decide +kernel) rfl) rfl) <|
  mc_1 (mk_p (ms_aload_n (k := 0) (by decide +kernel) rfl) rfl) <|
  mc_1 (mk_p (ms_get (idx := 40) (w := 1459) (host := none) mx_c12 (by decide) ml_f_LeagueOfficeModel_40 (by decide +kernel)) rfl) <|
  mc_1 (mk_p (ms_iload_n (k := 2) (by decide +kernel) rfl) rfl) <|
  mc_1 (mk_p (ms_ald (Or.inl ⟨rfl, by decide +kernel⟩)) rfl) <|
  mc_1 (mk_p (ms_iload_n (k := 1) (by decide +kernel) rfl) rfl) <|
  mc_1 (mk_p (ms_icmp_eq (off := (7)) (by decide +kernel) (by decide)) rfl) <| mc_0
theorem mw_212_2 : ∀ e ∈ mt_212_2, mx_Ok mx_MT mq_212 e.1 e.2 := 
  mc_1 (mk_p (ms_iconst (n := 1) (by decide +kernel) (by decide +kernel)) rfl) <|
  mc_1 (mk_p (ms_goto (off := (4)) (by decide +kernel) (by decide)) rfl) <|
  mc_1 (mk_p (ms_iconst (n := 0) (by decide +kernel) (by decide +kernel)) rfl) <|
  mc_1 (mk_c (k := mq_209) rfl ⟨mo_209, 342, 1732, none, ml_m_LeagueOfficeModel_342, Or.inl ⟨rfl, (by decide +kernel), mx_npd (by decide +kernel), ml_st_1733⟩⟩) <|
  mc_1 (mk_p (ms_istore (by decide +kernel) (by decide)) rfl) <|
  mc_1 (mk_p (ms_aload_n (k := 0) (by decide +kernel) rfl) rfl) <|
  mc_1 (mk_p (ms_get (idx := 124) (w := 1488) (host := none) mx_c12 (by decide) ml_f_LeagueOfficeModel_124 (by decide +kernel)) rfl) <|
  mc_1 (mk_p (ms_iload_n (k := 1) (by decide +kernel) rfl) rfl) <|
  mc_1 (mk_p (ms_dup2 (by decide +kernel)) rfl) <| mc_0
theorem mw_212_3 : ∀ e ∈ mt_212_3, mx_Ok mx_MT mq_212 e.1 e.2 := 
  mc_1 (mk_p (ms_ald (Or.inl ⟨rfl, by decide +kernel⟩)) rfl) <|
  mc_1 (mk_p (ms_iload (by decide +kernel)) rfl) <|
  mc_1 (mk_p (ms_iload (by decide +kernel)) rfl) <|
  mc_1 (mk_p (ms_isub (by decide +kernel)) rfl) <|
  mc_1 (mk_p (ms_iadd (by decide +kernel)) rfl) <|
  mc_1 (mk_p (ms_ast (Or.inl ⟨rfl, by decide +kernel⟩)) rfl) <|
  mc_1 (mk_p (ms_aload_n (k := 0) (by decide +kernel) rfl) rfl) <|
  mc_1 (mk_p (ms_get (idx := 127) (w := 1489) (host := none) mx_c12 (by decide) ml_f_LeagueOfficeModel_127 (by decide +kernel)) rfl) <|
  mc_1 (mk_p (ms_iload_n (k := 1) (by decide +kernel) rfl) rfl) <|
  mc_1 (mk_p (ms_dup2 (by decide +kernel)) rfl) <|
  mc_1 (mk_p (ms_ald (Or.inl ⟨rfl, by decide +kernel⟩)) rfl) <|
  mc_1 (mk_p (ms_iload (by decide +kernel)) rfl) <| mc_0
theorem mw_212_4 : ∀ e ∈ mt_212_4, mx_Ok mx_MT mq_212 e.1 e.2 := 
  mc_1 (mk_p (ms_iadd (by decide +kernel)) rfl) <|
  mc_1 (mk_p (ms_ast (Or.inl ⟨rfl, by decide +kernel⟩)) rfl) <|
  mc_1 (mk_p (ms_aload_n (k := 0) (by decide +kernel) rfl) rfl) <|
  mc_1 (mk_p (ms_get (idx := 130) (w := 1490) (host := none) mx_c12 (by decide) ml_f_LeagueOfficeModel_130 (by decide +kernel)) rfl) <|
  mc_1 (mk_p (ms_iload_n (k := 1) (by decide +kernel) rfl) rfl) <|
  mc_1 (mk_p (ms_dup2 (by decide +kernel)) rfl) <|
  mc_1 (mk_p (ms_ald (Or.inl ⟨rfl, by decide +kernel⟩)) rfl) <|
  mc_1 (mk_p (ms_iload (by decide +kernel)) rfl) <|
  mc_1 (mk_p (ms_iload (by decide +kernel)) rfl) <|
  mc_1 (mk_p (ms_icmp_le (off := (7)) (by decide +kernel) (by decide)) rfl) <| mc_0
theorem mw_212_5 : ∀ e ∈ mt_212_5, mx_Ok mx_MT mq_212 e.1 e.2 := 
  mc_1 (mk_p (ms_iconst (n := 1) (by decide +kernel) (by decide +kernel)) rfl) <|
  mc_1 (mk_p (ms_goto (off := (4)) (by decide +kernel) (by decide)) rfl) <|
  mc_1 (mk_p (ms_iconst (n := 0) (by decide +kernel) (by decide +kernel)) rfl) <|
  mc_1 (mk_p (ms_iadd (by decide +kernel)) rfl) <|
  mc_1 (mk_p (ms_ast (Or.inl ⟨rfl, by decide +kernel⟩)) rfl) <|
  mc_1 (mk_r (Or.inr (Or.inr (Or.inr ⟨rfl, by decide +kernel, rfl⟩))) rfl) <| mc_0
theorem mw_212 : ∀ ch ∈ mt_212, ∀ e ∈ ch, mx_Ok mx_MT mq_212 e.1 e.2 := mc_2 mw_212_0 <| mc_2 mw_212_1 <| mc_2 mw_212_2 <| mc_2 mw_212_3 <| mc_2 mw_212_4 <| mc_2 mw_212_5 <| mc_3
/- 213 LeagueOfficeModel.likeBy(II)J -/
theorem mw_213_0 : ∀ e ∈ mt_213_0, mx_Ok mx_MT mq_213 e.1 e.2 := 
  mc_1 (mk_p (ms_aload_n (k := 0) (by decide +kernel) rfl) rfl) <|
  mc_1 (mk_p (ms_aload_n (k := 0) (by decide +kernel) rfl) rfl) <|
  mc_1 (mk_p (ms_get (idx := 124) (w := 1488) (host := none) mx_c12 (by decide) ml_f_LeagueOfficeModel_124 (by decide +kernel)) rfl) <|
  mc_1 (mk_p (ms_iload_n (k := 1) (by decide +kernel) rfl) rfl) <|
  mc_1 (mk_p (ms_ald (Or.inl ⟨rfl, by decide +kernel⟩)) rfl) <|
  mc_1 (mk_p (ms_aload_n (k := 0) (by decide +kernel) rfl) rfl) <|
  mc_1 (mk_p (ms_get (idx := 127) (w := 1489) (host := none) mx_c12 (by decide) ml_f_LeagueOfficeModel_127 (by decide +kernel)) rfl) <|
  mc_1 (mk_p (ms_iload_n (k := 1) (by decide +kernel) rfl) rfl) <|
  mc_1 (mk_p (ms_ald (Or.inl ⟨rfl, by decide +kernel⟩)) rfl) <|
  mc_1 (mk_p (ms_aload_n (k := 0) (by decide +kernel) rfl) rfl) <|
  mc_1 (mk_p (ms_get (idx := 130) (w := 1490) (host := none) mx_c12 (by decide) ml_f_LeagueOfficeModel_130 (by decide +kernel)) rfl) <| mc_0
theorem mw_213_1 : ∀ e ∈ mt_213_1, mx_Ok mx_MT mq_213 e.1 e.2 := 
  mc_1 (mk_p (ms_iload_n (k := 1) (by decide +kernel) rfl) rfl) <|
  mc_1 (mk_p (ms_ald (Or.inl ⟨rfl, by decide +kernel⟩)) rfl) <|
  mc_1 (mk_p (ms_iconst (n := 0) (by decide +kernel) (by decide +kernel)) rfl) <|
  mc_1 (mk_p (ms_iconst (n := 0) (by decide +kernel) (by decide +kernel)) rfl) <|
  mc_1 (mk_p (ms_iconst (n := 0) (by decide +kernel) (by decide +kernel)) rfl) <|
  mc_1 (mk_c (k := mq_205) rfl ⟨mo_205, 346, 1735, none, ml_m_LeagueOfficeModel_346, Or.inr (Or.inr (Or.inl ⟨12, TX12, 78, by decide, rfl, rfl, (by decide +kernel), ⟨6, rfl, mx_npd (by decide +kernel)⟩, ml_in_1737, ml_se_51⟩))⟩) <|
  mc_1 (mk_p (ms_aload_n (k := 0) (by decide +kernel) rfl) rfl) <|
  mc_1 (mk_p (ms_aload_n (k := 0) (by decide +kernel) rfl) rfl) <|
  mc_1 (mk_p (ms_iload_n (k := 2) (by decide +kernel) rfl) rfl) <|
  mc_1 (mk_c (k := mq_201) rfl ⟨mo_201, 332, 1704, none, ml_m_LeagueOfficeModel_332, Or.inr (Or.inr (Or.inl ⟨12, TX12, 78, by decide, rfl, rfl, (by decide +kernel), ⟨1, rfl, mx_npd (by decide +kernel)⟩, ml_in_1706, ml_se_46⟩))⟩) <|
  mc_1 (mk_p (ms_iconst (n := 2) (by decide +kernel) (by decide +kernel)) rfl) <| mc_0
theorem mw_213_2 : ∀ e ∈ mt_213_2, mx_Ok mx_MT mq_213 e.1 e.2 := 
  mc_1 (mk_c (k := mq_204) rfl ⟨mo_204, 350, 1739, none, ml_m_LeagueOfficeModel_350, Or.inr (Or.inr (Or.inl ⟨12, TX12, 78, by decide, rfl, rfl, (by decide +kernel), ⟨2, rfl, mx_npd (by decide +kernel)⟩, ml_in_1741, ml_se_52⟩))⟩) <|
  mc_1 (mk_p (ms_i2l (by decide +kernel)) rfl) <|
  mc_1 (mk_r (Or.inr (Or.inl ⟨rfl, by decide +kernel, rfl⟩)) rfl) <| mc_0
theorem mw_213 : ∀ ch ∈ mt_213, ∀ e ∈ ch, mx_Ok mx_MT mq_213 e.1 e.2 := mc_2 mw_213_0 <| mc_2 mw_213_1 <| mc_2 mw_213_2 <| mc_3
/- 214 LeagueOfficeModel.likeOf(II)J -/
theorem mw_214_0 : ∀ e ∈ mt_214_0, mx_Ok mx_MT mq_214 e.1 e.2 := 
  mc_1 (mk_p (ms_aload_n (k := 0) (by decide +kernel) rfl) rfl) <|
  mc_1 (mk_p (ms_get (idx := 124) (w := 1488) (host := none) mx_c12 (by decide) ml_f_LeagueOfficeModel_124 (by decide +kernel)) rfl) <|
  mc_1 (mk_p (ms_iload_n (k := 1) (by decide +kernel) rfl) rfl) <|
  mc_1 (mk_p (ms_iconst (n := 0) (by decide +kernel) (by decide +kernel)) rfl) <|
  mc_1 (mk_p (ms_ast (Or.inl ⟨rfl, by decide +kernel⟩)) rfl) <|
  mc_1 (mk_p (ms_aload_n (k := 0) (by decide +kernel) rfl) rfl) <|
  mc_1 (mk_p (ms_get (idx := 127) (w := 1489) (host := none) mx_c12 (by decide) ml_f_LeagueOfficeModel_127 (by decide +kernel)) rfl) <|
  mc_1 (mk_p (ms_iload_n (k := 1) (by decide +kernel) rfl) rfl) <|
  mc_1 (mk_p (ms_iconst (n := 0) (by decide +kernel) (by decide +kernel)) rfl) <|
  mc_1 (mk_p (ms_ast (Or.inl ⟨rfl, by decide +kernel⟩)) rfl) <|
  mc_1 (mk_p (ms_aload_n (k := 0) (by decide +kernel) rfl) rfl) <|
  mc_1 (mk_p (ms_get (idx := 130) (w := 1490) (host := none) mx_c12 (by decide) ml_f_LeagueOfficeModel_130 (by decide +kernel)) rfl) <| mc_0
theorem mw_214_1 : ∀ e ∈ mt_214_1, mx_Ok mx_MT mq_214 e.1 e.2 := 
  mc_1 (mk_p (ms_iload_n (k := 1) (by decide +kernel) rfl) rfl) <|
  mc_1 (mk_p (ms_iconst (n := 0) (by decide +kernel) (by decide +kernel)) rfl) <|
  mc_1 (mk_p (ms_ast (Or.inl ⟨rfl, by decide +kernel⟩)) rfl) <|
  mc_1 (mk_p (ms_iconst (n := 0) (by decide +kernel) (by decide +kernel)) rfl) <|
  mc_1 (mk_p (ms_istore_n (k := 3) (by decide +kernel) rfl (by decide)) rfl) <|
  mc_1 (mk_p (ms_iload_n (k := 3) (by decide +kernel) rfl) rfl) <|
  mc_1 (mk_p (ms_aload_n (k := 0) (by decide +kernel) rfl) rfl) <|
  mc_1 (mk_p (ms_get (idx := 31) (w := 1457) (host := none) mx_c12 (by decide) ml_f_LeagueOfficeModel_31 (by decide +kernel)) rfl) <|
  mc_1 (mk_p (ms_icmp_ge (off := (39)) (by decide +kernel) (by decide)) rfl) <|
  mc_1 (mk_p (ms_aload_n (k := 0) (by decide +kernel) rfl) rfl) <| mc_0
theorem mw_214_2 : ∀ e ∈ mt_214_2, mx_Ok mx_MT mq_214 e.1 e.2 := 
  mc_1 (mk_p (ms_iload_n (k := 1) (by decide +kernel) rfl) rfl) <|
  mc_1 (mk_p (ms_iload_n (k := 3) (by decide +kernel) rfl) rfl) <|
  mc_1 (mk_c (k := mq_208) rfl ⟨mo_208, 353, 1720, none, ml_m_LeagueOfficeModel_353, Or.inr (Or.inr (Or.inl ⟨12, TX12, 78, by decide, rfl, rfl, (by decide +kernel), ⟨2, rfl, mx_npd (by decide +kernel)⟩, ml_in_1722, ml_se_48⟩))⟩) <|
  mc_1 (mk_p (ms_if_eq (off := (24)) (by decide +kernel) (by decide)) rfl) <|
  mc_1 (mk_p (ms_aload_n (k := 0) (by decide +kernel) rfl) rfl) <|
  mc_1 (mk_p (ms_iload_n (k := 3) (by decide +kernel) rfl) rfl) <|
  mc_1 (mk_p (ms_iload_n (k := 2) (by decide +kernel) rfl) rfl) <|
  mc_1 (mk_c (k := mq_207) rfl ⟨mo_207, 357, 1724, none, ml_m_LeagueOfficeModel_357, Or.inr (Or.inr (Or.inl ⟨12, TX12, 78, by decide, rfl, rfl, (by decide +kernel), ⟨2, rfl, mx_npd (by decide +kernel)⟩, ml_in_1726, ml_se_49⟩))⟩) <|
  mc_1 (mk_p (ms_if_lt (off := (15)) (by decide +kernel) (by decide)) rfl) <| mc_0
theorem mw_214_3 : ∀ e ∈ mt_214_3, mx_Ok mx_MT mq_214 e.1 e.2 := 
  mc_1 (mk_p (ms_aload_n (k := 0) (by decide +kernel) rfl) rfl) <|
  mc_1 (mk_p (ms_iload_n (k := 1) (by decide +kernel) rfl) rfl) <|
  mc_1 (mk_p (ms_iload_n (k := 3) (by decide +kernel) rfl) rfl) <|
  mc_1 (mk_p (ms_aload_n (k := 0) (by decide +kernel) rfl) rfl) <|
  mc_1 (mk_p (ms_iload_n (k := 3) (by decide +kernel) rfl) rfl) <|
  mc_1 (mk_p (ms_iload_n (k := 2) (by decide +kernel) rfl) rfl) <|
  mc_1 (mk_c (k := mq_207) rfl ⟨mo_207, 357, 1724, none, ml_m_LeagueOfficeModel_357, Or.inr (Or.inr (Or.inl ⟨12, TX12, 78, by decide, rfl, rfl, (by decide +kernel), ⟨2, rfl, mx_npd (by decide +kernel)⟩, ml_in_1726, ml_se_49⟩))⟩) <|
  mc_1 (mk_c (k := mq_212) rfl ⟨mo_212, 363, 1755, none, ml_m_LeagueOfficeModel_363, Or.inr (Or.inr (Or.inl ⟨12, TX12, 78, by decide, rfl, rfl, (by decide +kernel), ⟨3, rfl, mx_npd (by decide +kernel)⟩, ml_in_1757, ml_se_54⟩))⟩) <|
  mc_1 (mk_p (ms_iinc (n := (1)) (by decide +kernel) (by decide +kernel) (by decide)) rfl) <| mc_0
theorem mw_214_4 : ∀ e ∈ mt_214_4, mx_Ok mx_MT mq_214 e.1 e.2 := 
  mc_1 (mk_p (ms_goto (off := (-41)) (by decide +kernel) (by decide)) rfl) <|
  mc_1 (mk_p (ms_aload_n (k := 0) (by decide +kernel) rfl) rfl) <|
  mc_1 (mk_p (ms_iload_n (k := 1) (by decide +kernel) rfl) rfl) <|
  mc_1 (mk_p (ms_iload_n (k := 2) (by decide +kernel) rfl) rfl) <|
  mc_1 (mk_c (k := mq_213) rfl ⟨mo_213, 367, 1759, none, ml_m_LeagueOfficeModel_367, Or.inr (Or.inr (Or.inl ⟨12, TX12, 78, by decide, rfl, rfl, (by decide +kernel), ⟨2, rfl, mx_npd (by decide +kernel)⟩, ml_in_1761, ml_se_55⟩))⟩) <|
  mc_1 (mk_r (Or.inr (Or.inl ⟨rfl, by decide +kernel, rfl⟩)) rfl) <| mc_0
theorem mw_214 : ∀ ch ∈ mt_214, ∀ e ∈ ch, mx_Ok mx_MT mq_214 e.1 e.2 := mc_2 mw_214_0 <| mc_2 mw_214_1 <| mc_2 mw_214_2 <| mc_2 mw_214_3 <| mc_2 mw_214_4 <| mc_3
/- 215 LeagueOfficeModel.points(II)J -/
theorem mw_215_0 : ∀ e ∈ mt_215_0, mx_Ok mx_MT mq_215 e.1 e.2 := 
  mc_1 (mk_p (ms_aload_n (k := 0) (by decide +kernel) rfl) rfl) <|
  mc_1 (mk_p (ms_iload_n (k := 1) (by decide +kernel) rfl) rfl) <|
  mc_1 (mk_c (k := mq_166) rfl ⟨mo_166, 28, 1332, none, ml_m_LeagueOfficeModel_28, Or.inr (Or.inr (Or.inl ⟨12, TX12, 78, by decide, rfl, rfl, (by decide +kernel), ⟨1, rfl, mx_npd (by decide +kernel)⟩, ml_in_1334, ml_se_30⟩))⟩) <|
  mc_1 (mk_p (ms_if_eq (off := (24)) (by decide +kernel) (by decide)) rfl) <|
  mc_1 (mk_p (ms_iload_n (k := 2) (by decide +kernel) rfl) rfl) <|
  mc_1 (mk_p (ms_iconst (n := 0) (by decide +kernel) (by decide +kernel)) rfl) <|
  mc_1 (mk_p (ms_aload_n (k := 0) (by decide +kernel) rfl) rfl) <|
  mc_1 (mk_p (ms_get (idx := 11) (w := 1453) (host := none) mx_c12 (by decide) ml_f_LeagueOfficeModel_11 (by decide +kernel)) rfl) <|
  mc_1 (mk_c (k := mq_163) rfl ⟨mo_163, 7, 1318, none, ml_m_LeagueOfficeModel_7, Or.inl ⟨rfl, (by decide +kernel), mx_npd (by decide +kernel), ml_st_1319⟩⟩) <| mc_0
theorem mw_215_1 : ∀ e ∈ mt_215_1, mx_Ok mx_MT mq_215 e.1 e.2 := 
  mc_1 (mk_p (ms_if_eq (off := (12)) (by decide +kernel) (by decide)) rfl) <|
  mc_1 (mk_p (ms_aload_n (k := 0) (by decide +kernel) rfl) rfl) <|
  mc_1 (mk_p (ms_iload_n (k := 1) (by decide +kernel) rfl) rfl) <|
  mc_1 (mk_p (ms_iload_n (k := 2) (by decide +kernel) rfl) rfl) <|
  mc_1 (mk_c (k := mq_211) rfl ⟨mo_211, 371, 1716, none, ml_m_LeagueOfficeModel_371, Or.inr (Or.inr (Or.inl ⟨12, TX12, 78, by decide, rfl, rfl, (by decide +kernel), ⟨2, rfl, mx_npd (by decide +kernel)⟩, ml_in_1718, ml_se_47⟩))⟩) <|
  mc_1 (mk_p (ms_goto (off := (6)) (by decide +kernel) (by decide)) rfl) <|
  mc_1 (mk_p (ms_ldc2 (idx := 374) 1746 (by decide +kernel) (by decide +kernel)) rfl) <| mc_0
theorem mw_215_2 : ∀ e ∈ mt_215_2, mx_Ok mx_MT mq_215 e.1 e.2 := 
  mc_1 (mk_r (Or.inr (Or.inl ⟨rfl, by decide +kernel, rfl⟩)) rfl) <| mc_0
theorem mw_215 : ∀ ch ∈ mt_215, ∀ e ∈ ch, mx_Ok mx_MT mq_215 e.1 e.2 := mc_2 mw_215_0 <| mc_2 mw_215_1 <| mc_2 mw_215_2 <| mc_3
/- 216 LeagueOfficeModel.like(II)J -/
theorem mw_216_0 : ∀ e ∈ mt_216_0, mx_Ok mx_MT mq_216 e.1 e.2 := 
  mc_1 (mk_p (ms_aload_n (k := 0) (by decide +kernel) rfl) rfl) <|
  mc_1 (mk_p (ms_iload_n (k := 1) (by decide +kernel) rfl) rfl) <|
  mc_1 (mk_c (k := mq_166) rfl ⟨mo_166, 28, 1332, none, ml_m_LeagueOfficeModel_28, Or.inr (Or.inr (Or.inl ⟨12, TX12, 78, by decide, rfl, rfl, (by decide +kernel), ⟨1, rfl, mx_npd (by decide +kernel)⟩, ml_in_1334, ml_se_30⟩))⟩) <|
  mc_1 (mk_p (ms_if_eq (off := (24)) (by decide +kernel) (by decide)) rfl) <|
  mc_1 (mk_p (ms_iload_n (k := 2) (by decide +kernel) rfl) rfl) <|
  mc_1 (mk_p (ms_iconst (n := 0) (by decide +kernel) (by decide +kernel)) rfl) <|
  mc_1 (mk_p (ms_aload_n (k := 0) (by decide +kernel) rfl) rfl) <|
  mc_1 (mk_p (ms_get (idx := 11) (w := 1453) (host := none) mx_c12 (by decide) ml_f_LeagueOfficeModel_11 (by decide +kernel)) rfl) <|
  mc_1 (mk_c (k := mq_163) rfl ⟨mo_163, 7, 1318, none, ml_m_LeagueOfficeModel_7, Or.inl ⟨rfl, (by decide +kernel), mx_npd (by decide +kernel), ml_st_1319⟩⟩) <| mc_0
theorem mw_216_1 : ∀ e ∈ mt_216_1, mx_Ok mx_MT mq_216 e.1 e.2 := 
  mc_1 (mk_p (ms_if_eq (off := (12)) (by decide +kernel) (by decide)) rfl) <|
  mc_1 (mk_p (ms_aload_n (k := 0) (by decide +kernel) rfl) rfl) <|
  mc_1 (mk_p (ms_iload_n (k := 1) (by decide +kernel) rfl) rfl) <|
  mc_1 (mk_p (ms_iload_n (k := 2) (by decide +kernel) rfl) rfl) <|
  mc_1 (mk_c (k := mq_214) rfl ⟨mo_214, 376, 1751, none, ml_m_LeagueOfficeModel_376, Or.inr (Or.inr (Or.inl ⟨12, TX12, 78, by decide, rfl, rfl, (by decide +kernel), ⟨2, rfl, mx_npd (by decide +kernel)⟩, ml_in_1753, ml_se_53⟩))⟩) <|
  mc_1 (mk_p (ms_goto (off := (6)) (by decide +kernel) (by decide)) rfl) <|
  mc_1 (mk_p (ms_ldc2 (idx := 374) 1746 (by decide +kernel) (by decide +kernel)) rfl) <| mc_0
theorem mw_216_2 : ∀ e ∈ mt_216_2, mx_Ok mx_MT mq_216 e.1 e.2 := 
  mc_1 (mk_r (Or.inr (Or.inl ⟨rfl, by decide +kernel, rfl⟩)) rfl) <| mc_0
theorem mw_216 : ∀ ch ∈ mt_216, ∀ e ∈ ch, mx_Ok mx_MT mq_216 e.1 e.2 := mc_2 mw_216_0 <| mc_2 mw_216_1 <| mc_2 mw_216_2 <| mc_3
/- 217 LeagueOfficeModel.findAll(II)V -/
theorem mw_217_0 : ∀ e ∈ mt_217_0, mx_Ok mx_MT mq_217 e.1 e.2 := 
  mc_1 (mk_p (ms_iconst (n := 0) (by decide +kernel) (by decide +kernel)) rfl) <|
  mc_1 (mk_p (ms_istore_n (k := 3) (by decide +kernel) rfl (by decide)) rfl) <|
  mc_1 (mk_p (ms_iload_n (k := 3) (by decide +kernel) rfl) rfl) <|
  mc_1 (mk_p (ms_aload_n (k := 0) (by decide +kernel) rfl) rfl) <|
  mc_1 (mk_p (ms_get (idx := 14) (w := 1454) (host := none) mx_c12 (by decide) ml_f_LeagueOfficeModel_14 (by decide +kernel)) rfl) <|
  mc_1 (mk_p (ms_icmp_ge (off := (46)) (by decide +kernel) (by decide)) rfl) <|
  mc_1 (mk_p (ms_aload_n (k := 0) (by decide +kernel) rfl) rfl) <|
  mc_1 (mk_p (ms_get (idx := 21) (w := 1455) (host := none) mx_c12 (by decide) ml_f_LeagueOfficeModel_21 (by decide +kernel)) rfl) <|
  mc_1 (mk_p (ms_iload_n (k := 3) (by decide +kernel) rfl) rfl) <|
  mc_1 (mk_p (ms_ald (Or.inl ⟨rfl, by decide +kernel⟩)) rfl) <| mc_0
theorem mw_217_1 : ∀ e ∈ mt_217_1, mx_Ok mx_MT mq_217 e.1 e.2 := 
  mc_1 (mk_p (ms_iload_n (k := 1) (by decide +kernel) rfl) rfl) <|
  mc_1 (mk_p (ms_icmp_eq (off := (6)) (by decide +kernel) (by decide)) rfl) <|
  mc_1 (mk_p (ms_goto (off := (27)) (by decide +kernel) (by decide)) rfl) <|
  mc_1 (mk_p (ms_aload_n (k := 0) (by decide +kernel) rfl) rfl) <|
  mc_1 (mk_p (ms_get (idx := 133) (w := 1491) (host := none) mx_c12 (by decide) ml_f_LeagueOfficeModel_133 (by decide +kernel)) rfl) <|
  mc_1 (mk_p (ms_iload_n (k := 3) (by decide +kernel) rfl) rfl) <|
  mc_1 (mk_p (ms_aload_n (k := 0) (by decide +kernel) rfl) rfl) <|
  mc_1 (mk_p (ms_iload_n (k := 3) (by decide +kernel) rfl) rfl) <|
  mc_1 (mk_p (ms_iload_n (k := 2) (by decide +kernel) rfl) rfl) <|
  mc_1 (mk_c (k := mq_211) rfl ⟨mo_211, 371, 1716, none, ml_m_LeagueOfficeModel_371, Or.inr (Or.inr (Or.inl ⟨12, TX12, 78, by decide, rfl, rfl, (by decide +kernel), ⟨2, rfl, mx_npd (by decide +kernel)⟩, ml_in_1718, ml_se_47⟩))⟩) <| mc_0
theorem mw_217_2 : ∀ e ∈ mt_217_2, mx_Ok mx_MT mq_217 e.1 e.2 := 
  mc_1 (mk_p (ms_last (by decide +kernel)) rfl) <|
  mc_1 (mk_p (ms_aload_n (k := 0) (by decide +kernel) rfl) rfl) <|
  mc_1 (mk_p (ms_get (idx := 137) (w := 1492) (host := none) mx_c12 (by decide) ml_f_LeagueOfficeModel_137 (by decide +kernel)) rfl) <|
  mc_1 (mk_p (ms_iload_n (k := 3) (by decide +kernel) rfl) rfl) <|
  mc_1 (mk_p (ms_aload_n (k := 0) (by decide +kernel) rfl) rfl) <|
  mc_1 (mk_p (ms_iload_n (k := 3) (by decide +kernel) rfl) rfl) <|
  mc_1 (mk_p (ms_iload_n (k := 2) (by decide +kernel) rfl) rfl) <|
  mc_1 (mk_c (k := mq_214) rfl ⟨mo_214, 376, 1751, none, ml_m_LeagueOfficeModel_376, Or.inr (Or.inr (Or.inl ⟨12, TX12, 78, by decide, rfl, rfl, (by decide +kernel), ⟨2, rfl, mx_npd (by decide +kernel)⟩, ml_in_1753, ml_se_53⟩))⟩) <|
  mc_1 (mk_p (ms_last (by decide +kernel)) rfl) <|
  mc_1 (mk_p (ms_iinc (n := (1)) (by decide +kernel) (by decide +kernel) (by decide)) rfl) <| mc_0
theorem mw_217_3 : ∀ e ∈ mt_217_3, mx_Ok mx_MT mq_217 e.1 e.2 := 
  mc_1 (mk_p (ms_goto (off := (-48)) (by decide +kernel) (by decide)) rfl) <|
  mc_1 (mk_r (Or.inr (Or.inr (Or.inr ⟨rfl, by decide +kernel, rfl⟩))) rfl) <| mc_0
theorem mw_217 : ∀ ch ∈ mt_217, ∀ e ∈ ch, mx_Ok mx_MT mq_217 e.1 e.2 := mc_2 mw_217_0 <| mc_2 mw_217_1 <| mc_2 mw_217_2 <| mc_2 mw_217_3 <| mc_3
/- 218 LeagueOfficeModel.isAhead(II)Z -/
theorem mw_218_0 : ∀ e ∈ mt_218_0, mx_Ok mx_MT mq_218 e.1 e.2 := 
  mc_1 (mk_p (ms_aload_n (k := 0) (by decide +kernel) rfl) rfl) <|
  mc_1 (mk_p (ms_get (idx := 133) (w := 1491) (host := none) mx_c12 (by decide) ml_f_LeagueOfficeModel_133 (by decide +kernel)) rfl) <|
  mc_1 (mk_p (ms_iload_n (k := 1) (by decide +kernel) rfl) rfl) <|
  mc_1 (mk_p (ms_ald (Or.inr (Or.inr (Or.inr ⟨rfl, by decide +kernel⟩)))) rfl) <|
  mc_1 (mk_p (ms_aload_n (k := 0) (by decide +kernel) rfl) rfl) <|
  mc_1 (mk_p (ms_get (idx := 133) (w := 1491) (host := none) mx_c12 (by decide) ml_f_LeagueOfficeModel_133 (by decide +kernel)) rfl) <|
  mc_1 (mk_p (ms_iload_n (k := 2) (by decide +kernel) rfl) rfl) <|
  mc_1 (mk_p (ms_ald (Or.inr (Or.inr (Or.inr ⟨rfl, by decide +kernel⟩)))) rfl) <|
  mc_1 (mk_p (ms_lcmp (by decide +kernel)) rfl) <|
  mc_1 (mk_p (ms_if_eq (off := (25)) (by decide +kernel) (by decide)) rfl) <| mc_0
theorem mw_218_1 : ∀ e ∈ mt_218_1, mx_Ok mx_MT mq_218 e.1 e.2 := 
  mc_1 (mk_p (ms_aload_n (k := 0) (by decide +kernel) rfl) rfl) <|
  mc_1 (mk_p (ms_get (idx := 133) (w := 1491) (host := none) mx_c12 (by decide) ml_f_LeagueOfficeModel_133 (by decide +kernel)) rfl) <|
  mc_1 (mk_p (ms_iload_n (k := 1) (by decide +kernel) rfl) rfl) <|
  mc_1 (mk_p (ms_ald (Or.inr (Or.inr (Or.inr ⟨rfl, by decide +kernel⟩)))) rfl) <|
  mc_1 (mk_p (ms_aload_n (k := 0) (by decide +kernel) rfl) rfl) <|
  mc_1 (mk_p (ms_get (idx := 133) (w := 1491) (host := none) mx_c12 (by decide) ml_f_LeagueOfficeModel_133 (by decide +kernel)) rfl) <|
  mc_1 (mk_p (ms_iload_n (k := 2) (by decide +kernel) rfl) rfl) <|
  mc_1 (mk_p (ms_ald (Or.inr (Or.inr (Or.inr ⟨rfl, by decide +kernel⟩)))) rfl) <|
  mc_1 (mk_p (ms_lcmp (by decide +kernel)) rfl) <|
  mc_1 (mk_p (ms_if_le (off := (7)) (by decide +kernel) (by decide)) rfl) <| mc_0
theorem mw_218_2 : ∀ e ∈ mt_218_2, mx_Ok mx_MT mq_218 e.1 e.2 := 
  mc_1 (mk_p (ms_iconst (n := 1) (by decide +kernel) (by decide +kernel)) rfl) <|
  mc_1 (mk_p (ms_goto (off := (4)) (by decide +kernel) (by decide)) rfl) <|
  mc_1 (mk_p (ms_iconst (n := 0) (by decide +kernel) (by decide +kernel)) rfl) <|
  mc_1 (mk_r (Or.inl ⟨rfl, by decide +kernel, _, rfl, mf_2⟩) rfl) <|
  mc_1 (mk_p (ms_aload_n (k := 0) (by decide +kernel) rfl) rfl) <|
  mc_1 (mk_p (ms_get (idx := 137) (w := 1492) (host := none) mx_c12 (by decide) ml_f_LeagueOfficeModel_137 (by decide +kernel)) rfl) <|
  mc_1 (mk_p (ms_iload_n (k := 1) (by decide +kernel) rfl) rfl) <|
  mc_1 (mk_p (ms_ald (Or.inr (Or.inr (Or.inr ⟨rfl, by decide +kernel⟩)))) rfl) <|
  mc_1 (mk_p (ms_aload_n (k := 0) (by decide +kernel) rfl) rfl) <|
  mc_1 (mk_p (ms_get (idx := 137) (w := 1492) (host := none) mx_c12 (by decide) ml_f_LeagueOfficeModel_137 (by decide +kernel)) rfl) <| mc_0
theorem mw_218_3 : ∀ e ∈ mt_218_3, mx_Ok mx_MT mq_218 e.1 e.2 := 
  mc_1 (mk_p (ms_iload_n (k := 2) (by decide +kernel) rfl) rfl) <|
  mc_1 (mk_p (ms_ald (Or.inr (Or.inr (Or.inr ⟨rfl, by decide +kernel⟩)))) rfl) <|
  mc_1 (mk_p (ms_lcmp (by decide +kernel)) rfl) <|
  mc_1 (mk_p (ms_if_eq (off := (27)) (by decide +kernel) (by decide)) rfl) <|
  mc_1 (mk_p (ms_aload_n (k := 0) (by decide +kernel) rfl) rfl) <|
  mc_1 (mk_p (ms_get (idx := 137) (w := 1492) (host := none) mx_c12 (by decide) ml_f_LeagueOfficeModel_137 (by decide +kernel)) rfl) <|
  mc_1 (mk_p (ms_iload_n (k := 1) (by decide +kernel) rfl) rfl) <|
  mc_1 (mk_p (ms_ald (Or.inr (Or.inr (Or.inr ⟨rfl, by decide +kernel⟩)))) rfl) <|
  mc_1 (mk_p (ms_aload_n (k := 0) (by decide +kernel) rfl) rfl) <|
  mc_1 (mk_p (ms_get (idx := 137) (w := 1492) (host := none) mx_c12 (by decide) ml_f_LeagueOfficeModel_137 (by decide +kernel)) rfl) <| mc_0
theorem mw_218_4 : ∀ e ∈ mt_218_4, mx_Ok mx_MT mq_218 e.1 e.2 := 
  mc_1 (mk_p (ms_iload_n (k := 2) (by decide +kernel) rfl) rfl) <|
  mc_1 (mk_p (ms_ald (Or.inr (Or.inr (Or.inr ⟨rfl, by decide +kernel⟩)))) rfl) <|
  mc_1 (mk_p (ms_lcmp (by decide +kernel)) rfl) <|
  mc_1 (mk_p (ms_if_le (off := (7)) (by decide +kernel) (by decide)) rfl) <|
  mc_1 (mk_p (ms_iconst (n := 1) (by decide +kernel) (by decide +kernel)) rfl) <|
  mc_1 (mk_p (ms_goto (off := (17)) (by decide +kernel) (by decide)) rfl) <|
  mc_1 (mk_p (ms_iconst (n := 0) (by decide +kernel) (by decide +kernel)) rfl) <|
  mc_1 (mk_p (ms_goto (off := (13)) (by decide +kernel) (by decide)) rfl) <|
  mc_1 (mk_p (ms_iload_n (k := 1) (by decide +kernel) rfl) rfl) <|
  mc_1 (mk_p (ms_iload_n (k := 2) (by decide +kernel) rfl) rfl) <| mc_0
theorem mw_218_5 : ∀ e ∈ mt_218_5, mx_Ok mx_MT mq_218 e.1 e.2 := 
  mc_1 (mk_p (ms_icmp_ge (off := (7)) (by decide +kernel) (by decide)) rfl) <|
  mc_1 (mk_p (ms_iconst (n := 1) (by decide +kernel) (by decide +kernel)) rfl) <|
  mc_1 (mk_p (ms_goto (off := (4)) (by decide +kernel) (by decide)) rfl) <|
  mc_1 (mk_p (ms_iconst (n := 0) (by decide +kernel) (by decide +kernel)) rfl) <|
  mc_1 (mk_r (Or.inl ⟨rfl, by decide +kernel, _, rfl, mf_2⟩) rfl) <| mc_0
theorem mw_218 : ∀ ch ∈ mt_218, ∀ e ∈ ch, mx_Ok mx_MT mq_218 e.1 e.2 := mc_2 mw_218_0 <| mc_2 mw_218_1 <| mc_2 mw_218_2 <| mc_2 mw_218_3 <| mc_2 mw_218_4 <| mc_2 mw_218_5 <| mc_3
/- 219 LeagueOfficeModel.placeNow(I)I -/
theorem mw_219_0 : ∀ e ∈ mt_219_0, mx_Ok mx_MT mq_219 e.1 e.2 := 
  mc_1 (mk_p (ms_iconst (n := 0) (by decide +kernel) (by decide +kernel)) rfl) <|
  mc_1 (mk_p (ms_istore_n (k := 2) (by decide +kernel) rfl (by decide)) rfl) <|
  mc_1 (mk_p (ms_iconst (n := 0) (by decide +kernel) (by decide +kernel)) rfl) <|
  mc_1 (mk_p (ms_istore_n (k := 3) (by decide +kernel) rfl (by decide)) rfl) <|
  mc_1 (mk_p (ms_iload_n (k := 3) (by decide +kernel) rfl) rfl) <|
  mc_1 (mk_p (ms_aload_n (k := 0) (by decide +kernel) rfl) rfl) <|
  mc_1 (mk_p (ms_get (idx := 14) (w := 1454) (host := none) mx_c12 (by decide) ml_f_LeagueOfficeModel_14 (by decide +kernel)) rfl) <|
  mc_1 (mk_p (ms_icmp_ge (off := (46)) (by decide +kernel) (by decide)) rfl) <|
  mc_1 (mk_p (ms_iload_n (k := 2) (by decide +kernel) rfl) rfl) <|
  mc_1 (mk_p (ms_iload_n (k := 3) (by decide +kernel) rfl) rfl) <|
  mc_1 (mk_p (ms_iload_n (k := 1) (by decide +kernel) rfl) rfl) <|
  mc_1 (mk_p (ms_icmp_eq (off := (31)) (by decide +kernel) (by decide)) rfl) <| mc_0
theorem mw_219_1 : ∀ e ∈ mt_219_1, mx_Ok mx_MT mq_219 e.1 e.2 := 
  mc_1 (mk_p (ms_aload_n (k := 0) (by decide +kernel) rfl) rfl) <|
  mc_1 (mk_p (ms_get (idx := 21) (w := 1455) (host := none) mx_c12 (by decide) ml_f_LeagueOfficeModel_21 (by decide +kernel)) rfl) <|
  mc_1 (mk_p (ms_iload_n (k := 3) (by decide +kernel) rfl) rfl) <|
  mc_1 (mk_p (ms_ald (Or.inl ⟨rfl, by decide +kernel⟩)) rfl) <|
  mc_1 (mk_p (ms_aload_n (k := 0) (by decide +kernel) rfl) rfl) <|
  mc_1 (mk_p (ms_get (idx := 21) (w := 1455) (host := none) mx_c12 (by decide) ml_f_LeagueOfficeModel_21 (by decide +kernel)) rfl) <|
  mc_1 (mk_p (ms_iload_n (k := 1) (by decide +kernel) rfl) rfl) <|
  mc_1 (mk_p (ms_ald (Or.inl ⟨rfl, by decide +kernel⟩)) rfl) <|
  mc_1 (mk_p (ms_icmp_ne (off := (16)) (by decide +kernel) (by decide)) rfl) <| mc_0
theorem mw_219_2 : ∀ e ∈ mt_219_2, mx_Ok mx_MT mq_219 e.1 e.2 := 
  mc_1 (mk_p (ms_aload_n (k := 0) (by decide +kernel) rfl) rfl) <|
  mc_1 (mk_p (ms_iload_n (k := 3) (by decide +kernel) rfl) rfl) <|
  mc_1 (mk_p (ms_iload_n (k := 1) (by decide +kernel) rfl) rfl) <|
  mc_1 (mk_c (k := mq_218) rfl ⟨mo_218, 379, 1775, none, ml_m_LeagueOfficeModel_379, Or.inr (Or.inr (Or.inl ⟨12, TX12, 78, by decide, rfl, rfl, (by decide +kernel), ⟨2, rfl, mx_npd (by decide +kernel)⟩, ml_in_1777, ml_se_58⟩))⟩) <|
  mc_1 (mk_p (ms_if_eq (off := (7)) (by decide +kernel) (by decide)) rfl) <|
  mc_1 (mk_p (ms_iconst (n := 1) (by decide +kernel) (by decide +kernel)) rfl) <|
  mc_1 (mk_p (ms_goto (off := (4)) (by decide +kernel) (by decide)) rfl) <|
  mc_1 (mk_p (ms_iconst (n := 0) (by decide +kernel) (by decide +kernel)) rfl) <|
  mc_1 (mk_p (ms_iadd (by decide +kernel)) rfl) <| mc_0
theorem mw_219_3 : ∀ e ∈ mt_219_3, mx_Ok mx_MT mq_219 e.1 e.2 := 
  mc_1 (mk_p (ms_istore_n (k := 2) (by decide +kernel) rfl (by decide)) rfl) <|
  mc_1 (mk_p (ms_iinc (n := (1)) (by decide +kernel) (by decide +kernel) (by decide)) rfl) <|
  mc_1 (mk_p (ms_goto (off := (-48)) (by decide +kernel) (by decide)) rfl) <|
  mc_1 (mk_p (ms_iload_n (k := 2) (by decide +kernel) rfl) rfl) <|
  mc_1 (mk_r (Or.inl ⟨rfl, by decide +kernel, _, rfl, mf_0⟩) rfl) <| mc_0
theorem mw_219 : ∀ ch ∈ mt_219, ∀ e ∈ ch, mx_Ok mx_MT mq_219 e.1 e.2 := mc_2 mw_219_0 <| mc_2 mw_219_1 <| mc_2 mw_219_2 <| mc_2 mw_219_3 <| mc_3
/- 220 LeagueOfficeModel.table(III)I -/
theorem mw_220_0 : ∀ e ∈ mt_220_0, mx_Ok mx_MT mq_220 e.1 e.2 := 
  mc_1 (mk_p (ms_iload_n (k := 1) (by decide +kernel) rfl) rfl) <|
  mc_1 (mk_c (k := mq_167) rfl ⟨mo_167, 17, 1325, none, ml_m_LeagueOfficeModel_17, Or.inl ⟨rfl, (by decide +kernel), mx_npd (by decide +kernel), ml_st_1326⟩⟩) <|
  mc_1 (mk_p (ms_if_eq (off := (15)) (by decide +kernel) (by decide)) rfl) <|
  mc_1 (mk_p (ms_iload_n (k := 2) (by decide +kernel) rfl) rfl) <|
  mc_1 (mk_p (ms_iconst (n := 0) (by decide +kernel) (by decide +kernel)) rfl) <|
  mc_1 (mk_p (ms_aload_n (k := 0) (by decide +kernel) rfl) rfl) <|
  mc_1 (mk_p (ms_get (idx := 11) (w := 1453) (host := none) mx_c12 (by decide) ml_f_LeagueOfficeModel_11 (by decide +kernel)) rfl) <|
  mc_1 (mk_c (k := mq_163) rfl ⟨mo_163, 7, 1318, none, ml_m_LeagueOfficeModel_7, Or.inl ⟨rfl, (by decide +kernel), mx_npd (by decide +kernel), ml_st_1319⟩⟩) <| mc_0
theorem mw_220_1 : ∀ e ∈ mt_220_1, mx_Ok mx_MT mq_220 e.1 e.2 := 
  mc_1 (mk_p (ms_if_ne (off := (6)) (by decide +kernel) (by decide)) rfl) <|
  mc_1 (mk_p (ms_bipush (n := (-2)) (by decide +kernel) (by decide +kernel)) rfl) <|
  mc_1 (mk_r (Or.inl ⟨rfl, by decide +kernel, _, rfl, mf_0⟩) rfl) <|
  mc_1 (mk_p (ms_aload_n (k := 0) (by decide +kernel) rfl) rfl) <|
  mc_1 (mk_p (ms_iload_n (k := 1) (by decide +kernel) rfl) rfl) <|
  mc_1 (mk_p (ms_iload_n (k := 2) (by decide +kernel) rfl) rfl) <|
  mc_1 (mk_c (k := mq_217) rfl ⟨mo_217, 382, 1767, none, ml_m_LeagueOfficeModel_382, Or.inr (Or.inr (Or.inl ⟨12, TX12, 78, by decide, rfl, rfl, (by decide +kernel), ⟨2, rfl, mx_npd (by decide +kernel)⟩, ml_in_1769, ml_se_56⟩))⟩) <|
  mc_1 (mk_p (ms_iconst (n := 0) (by decide +kernel) (by decide +kernel)) rfl) <|
  mc_1 (mk_p (ms_istore (by decide +kernel) (by decide)) rfl) <|
  mc_1 (mk_p (ms_iload (by decide +kernel)) rfl) <| mc_0
theorem mw_220_2 : ∀ e ∈ mt_220_2, mx_Ok mx_MT mq_220 e.1 e.2 := 
  mc_1 (mk_p (ms_aload_n (k := 0) (by decide +kernel) rfl) rfl) <|
  mc_1 (mk_p (ms_get (idx := 14) (w := 1454) (host := none) mx_c12 (by decide) ml_f_LeagueOfficeModel_14 (by decide +kernel)) rfl) <|
  mc_1 (mk_p (ms_icmp_ge (off := (33)) (by decide +kernel) (by decide)) rfl) <|
  mc_1 (mk_p (ms_aload_n (k := 0) (by decide +kernel) rfl) rfl) <|
  mc_1 (mk_p (ms_get (idx := 21) (w := 1455) (host := none) mx_c12 (by decide) ml_f_LeagueOfficeModel_21 (by decide +kernel)) rfl) <|
  mc_1 (mk_p (ms_iload (by decide +kernel)) rfl) <|
  mc_1 (mk_p (ms_ald (Or.inl ⟨rfl, by decide +kernel⟩)) rfl) <|
  mc_1 (mk_p (ms_iload_n (k := 1) (by decide +kernel) rfl) rfl) <| mc_0
theorem mw_220_3 : ∀ e ∈ mt_220_3, mx_Ok mx_MT mq_220 e.1 e.2 := 
  mc_1 (mk_p (ms_icmp_ne (off := (16)) (by decide +kernel) (by decide)) rfl) <|
  mc_1 (mk_p (ms_aload_n (k := 0) (by decide +kernel) rfl) rfl) <|
  mc_1 (mk_p (ms_iload (by decide +kernel)) rfl) <|
  mc_1 (mk_c (k := mq_219) rfl ⟨mo_219, 385, 1771, none, ml_m_LeagueOfficeModel_385, Or.inr (Or.inr (Or.inl ⟨12, TX12, 78, by decide, rfl, rfl, (by decide +kernel), ⟨1, rfl, mx_npd (by decide +kernel)⟩, ml_in_1773, ml_se_57⟩))⟩) <|
  mc_1 (mk_p (ms_iload_n (k := 3) (by decide +kernel) rfl) rfl) <|
  mc_1 (mk_p (ms_icmp_ne (off := (6)) (by decide +kernel) (by decide)) rfl) <|
  mc_1 (mk_p (ms_iload (by decide +kernel)) rfl) <|
  mc_1 (mk_r (Or.inl ⟨rfl, by decide +kernel, _, rfl, mf_0⟩) rfl) <| mc_0
theorem mw_220_4 : ∀ e ∈ mt_220_4, mx_Ok mx_MT mq_220 e.1 e.2 := 
  mc_1 (mk_p (ms_iinc (n := (1)) (by decide +kernel) (by decide +kernel) (by decide)) rfl) <|
  mc_1 (mk_p (ms_goto (off := (-36)) (by decide +kernel) (by decide)) rfl) <|
  mc_1 (mk_p (ms_iconst (n := (-1)) (by decide +kernel) (by decide +kernel)) rfl) <|
  mc_1 (mk_r (Or.inl ⟨rfl, by decide +kernel, _, rfl, mf_0⟩) rfl) <| mc_0
theorem mw_220 : ∀ ch ∈ mt_220, ∀ e ∈ ch, mx_Ok mx_MT mq_220 e.1 e.2 := mc_2 mw_220_0 <| mc_2 mw_220_1 <| mc_2 mw_220_2 <| mc_2 mw_220_3 <| mc_2 mw_220_4 <| mc_3
/- 221 LeagueOfficeModel.place(II)I -/
theorem mw_221_0 : ∀ e ∈ mt_221_0, mx_Ok mx_MT mq_221 e.1 e.2 := 
  mc_1 (mk_p (ms_aload_n (k := 0) (by decide +kernel) rfl) rfl) <|
  mc_1 (mk_p (ms_iload_n (k := 1) (by decide +kernel) rfl) rfl) <|
  mc_1 (mk_c (k := mq_166) rfl ⟨mo_166, 28, 1332, none, ml_m_LeagueOfficeModel_28, Or.inr (Or.inr (Or.inl ⟨12, TX12, 78, by decide, rfl, rfl, (by decide +kernel), ⟨1, rfl, mx_npd (by decide +kernel)⟩, ml_in_1334, ml_se_30⟩))⟩) <|
  mc_1 (mk_p (ms_if_eq (off := (15)) (by decide +kernel) (by decide)) rfl) <|
  mc_1 (mk_p (ms_iload_n (k := 2) (by decide +kernel) rfl) rfl) <|
  mc_1 (mk_p (ms_iconst (n := 0) (by decide +kernel) (by decide +kernel)) rfl) <|
  mc_1 (mk_p (ms_aload_n (k := 0) (by decide +kernel) rfl) rfl) <|
  mc_1 (mk_p (ms_get (idx := 11) (w := 1453) (host := none) mx_c12 (by decide) ml_f_LeagueOfficeModel_11 (by decide +kernel)) rfl) <|
  mc_1 (mk_c (k := mq_163) rfl ⟨mo_163, 7, 1318, none, ml_m_LeagueOfficeModel_7, Or.inl ⟨rfl, (by decide +kernel), mx_npd (by decide +kernel), ml_st_1319⟩⟩) <| mc_0
theorem mw_221_1 : ∀ e ∈ mt_221_1, mx_Ok mx_MT mq_221 e.1 e.2 := 
  mc_1 (mk_p (ms_if_ne (off := (6)) (by decide +kernel) (by decide)) rfl) <|
  mc_1 (mk_p (ms_bipush (n := (-2)) (by decide +kernel) (by decide +kernel)) rfl) <|
  mc_1 (mk_r (Or.inl ⟨rfl, by decide +kernel, _, rfl, mf_0⟩) rfl) <|
  mc_1 (mk_p (ms_aload_n (k := 0) (by decide +kernel) rfl) rfl) <|
  mc_1 (mk_p (ms_aload_n (k := 0) (by decide +kernel) rfl) rfl) <|
  mc_1 (mk_p (ms_get (idx := 21) (w := 1455) (host := none) mx_c12 (by decide) ml_f_LeagueOfficeModel_21 (by decide +kernel)) rfl) <|
  mc_1 (mk_p (ms_iload_n (k := 1) (by decide +kernel) rfl) rfl) <|
  mc_1 (mk_p (ms_ald (Or.inl ⟨rfl, by decide +kernel⟩)) rfl) <|
  mc_1 (mk_p (ms_iload_n (k := 2) (by decide +kernel) rfl) rfl) <|
  mc_1 (mk_c (k := mq_217) rfl ⟨mo_217, 382, 1767, none, ml_m_LeagueOfficeModel_382, Or.inr (Or.inr (Or.inl ⟨12, TX12, 78, by decide, rfl, rfl, (by decide +kernel), ⟨2, rfl, mx_npd (by decide +kernel)⟩, ml_in_1769, ml_se_56⟩))⟩) <| mc_0
theorem mw_221_2 : ∀ e ∈ mt_221_2, mx_Ok mx_MT mq_221 e.1 e.2 := 
  mc_1 (mk_p (ms_aload_n (k := 0) (by decide +kernel) rfl) rfl) <|
  mc_1 (mk_p (ms_iload_n (k := 1) (by decide +kernel) rfl) rfl) <|
  mc_1 (mk_c (k := mq_219) rfl ⟨mo_219, 385, 1771, none, ml_m_LeagueOfficeModel_385, Or.inr (Or.inr (Or.inl ⟨12, TX12, 78, by decide, rfl, rfl, (by decide +kernel), ⟨1, rfl, mx_npd (by decide +kernel)⟩, ml_in_1773, ml_se_57⟩))⟩) <|
  mc_1 (mk_r (Or.inl ⟨rfl, by decide +kernel, _, rfl, mf_0⟩) rfl) <| mc_0
theorem mw_221 : ∀ ch ∈ mt_221, ∀ e ∈ ch, mx_Ok mx_MT mq_221 e.1 e.2 := mc_2 mw_221_0 <| mc_2 mw_221_1 <| mc_2 mw_221_2 <| mc_3
/- 222 LeagueOfficeModel.isPlayer(I)Z -/
theorem mw_222_0 : ∀ e ∈ mt_222_0, mx_Ok mx_MT mq_222 e.1 e.2 := 
  mc_1 (mk_p (ms_iload_n (k := 1) (by decide +kernel) rfl) rfl) <|
  mc_1 (mk_p (ms_iconst (n := 0) (by decide +kernel) (by decide +kernel)) rfl) <|
  mc_1 (mk_p (ms_aload_n (k := 0) (by decide +kernel) rfl) rfl) <|
  mc_1 (mk_p (ms_get (idx := 388) (w := 1493) (host := none) mx_c12 (by decide) ml_f_LeagueOfficeModel_388 (by decide +kernel)) rfl) <|
  mc_1 (mk_p (ms_iconst (n := 1) (by decide +kernel) (by decide +kernel)) rfl) <|
  mc_1 (mk_p (ms_isub (by decide +kernel)) rfl) <|
  mc_1 (mk_c (k := mq_163) rfl ⟨mo_163, 7, 1318, none, ml_m_LeagueOfficeModel_7, Or.inl ⟨rfl, (by decide +kernel), mx_npd (by decide +kernel), ml_st_1319⟩⟩) <|
  mc_1 (mk_r (Or.inl ⟨rfl, by decide +kernel, _, rfl, mf_2⟩) rfl) <| mc_0
theorem mw_222 : ∀ ch ∈ mt_222, ∀ e ∈ ch, mx_Ok mx_MT mq_222 e.1 e.2 := mc_2 mw_222_0 <| mc_3
/- 223 LeagueOfficeModel.player()I -/
theorem mw_223_0 : ∀ e ∈ mt_223_0, mx_Ok mx_MT mq_223 e.1 e.2 := 
  mc_1 (mk_p (ms_aload_n (k := 0) (by decide +kernel) rfl) rfl) <|
  mc_1 (mk_p (ms_get (idx := 388) (w := 1493) (host := none) mx_c12 (by decide) ml_f_LeagueOfficeModel_388 (by decide +kernel)) rfl) <|
  mc_1 (mk_p (ms_bipush (n := 20) (by decide +kernel) (by decide +kernel)) rfl) <|
  mc_1 (mk_p (ms_icmp_ne (off := (6)) (by decide +kernel) (by decide)) rfl) <|
  mc_1 (mk_p (ms_bipush (n := (-4)) (by decide +kernel) (by decide +kernel)) rfl) <|
  mc_1 (mk_r (Or.inl ⟨rfl, by decide +kernel, _, rfl, mf_0⟩) rfl) <|
  mc_1 (mk_p (ms_aload_n (k := 0) (by decide +kernel) rfl) rfl) <|
  mc_1 (mk_p (ms_dup (by decide +kernel)) rfl) <|
  mc_1 (mk_p (ms_get (idx := 388) (w := 1493) (host := none) mx_c12 (by decide) ml_f_LeagueOfficeModel_388 (by decide +kernel)) rfl) <| mc_0
theorem mw_223_1 : ∀ e ∈ mt_223_1, mx_Ok mx_MT mq_223 e.1 e.2 := 
  mc_1 (mk_p (ms_iconst (n := 1) (by decide +kernel) (by decide +kernel)) rfl) <|
  mc_1 (mk_p (ms_iadd (by decide +kernel)) rfl) <|
  mc_1 (mk_p (ms_put (idx := 388) (w := 1493) (host := none) mx_c12 (by decide) ml_f_LeagueOfficeModel_388 rfl rfl (by decide +kernel)) rfl) <|
  mc_1 (mk_p (ms_aload_n (k := 0) (by decide +kernel) rfl) rfl) <|
  mc_1 (mk_p (ms_get (idx := 388) (w := 1493) (host := none) mx_c12 (by decide) ml_f_LeagueOfficeModel_388 (by decide +kernel)) rfl) <|
  mc_1 (mk_p (ms_iconst (n := 1) (by decide +kernel) (by decide +kernel)) rfl) <|
  mc_1 (mk_p (ms_isub (by decide +kernel)) rfl) <|
  mc_1 (mk_r (Or.inl ⟨rfl, by decide +kernel, _, rfl, mf_0⟩) rfl) <| mc_0
theorem mw_223 : ∀ ch ∈ mt_223, ∀ e ∈ ch, mx_Ok mx_MT mq_223 e.1 e.2 := mc_2 mw_223_0 <| mc_2 mw_223_1 <| mc_3
/- 224 LeagueOfficeModel.register(III)I -/
theorem mw_224_0 : ∀ e ∈ mt_224_0, mx_Ok mx_MT mq_224 e.1 e.2 := 
  mc_1 (mk_p (ms_aload_n (k := 0) (by decide +kernel) rfl) rfl) <|
  mc_1 (mk_p (ms_iload_n (k := 1) (by decide +kernel) rfl) rfl) <|
  mc_1 (mk_c (k := mq_222) rfl ⟨mo_222, 391, 1791, none, ml_m_LeagueOfficeModel_391, Or.inr (Or.inr (Or.inl ⟨12, TX12, 78, by decide, rfl, rfl, (by decide +kernel), ⟨1, rfl, mx_npd (by decide +kernel)⟩, ml_in_1793, ml_se_59⟩))⟩) <|
  mc_1 (mk_p (ms_if_eq (off := (18)) (by decide +kernel) (by decide)) rfl) <|
  mc_1 (mk_p (ms_aload_n (k := 0) (by decide +kernel) rfl) rfl) <|
  mc_1 (mk_p (ms_iload_n (k := 2) (by decide +kernel) rfl) rfl) <|
  mc_1 (mk_c (k := mq_166) rfl ⟨mo_166, 28, 1332, none, ml_m_LeagueOfficeModel_28, Or.inr (Or.inr (Or.inl ⟨12, TX12, 78, by decide, rfl, rfl, (by decide +kernel), ⟨1, rfl, mx_npd (by decide +kernel)⟩, ml_in_1334, ml_se_30⟩))⟩) <|
  mc_1 (mk_p (ms_if_eq (off := (10)) (by decide +kernel) (by decide)) rfl) <| mc_0
theorem mw_224_1 : ∀ e ∈ mt_224_1, mx_Ok mx_MT mq_224 e.1 e.2 := 
  mc_1 (mk_p (ms_iload_n (k := 3) (by decide +kernel) rfl) rfl) <|
  mc_1 (mk_c (k := mq_164) rfl ⟨mo_164, 34, 1341, none, ml_m_LeagueOfficeModel_34, Or.inl ⟨rfl, (by decide +kernel), mx_npd (by decide +kernel), ml_st_1342⟩⟩) <|
  mc_1 (mk_p (ms_if_ne (off := (6)) (by decide +kernel) (by decide)) rfl) <|
  mc_1 (mk_p (ms_bipush (n := (-2)) (by decide +kernel) (by decide +kernel)) rfl) <|
  mc_1 (mk_r (Or.inl ⟨rfl, by decide +kernel, _, rfl, mf_0⟩) rfl) <|
  mc_1 (mk_p (ms_aload_n (k := 0) (by decide +kernel) rfl) rfl) <|
  mc_1 (mk_p (ms_get (idx := 394) (w := 1494) (host := none) mx_c12 (by decide) ml_f_LeagueOfficeModel_394 (by decide +kernel)) rfl) <|
  mc_1 (mk_p (ms_bipush (n := 40) (by decide +kernel) (by decide +kernel)) rfl) <| mc_0
theorem mw_224_2 : ∀ e ∈ mt_224_2, mx_Ok mx_MT mq_224 e.1 e.2 := 
  mc_1 (mk_p (ms_icmp_ne (off := (6)) (by decide +kernel) (by decide)) rfl) <|
  mc_1 (mk_p (ms_bipush (n := (-4)) (by decide +kernel) (by decide +kernel)) rfl) <|
  mc_1 (mk_r (Or.inl ⟨rfl, by decide +kernel, _, rfl, mf_0⟩) rfl) <|
  mc_1 (mk_p (ms_aload_n (k := 0) (by decide +kernel) rfl) rfl) <|
  mc_1 (mk_p (ms_get (idx := 140) (w := 1495) (host := none) mx_c12 (by decide) ml_f_LeagueOfficeModel_140 (by decide +kernel)) rfl) <|
  mc_1 (mk_p (ms_aload_n (k := 0) (by decide +kernel) rfl) rfl) <|
  mc_1 (mk_p (ms_get (idx := 394) (w := 1494) (host := none) mx_c12 (by decide) ml_f_LeagueOfficeModel_394 (by decide +kernel)) rfl) <|
  mc_1 (mk_p (ms_iload_n (k := 1) (by decide +kernel) rfl) rfl) <|
  mc_1 (mk_p (ms_ast (Or.inl ⟨rfl, by decide +kernel⟩)) rfl) <| mc_0
theorem mw_224_3 : ∀ e ∈ mt_224_3, mx_Ok mx_MT mq_224 e.1 e.2 := 
  mc_1 (mk_p (ms_aload_n (k := 0) (by decide +kernel) rfl) rfl) <|
  mc_1 (mk_p (ms_get (idx := 143) (w := 1496) (host := none) mx_c12 (by decide) ml_f_LeagueOfficeModel_143 (by decide +kernel)) rfl) <|
  mc_1 (mk_p (ms_aload_n (k := 0) (by decide +kernel) rfl) rfl) <|
  mc_1 (mk_p (ms_get (idx := 394) (w := 1494) (host := none) mx_c12 (by decide) ml_f_LeagueOfficeModel_394 (by decide +kernel)) rfl) <|
  mc_1 (mk_p (ms_iload_n (k := 2) (by decide +kernel) rfl) rfl) <|
  mc_1 (mk_p (ms_ast (Or.inl ⟨rfl, by decide +kernel⟩)) rfl) <|
  mc_1 (mk_p (ms_aload_n (k := 0) (by decide +kernel) rfl) rfl) <|
  mc_1 (mk_p (ms_get (idx := 146) (w := 1497) (host := none) mx_c12 (by decide) ml_f_LeagueOfficeModel_146 (by decide +kernel)) rfl) <|
  mc_1 (mk_p (ms_aload_n (k := 0) (by decide +kernel) rfl) rfl) <|
  mc_1 (mk_p (ms_get (idx := 394) (w := 1494) (host := none) mx_c12 (by decide) ml_f_LeagueOfficeModel_394 (by decide +kernel)) rfl) <| mc_0
theorem mw_224_4 : ∀ e ∈ mt_224_4, mx_Ok mx_MT mq_224 e.1 e.2 := 
  mc_1 (mk_p (ms_iload_n (k := 3) (by decide +kernel) rfl) rfl) <|
  mc_1 (mk_p (ms_ast (Or.inl ⟨rfl, by decide +kernel⟩)) rfl) <|
  mc_1 (mk_p (ms_aload_n (k := 0) (by decide +kernel) rfl) rfl) <|
  mc_1 (mk_p (ms_dup (by decide +kernel)) rfl) <|
  mc_1 (mk_p (ms_get (idx := 394) (w := 1494) (host := none) mx_c12 (by decide) ml_f_LeagueOfficeModel_394 (by decide +kernel)) rfl) <|
  mc_1 (mk_p (ms_iconst (n := 1) (by decide +kernel) (by decide +kernel)) rfl) <|
  mc_1 (mk_p (ms_iadd (by decide +kernel)) rfl) <|
  mc_1 (mk_p (ms_put (idx := 394) (w := 1494) (host := none) mx_c12 (by decide) ml_f_LeagueOfficeModel_394 rfl rfl (by decide +kernel)) rfl) <|
  mc_1 (mk_p (ms_aload_n (k := 0) (by decide +kernel) rfl) rfl) <|
  mc_1 (mk_p (ms_get (idx := 394) (w := 1494) (host := none) mx_c12 (by decide) ml_f_LeagueOfficeModel_394 (by decide +kernel)) rfl) <| mc_0
theorem mw_224_5 : ∀ e ∈ mt_224_5, mx_Ok mx_MT mq_224 e.1 e.2 := 
  mc_1 (mk_r (Or.inl ⟨rfl, by decide +kernel, _, rfl, mf_0⟩) rfl) <| mc_0
theorem mw_224 : ∀ ch ∈ mt_224, ∀ e ∈ ch, mx_Ok mx_MT mq_224 e.1 e.2 := mc_2 mw_224_0 <| mc_2 mw_224_1 <| mc_2 mw_224_2 <| mc_2 mw_224_3 <| mc_2 mw_224_4 <| mc_2 mw_224_5 <| mc_3
/- 225 LeagueOfficeModel.clubFor(II)I -/
theorem mw_225_0 : ∀ e ∈ mt_225_0, mx_Ok mx_MT mq_225 e.1 e.2 := 
  mc_1 (mk_p (ms_iconst (n := (-1)) (by decide +kernel) (by decide +kernel)) rfl) <|
  mc_1 (mk_p (ms_istore_n (k := 3) (by decide +kernel) rfl (by decide)) rfl) <|
  mc_1 (mk_p (ms_iconst (n := 0) (by decide +kernel) (by decide +kernel)) rfl) <|
  mc_1 (mk_p (ms_istore (by decide +kernel) (by decide)) rfl) <|
  mc_1 (mk_p (ms_iload (by decide +kernel)) rfl) <|
  mc_1 (mk_p (ms_aload_n (k := 0) (by decide +kernel) rfl) rfl) <|
  mc_1 (mk_p (ms_get (idx := 394) (w := 1494) (host := none) mx_c12 (by decide) ml_f_LeagueOfficeModel_394 (by decide +kernel)) rfl) <|
  mc_1 (mk_p (ms_icmp_ge (off := (54)) (by decide +kernel) (by decide)) rfl) <|
  mc_1 (mk_p (ms_aload_n (k := 0) (by decide +kernel) rfl) rfl) <|
  mc_1 (mk_p (ms_get (idx := 140) (w := 1495) (host := none) mx_c12 (by decide) ml_f_LeagueOfficeModel_140 (by decide +kernel)) rfl) <| mc_0
theorem mw_225_1 : ∀ e ∈ mt_225_1, mx_Ok mx_MT mq_225 e.1 e.2 := 
  mc_1 (mk_p (ms_iload (by decide +kernel)) rfl) <|
  mc_1 (mk_p (ms_ald (Or.inl ⟨rfl, by decide +kernel⟩)) rfl) <|
  mc_1 (mk_p (ms_iload_n (k := 1) (by decide +kernel) rfl) rfl) <|
  mc_1 (mk_p (ms_icmp_ne (off := (37)) (by decide +kernel) (by decide)) rfl) <|
  mc_1 (mk_p (ms_aload_n (k := 0) (by decide +kernel) rfl) rfl) <|
  mc_1 (mk_p (ms_get (idx := 146) (w := 1497) (host := none) mx_c12 (by decide) ml_f_LeagueOfficeModel_146 (by decide +kernel)) rfl) <|
  mc_1 (mk_p (ms_iload (by decide +kernel)) rfl) <|
  mc_1 (mk_p (ms_ald (Or.inl ⟨rfl, by decide +kernel⟩)) rfl) <| mc_0
theorem mw_225_2 : ∀ e ∈ mt_225_2, mx_Ok mx_MT mq_225 e.1 e.2 := 
  mc_1 (mk_p (ms_iload_n (k := 2) (by decide +kernel) rfl) rfl) <|
  mc_1 (mk_p (ms_icmp_gt (off := (26)) (by decide +kernel) (by decide)) rfl) <|
  mc_1 (mk_p (ms_iload_n (k := 3) (by decide +kernel) rfl) rfl) <|
  mc_1 (mk_p (ms_if_lt (off := (19)) (by decide +kernel) (by decide)) rfl) <|
  mc_1 (mk_p (ms_aload_n (k := 0) (by decide +kernel) rfl) rfl) <|
  mc_1 (mk_p (ms_get (idx := 146) (w := 1497) (host := none) mx_c12 (by decide) ml_f_LeagueOfficeModel_146 (by decide +kernel)) rfl) <|
  mc_1 (mk_p (ms_iload (by decide +kernel)) rfl) <|
  mc_1 (mk_p (ms_ald (Or.inl ⟨rfl, by decide +kernel⟩)) rfl) <|
  mc_1 (mk_p (ms_aload_n (k := 0) (by decide +kernel) rfl) rfl) <| mc_0
theorem mw_225_3 : ∀ e ∈ mt_225_3, mx_Ok mx_MT mq_225 e.1 e.2 := 
  mc_1 (mk_p (ms_get (idx := 146) (w := 1497) (host := none) mx_c12 (by decide) ml_f_LeagueOfficeModel_146 (by decide +kernel)) rfl) <|
  mc_1 (mk_p (ms_iload_n (k := 3) (by decide +kernel) rfl) rfl) <|
  mc_1 (mk_p (ms_ald (Or.inl ⟨rfl, by decide +kernel⟩)) rfl) <|
  mc_1 (mk_p (ms_icmp_lt (off := (6)) (by decide +kernel) (by decide)) rfl) <|
  mc_1 (mk_p (ms_iload (by decide +kernel)) rfl) <|
  mc_1 (mk_p (ms_istore_n (k := 3) (by decide +kernel) rfl (by decide)) rfl) <|
  mc_1 (mk_p (ms_iinc (n := (1)) (by decide +kernel) (by decide +kernel) (by decide)) rfl) <|
  mc_1 (mk_p (ms_goto (off := (-57)) (by decide +kernel) (by decide)) rfl) <| mc_0
theorem mw_225_4 : ∀ e ∈ mt_225_4, mx_Ok mx_MT mq_225 e.1 e.2 := 
  mc_1 (mk_p (ms_iload_n (k := 3) (by decide +kernel) rfl) rfl) <|
  mc_1 (mk_p (ms_if_ge (off := (7)) (by decide +kernel) (by decide)) rfl) <|
  mc_1 (mk_p (ms_iconst (n := (-1)) (by decide +kernel) (by decide +kernel)) rfl) <|
  mc_1 (mk_p (ms_goto (off := (9)) (by decide +kernel) (by decide)) rfl) <|
  mc_1 (mk_p (ms_aload_n (k := 0) (by decide +kernel) rfl) rfl) <|
  mc_1 (mk_p (ms_get (idx := 143) (w := 1496) (host := none) mx_c12 (by decide) ml_f_LeagueOfficeModel_143 (by decide +kernel)) rfl) <|
  mc_1 (mk_p (ms_iload_n (k := 3) (by decide +kernel) rfl) rfl) <|
  mc_1 (mk_p (ms_ald (Or.inl ⟨rfl, by decide +kernel⟩)) rfl) <|
  mc_1 (mk_r (Or.inl ⟨rfl, by decide +kernel, _, rfl, mf_0⟩) rfl) <| mc_0
theorem mw_225 : ∀ ch ∈ mt_225, ∀ e ∈ ch, mx_Ok mx_MT mq_225 e.1 e.2 := mc_2 mw_225_0 <| mc_2 mw_225_1 <| mc_2 mw_225_2 <| mc_2 mw_225_3 <| mc_2 mw_225_4 <| mc_3
/- 226 LeagueOfficeModel.clubOf(II)I -/
theorem mw_226_0 : ∀ e ∈ mt_226_0, mx_Ok mx_MT mq_226 e.1 e.2 := 
  mc_1 (mk_p (ms_aload_n (k := 0) (by decide +kernel) rfl) rfl) <|
  mc_1 (mk_p (ms_iload_n (k := 1) (by decide +kernel) rfl) rfl) <|
  mc_1 (mk_c (k := mq_222) rfl ⟨mo_222, 391, 1791, none, ml_m_LeagueOfficeModel_391, Or.inr (Or.inr (Or.inl ⟨12, TX12, 78, by decide, rfl, rfl, (by decide +kernel), ⟨1, rfl, mx_npd (by decide +kernel)⟩, ml_in_1793, ml_se_59⟩))⟩) <|
  mc_1 (mk_p (ms_if_eq (off := (19)) (by decide +kernel) (by decide)) rfl) <|
  mc_1 (mk_p (ms_iload_n (k := 2) (by decide +kernel) rfl) rfl) <|
  mc_1 (mk_c (k := mq_164) rfl ⟨mo_164, 34, 1341, none, ml_m_LeagueOfficeModel_34, Or.inl ⟨rfl, (by decide +kernel), mx_npd (by decide +kernel), ml_st_1342⟩⟩) <|
  mc_1 (mk_p (ms_if_eq (off := (12)) (by decide +kernel) (by decide)) rfl) <|
  mc_1 (mk_p (ms_aload_n (k := 0) (by decide +kernel) rfl) rfl) <| mc_0
theorem mw_226_1 : ∀ e ∈ mt_226_1, mx_Ok mx_MT mq_226 e.1 e.2 := 
  mc_1 (mk_p (ms_iload_n (k := 1) (by decide +kernel) rfl) rfl) <|
  mc_1 (mk_p (ms_iload_n (k := 2) (by decide +kernel) rfl) rfl) <|
  mc_1 (mk_c (k := mq_225) rfl ⟨mo_225, 397, 1799, none, ml_m_LeagueOfficeModel_397, Or.inr (Or.inr (Or.inl ⟨12, TX12, 78, by decide, rfl, rfl, (by decide +kernel), ⟨2, rfl, mx_npd (by decide +kernel)⟩, ml_in_1801, ml_se_60⟩))⟩) <|
  mc_1 (mk_p (ms_goto (off := (5)) (by decide +kernel) (by decide)) rfl) <|
  mc_1 (mk_p (ms_bipush (n := (-2)) (by decide +kernel) (by decide +kernel)) rfl) <|
  mc_1 (mk_r (Or.inl ⟨rfl, by decide +kernel, _, rfl, mf_0⟩) rfl) <| mc_0
theorem mw_226 : ∀ ch ∈ mt_226, ∀ e ∈ ch, mx_Ok mx_MT mq_226 e.1 e.2 := mc_2 mw_226_0 <| mc_2 mw_226_1 <| mc_3
/- 227 LeagueOfficeModel.card(III)I -/
theorem mw_227_0 : ∀ e ∈ mt_227_0, mx_Ok mx_MT mq_227 e.1 e.2 := 
  mc_1 (mk_p (ms_aload_n (k := 0) (by decide +kernel) rfl) rfl) <|
  mc_1 (mk_p (ms_iload_n (k := 1) (by decide +kernel) rfl) rfl) <|
  mc_1 (mk_c (k := mq_222) rfl ⟨mo_222, 391, 1791, none, ml_m_LeagueOfficeModel_391, Or.inr (Or.inr (Or.inl ⟨12, TX12, 78, by decide, rfl, rfl, (by decide +kernel), ⟨1, rfl, mx_npd (by decide +kernel)⟩, ml_in_1793, ml_se_59⟩))⟩) <|
  mc_1 (mk_p (ms_if_eq (off := (20)) (by decide +kernel) (by decide)) rfl) <|
  mc_1 (mk_p (ms_aload_n (k := 0) (by decide +kernel) rfl) rfl) <|
  mc_1 (mk_p (ms_iload_n (k := 2) (by decide +kernel) rfl) rfl) <|
  mc_1 (mk_c (k := mq_170) rfl ⟨mo_170, 52, 1348, none, ml_m_LeagueOfficeModel_52, Or.inr (Or.inr (Or.inl ⟨12, TX12, 78, by decide, rfl, rfl, (by decide +kernel), ⟨1, rfl, mx_npd (by decide +kernel)⟩, ml_in_1350, ml_se_31⟩))⟩) <|
  mc_1 (mk_p (ms_if_eq (off := (12)) (by decide +kernel) (by decide)) rfl) <| mc_0
theorem mw_227_1 : ∀ e ∈ mt_227_1, mx_Ok mx_MT mq_227 e.1 e.2 := 
  mc_1 (mk_p (ms_iload_n (k := 3) (by decide +kernel) rfl) rfl) <|
  mc_1 (mk_p (ms_iconst (n := 1) (by decide +kernel) (by decide +kernel)) rfl) <|
  mc_1 (mk_p (ms_iconst (n := 2) (by decide +kernel) (by decide +kernel)) rfl) <|
  mc_1 (mk_c (k := mq_163) rfl ⟨mo_163, 7, 1318, none, ml_m_LeagueOfficeModel_7, Or.inl ⟨rfl, (by decide +kernel), mx_npd (by decide +kernel), ml_st_1319⟩⟩) <|
  mc_1 (mk_p (ms_if_ne (off := (6)) (by decide +kernel) (by decide)) rfl) <|
  mc_1 (mk_p (ms_bipush (n := (-2)) (by decide +kernel) (by decide +kernel)) rfl) <|
  mc_1 (mk_r (Or.inl ⟨rfl, by decide +kernel, _, rfl, mf_0⟩) rfl) <|
  mc_1 (mk_p (ms_aload_n (k := 0) (by decide +kernel) rfl) rfl) <|
  mc_1 (mk_p (ms_get (idx := 400) (w := 1498) (host := none) mx_c12 (by decide) ml_f_LeagueOfficeModel_400 (by decide +kernel)) rfl) <| mc_0
theorem mw_227_2 : ∀ e ∈ mt_227_2, mx_Ok mx_MT mq_227 e.1 e.2 := 
  mc_1 (mk_p (ms_bipush (n := 40) (by decide +kernel) (by decide +kernel)) rfl) <|
  mc_1 (mk_p (ms_icmp_ne (off := (6)) (by decide +kernel) (by decide)) rfl) <|
  mc_1 (mk_p (ms_bipush (n := (-4)) (by decide +kernel) (by decide +kernel)) rfl) <|
  mc_1 (mk_r (Or.inl ⟨rfl, by decide +kernel, _, rfl, mf_0⟩) rfl) <|
  mc_1 (mk_p (ms_aload_n (k := 0) (by decide +kernel) rfl) rfl) <|
  mc_1 (mk_p (ms_get (idx := 149) (w := 1499) (host := none) mx_c12 (by decide) ml_f_LeagueOfficeModel_149 (by decide +kernel)) rfl) <|
  mc_1 (mk_p (ms_aload_n (k := 0) (by decide +kernel) rfl) rfl) <|
  mc_1 (mk_p (ms_get (idx := 400) (w := 1498) (host := none) mx_c12 (by decide) ml_f_LeagueOfficeModel_400 (by decide +kernel)) rfl) <| mc_0
theorem mw_227_3 : ∀ e ∈ mt_227_3, mx_Ok mx_MT mq_227 e.1 e.2 := 
  mc_1 (mk_p (ms_iload_n (k := 1) (by decide +kernel) rfl) rfl) <|
  mc_1 (mk_p (ms_ast (Or.inl ⟨rfl, by decide +kernel⟩)) rfl) <|
  mc_1 (mk_p (ms_aload_n (k := 0) (by decide +kernel) rfl) rfl) <|
  mc_1 (mk_p (ms_get (idx := 152) (w := 1500) (host := none) mx_c12 (by decide) ml_f_LeagueOfficeModel_152 (by decide +kernel)) rfl) <|
  mc_1 (mk_p (ms_aload_n (k := 0) (by decide +kernel) rfl) rfl) <|
  mc_1 (mk_p (ms_get (idx := 400) (w := 1498) (host := none) mx_c12 (by decide) ml_f_LeagueOfficeModel_400 (by decide +kernel)) rfl) <|
  mc_1 (mk_p (ms_iload_n (k := 2) (by decide +kernel) rfl) rfl) <|
  mc_1 (mk_p (ms_ast (Or.inl ⟨rfl, by decide +kernel⟩)) rfl) <|
  mc_1 (mk_p (ms_aload_n (k := 0) (by decide +kernel) rfl) rfl) <|
  mc_1 (mk_p (ms_get (idx := 155) (w := 1501) (host := none) mx_c12 (by decide) ml_f_LeagueOfficeModel_155 (by decide +kernel)) rfl) <| mc_0
theorem mw_227_4 : ∀ e ∈ mt_227_4, mx_Ok mx_MT mq_227 e.1 e.2 := 
  mc_1 (mk_p (ms_aload_n (k := 0) (by decide +kernel) rfl) rfl) <|
  mc_1 (mk_p (ms_get (idx := 400) (w := 1498) (host := none) mx_c12 (by decide) ml_f_LeagueOfficeModel_400 (by decide +kernel)) rfl) <|
  mc_1 (mk_p (ms_iload_n (k := 3) (by decide +kernel) rfl) rfl) <|
  mc_1 (mk_p (ms_ast (Or.inl ⟨rfl, by decide +kernel⟩)) rfl) <|
  mc_1 (mk_p (ms_aload_n (k := 0) (by decide +kernel) rfl) rfl) <|
  mc_1 (mk_p (ms_dup (by decide +kernel)) rfl) <|
  mc_1 (mk_p (ms_get (idx := 400) (w := 1498) (host := none) mx_c12 (by decide) ml_f_LeagueOfficeModel_400 (by decide +kernel)) rfl) <|
  mc_1 (mk_p (ms_iconst (n := 1) (by decide +kernel) (by decide +kernel)) rfl) <|
  mc_1 (mk_p (ms_iadd (by decide +kernel)) rfl) <|
  mc_1 (mk_p (ms_put (idx := 400) (w := 1498) (host := none) mx_c12 (by decide) ml_f_LeagueOfficeModel_400 rfl rfl (by decide +kernel)) rfl) <| mc_0
theorem mw_227_5 : ∀ e ∈ mt_227_5, mx_Ok mx_MT mq_227 e.1 e.2 := 
  mc_1 (mk_p (ms_aload_n (k := 0) (by decide +kernel) rfl) rfl) <|
  mc_1 (mk_p (ms_get (idx := 400) (w := 1498) (host := none) mx_c12 (by decide) ml_f_LeagueOfficeModel_400 (by decide +kernel)) rfl) <|
  mc_1 (mk_p (ms_iconst (n := 1) (by decide +kernel) (by decide +kernel)) rfl) <|
  mc_1 (mk_p (ms_isub (by decide +kernel)) rfl) <|
  mc_1 (mk_r (Or.inl ⟨rfl, by decide +kernel, _, rfl, mf_0⟩) rfl) <| mc_0
theorem mw_227 : ∀ ch ∈ mt_227, ∀ e ∈ ch, mx_Ok mx_MT mq_227 e.1 e.2 := mc_2 mw_227_0 <| mc_2 mw_227_1 <| mc_2 mw_227_2 <| mc_2 mw_227_3 <| mc_2 mw_227_4 <| mc_2 mw_227_5 <| mc_3
/- 228 LeagueOfficeModel.bansOf(I)I -/
theorem mw_228_0 : ∀ e ∈ mt_228_0, mx_Ok mx_MT mq_228 e.1 e.2 := 
  mc_1 (mk_p (ms_iconst (n := 0) (by decide +kernel) (by decide +kernel)) rfl) <|
  mc_1 (mk_p (ms_istore_n (k := 2) (by decide +kernel) rfl (by decide)) rfl) <|
  mc_1 (mk_p (ms_iconst (n := 0) (by decide +kernel) (by decide +kernel)) rfl) <|
  mc_1 (mk_p (ms_istore_n (k := 3) (by decide +kernel) rfl (by decide)) rfl) <|
  mc_1 (mk_p (ms_iload_n (k := 3) (by decide +kernel) rfl) rfl) <|
  mc_1 (mk_p (ms_iload_n (k := 1) (by decide +kernel) rfl) rfl) <|
  mc_1 (mk_p (ms_icmp_gt (off := (32)) (by decide +kernel) (by decide)) rfl) <|
  mc_1 (mk_p (ms_iload_n (k := 2) (by decide +kernel) rfl) rfl) <|
  mc_1 (mk_p (ms_aload_n (k := 0) (by decide +kernel) rfl) rfl) <|
  mc_1 (mk_p (ms_get (idx := 149) (w := 1499) (host := none) mx_c12 (by decide) ml_f_LeagueOfficeModel_149 (by decide +kernel)) rfl) <|
  mc_1 (mk_p (ms_iload_n (k := 3) (by decide +kernel) rfl) rfl) <|
  mc_1 (mk_p (ms_ald (Or.inl ⟨rfl, by decide +kernel⟩)) rfl) <| mc_0
theorem mw_228_1 : ∀ e ∈ mt_228_1, mx_Ok mx_MT mq_228 e.1 e.2 := 
  mc_1 (mk_p (ms_aload_n (k := 0) (by decide +kernel) rfl) rfl) <|
  mc_1 (mk_p (ms_get (idx := 149) (w := 1499) (host := none) mx_c12 (by decide) ml_f_LeagueOfficeModel_149 (by decide +kernel)) rfl) <|
  mc_1 (mk_p (ms_iload_n (k := 1) (by decide +kernel) rfl) rfl) <|
  mc_1 (mk_p (ms_ald (Or.inl ⟨rfl, by decide +kernel⟩)) rfl) <|
  mc_1 (mk_p (ms_icmp_ne (off := (7)) (by decide +kernel) (by decide)) rfl) <|
  mc_1 (mk_p (ms_iconst (n := 1) (by decide +kernel) (by decide +kernel)) rfl) <|
  mc_1 (mk_p (ms_goto (off := (4)) (by decide +kernel) (by decide)) rfl) <|
  mc_1 (mk_p (ms_iconst (n := 0) (by decide +kernel) (by decide +kernel)) rfl) <|
  mc_1 (mk_p (ms_iadd (by decide +kernel)) rfl) <|
  mc_1 (mk_p (ms_istore_n (k := 2) (by decide +kernel) rfl (by decide)) rfl) <| mc_0
theorem mw_228_2 : ∀ e ∈ mt_228_2, mx_Ok mx_MT mq_228 e.1 e.2 := 
  mc_1 (mk_p (ms_iinc (n := (1)) (by decide +kernel) (by decide +kernel) (by decide)) rfl) <|
  mc_1 (mk_p (ms_goto (off := (-31)) (by decide +kernel) (by decide)) rfl) <|
  mc_1 (mk_p (ms_aload_n (k := 0) (by decide +kernel) rfl) rfl) <|
  mc_1 (mk_p (ms_iconst (n := 0) (by decide +kernel) (by decide +kernel)) rfl) <|
  mc_1 (mk_p (ms_iconst (n := 0) (by decide +kernel) (by decide +kernel)) rfl) <|
  mc_1 (mk_p (ms_iconst (n := 0) (by decide +kernel) (by decide +kernel)) rfl) <|
  mc_1 (mk_p (ms_iload_n (k := 2) (by decide +kernel) rfl) rfl) <|
  mc_1 (mk_p (ms_aload_n (k := 0) (by decide +kernel) rfl) rfl) <|
  mc_1 (mk_p (ms_get (idx := 155) (w := 1501) (host := none) mx_c12 (by decide) ml_f_LeagueOfficeModel_155 (by decide +kernel)) rfl) <|
  mc_1 (mk_p (ms_iload_n (k := 1) (by decide +kernel) rfl) rfl) <| mc_0
theorem mw_228_3 : ∀ e ∈ mt_228_3, mx_Ok mx_MT mq_228 e.1 e.2 := 
  mc_1 (mk_p (ms_ald (Or.inl ⟨rfl, by decide +kernel⟩)) rfl) <|
  mc_1 (mk_p (ms_iconst (n := 0) (by decide +kernel) (by decide +kernel)) rfl) <|
  mc_1 (mk_c (k := mq_205) rfl ⟨mo_205, 346, 1735, none, ml_m_LeagueOfficeModel_346, Or.inr (Or.inr (Or.inl ⟨12, TX12, 78, by decide, rfl, rfl, (by decide +kernel), ⟨6, rfl, mx_npd (by decide +kernel)⟩, ml_in_1737, ml_se_51⟩))⟩) <|
  mc_1 (mk_p (ms_aload_n (k := 0) (by decide +kernel) rfl) rfl) <|
  mc_1 (mk_p (ms_aload_n (k := 0) (by decide +kernel) rfl) rfl) <|
  mc_1 (mk_p (ms_aload_n (k := 0) (by decide +kernel) rfl) rfl) <|
  mc_1 (mk_p (ms_get (idx := 46) (w := 1461) (host := none) mx_c12 (by decide) ml_f_LeagueOfficeModel_46 (by decide +kernel)) rfl) <|
  mc_1 (mk_p (ms_aload_n (k := 0) (by decide +kernel) rfl) rfl) <|
  mc_1 (mk_p (ms_get (idx := 152) (w := 1500) (host := none) mx_c12 (by decide) ml_f_LeagueOfficeModel_152 (by decide +kernel)) rfl) <|
  mc_1 (mk_p (ms_iload_n (k := 1) (by decide +kernel) rfl) rfl) <| mc_0
theorem mw_228_4 : ∀ e ∈ mt_228_4, mx_Ok mx_MT mq_228 e.1 e.2 := 
  mc_1 (mk_p (ms_ald (Or.inl ⟨rfl, by decide +kernel⟩)) rfl) <|
  mc_1 (mk_p (ms_ald (Or.inl ⟨rfl, by decide +kernel⟩)) rfl) <|
  mc_1 (mk_c (k := mq_201) rfl ⟨mo_201, 332, 1704, none, ml_m_LeagueOfficeModel_332, Or.inr (Or.inr (Or.inl ⟨12, TX12, 78, by decide, rfl, rfl, (by decide +kernel), ⟨1, rfl, mx_npd (by decide +kernel)⟩, ml_in_1706, ml_se_46⟩))⟩) <|
  mc_1 (mk_p (ms_iconst (n := 3) (by decide +kernel) (by decide +kernel)) rfl) <|
  mc_1 (mk_c (k := mq_204) rfl ⟨mo_204, 350, 1739, none, ml_m_LeagueOfficeModel_350, Or.inr (Or.inr (Or.inl ⟨12, TX12, 78, by decide, rfl, rfl, (by decide +kernel), ⟨2, rfl, mx_npd (by decide +kernel)⟩, ml_in_1741, ml_se_52⟩))⟩) <|
  mc_1 (mk_p (ms_istore_n (k := 3) (by decide +kernel) rfl (by decide)) rfl) <|
  mc_1 (mk_p (ms_iload_n (k := 3) (by decide +kernel) rfl) rfl) <|
  mc_1 (mk_p (ms_if_ge (off := (7)) (by decide +kernel) (by decide)) rfl) <|
  mc_1 (mk_p (ms_iconst (n := 0) (by decide +kernel) (by decide +kernel)) rfl) <|
  mc_1 (mk_p (ms_goto (off := (13)) (by decide +kernel) (by decide)) rfl) <| mc_0
theorem mw_228_5 : ∀ e ∈ mt_228_5, mx_Ok mx_MT mq_228 e.1 e.2 := 
  mc_1 (mk_p (ms_iload_n (k := 3) (by decide +kernel) rfl) rfl) <|
  mc_1 (mk_p (ms_iconst (n := 5) (by decide +kernel) (by decide +kernel)) rfl) <|
  mc_1 (mk_p (ms_icmp_le (off := (7)) (by decide +kernel) (by decide)) rfl) <|
  mc_1 (mk_p (ms_iconst (n := 5) (by decide +kernel) (by decide +kernel)) rfl) <|
  mc_1 (mk_p (ms_goto (off := (4)) (by decide +kernel) (by decide)) rfl) <|
  mc_1 (mk_p (ms_iload_n (k := 3) (by decide +kernel) rfl) rfl) <|
  mc_1 (mk_r (Or.inl ⟨rfl, by decide +kernel, _, rfl, mf_0⟩) rfl) <| mc_0
theorem mw_228 : ∀ ch ∈ mt_228, ∀ e ∈ ch, mx_Ok mx_MT mq_228 e.1 e.2 := mc_2 mw_228_0 <| mc_2 mw_228_1 <| mc_2 mw_228_2 <| mc_2 mw_228_3 <| mc_2 mw_228_4 <| mc_2 mw_228_5 <| mc_3
/- 229 LeagueOfficeModel.bans(I)I -/
theorem mw_229_0 : ∀ e ∈ mt_229_0, mx_Ok mx_MT mq_229 e.1 e.2 := 
  mc_1 (mk_p (ms_iload_n (k := 1) (by decide +kernel) rfl) rfl) <|
  mc_1 (mk_p (ms_iconst (n := 0) (by decide +kernel) (by decide +kernel)) rfl) <|
  mc_1 (mk_p (ms_aload_n (k := 0) (by decide +kernel) rfl) rfl) <|
  mc_1 (mk_p (ms_get (idx := 400) (w := 1498) (host := none) mx_c12 (by decide) ml_f_LeagueOfficeModel_400 (by decide +kernel)) rfl) <|
  mc_1 (mk_p (ms_iconst (n := 1) (by decide +kernel) (by decide +kernel)) rfl) <|
  mc_1 (mk_p (ms_isub (by decide +kernel)) rfl) <|
  mc_1 (mk_c (k := mq_163) rfl ⟨mo_163, 7, 1318, none, ml_m_LeagueOfficeModel_7, Or.inl ⟨rfl, (by decide +kernel), mx_npd (by decide +kernel), ml_st_1319⟩⟩) <|
  mc_1 (mk_p (ms_if_eq (off := (11)) (by decide +kernel) (by decide)) rfl) <|
  mc_1 (mk_p (ms_aload_n (k := 0) (by decide +kernel) rfl) rfl) <|
  mc_1 (mk_p (ms_iload_n (k := 1) (by decide +kernel) rfl) rfl) <| mc_0
theorem mw_229_1 : ∀ e ∈ mt_229_1, mx_Ok mx_MT mq_229 e.1 e.2 := 
  mc_1 (mk_c (k := mq_228) rfl ⟨mo_228, 403, 1811, none, ml_m_LeagueOfficeModel_403, Or.inr (Or.inr (Or.inl ⟨12, TX12, 78, by decide, rfl, rfl, (by decide +kernel), ⟨1, rfl, mx_npd (by decide +kernel)⟩, ml_in_1813, ml_se_61⟩))⟩) <|
  mc_1 (mk_p (ms_goto (off := (5)) (by decide +kernel) (by decide)) rfl) <|
  mc_1 (mk_p (ms_bipush (n := (-2)) (by decide +kernel) (by decide +kernel)) rfl) <|
  mc_1 (mk_r (Or.inl ⟨rfl, by decide +kernel, _, rfl, mf_0⟩) rfl) <| mc_0
theorem mw_229 : ∀ ch ∈ mt_229, ∀ e ∈ ch, mx_Ok mx_MT mq_229 e.1 e.2 := mc_2 mw_229_0 <| mc_2 mw_229_1 <| mc_3
/- 230 LeagueOfficeModel.isBehind(II)Z -/
theorem mw_230_0 : ∀ e ∈ mt_230_0, mx_Ok mx_MT mq_230 e.1 e.2 := 
  mc_1 (mk_p (ms_aload_n (k := 0) (by decide +kernel) rfl) rfl) <|
  mc_1 (mk_p (ms_get (idx := 46) (w := 1461) (host := none) mx_c12 (by decide) ml_f_LeagueOfficeModel_46 (by decide +kernel)) rfl) <|
  mc_1 (mk_p (ms_iload_n (k := 1) (by decide +kernel) rfl) rfl) <|
  mc_1 (mk_p (ms_ald (Or.inl ⟨rfl, by decide +kernel⟩)) rfl) <|
  mc_1 (mk_p (ms_aload_n (k := 0) (by decide +kernel) rfl) rfl) <|
  mc_1 (mk_p (ms_get (idx := 46) (w := 1461) (host := none) mx_c12 (by decide) ml_f_LeagueOfficeModel_46 (by decide +kernel)) rfl) <|
  mc_1 (mk_p (ms_iload_n (k := 2) (by decide +kernel) rfl) rfl) <|
  mc_1 (mk_p (ms_ald (Or.inl ⟨rfl, by decide +kernel⟩)) rfl) <|
  mc_1 (mk_p (ms_icmp_eq (off := (26)) (by decide +kernel) (by decide)) rfl) <|
  mc_1 (mk_p (ms_aload_n (k := 0) (by decide +kernel) rfl) rfl) <| mc_0
theorem mw_230_1 : ∀ e ∈ mt_230_1, mx_Ok mx_MT mq_230 e.1 e.2 := 
  mc_1 (mk_p (ms_get (idx := 46) (w := 1461) (host := none) mx_c12 (by decide) ml_f_LeagueOfficeModel_46 (by decide +kernel)) rfl) <|
  mc_1 (mk_p (ms_iload_n (k := 1) (by decide +kernel) rfl) rfl) <|
  mc_1 (mk_p (ms_ald (Or.inl ⟨rfl, by decide +kernel⟩)) rfl) <|
  mc_1 (mk_p (ms_aload_n (k := 0) (by decide +kernel) rfl) rfl) <|
  mc_1 (mk_p (ms_get (idx := 46) (w := 1461) (host := none) mx_c12 (by decide) ml_f_LeagueOfficeModel_46 (by decide +kernel)) rfl) <|
  mc_1 (mk_p (ms_iload_n (k := 2) (by decide +kernel) rfl) rfl) <|
  mc_1 (mk_p (ms_ald (Or.inl ⟨rfl, by decide +kernel⟩)) rfl) <|
  mc_1 (mk_p (ms_icmp_le (off := (7)) (by decide +kernel) (by decide)) rfl) <|
  mc_1 (mk_p (ms_iconst (n := 1) (by decide +kernel) (by decide +kernel)) rfl) <|
  mc_1 (mk_p (ms_goto (off := (17)) (by decide +kernel) (by decide)) rfl) <| mc_0
theorem mw_230_2 : ∀ e ∈ mt_230_2, mx_Ok mx_MT mq_230 e.1 e.2 := 
  mc_1 (mk_p (ms_iconst (n := 0) (by decide +kernel) (by decide +kernel)) rfl) <|
  mc_1 (mk_p (ms_goto (off := (13)) (by decide +kernel) (by decide)) rfl) <|
  mc_1 (mk_p (ms_iload_n (k := 1) (by decide +kernel) rfl) rfl) <|
  mc_1 (mk_p (ms_iload_n (k := 2) (by decide +kernel) rfl) rfl) <|
  mc_1 (mk_p (ms_icmp_le (off := (7)) (by decide +kernel) (by decide)) rfl) <|
  mc_1 (mk_p (ms_iconst (n := 1) (by decide +kernel) (by decide +kernel)) rfl) <|
  mc_1 (mk_p (ms_goto (off := (4)) (by decide +kernel) (by decide)) rfl) <|
  mc_1 (mk_p (ms_iconst (n := 0) (by decide +kernel) (by decide +kernel)) rfl) <| mc_0
theorem mw_230_3 : ∀ e ∈ mt_230_3, mx_Ok mx_MT mq_230 e.1 e.2 := 
  mc_1 (mk_r (Or.inl ⟨rfl, by decide +kernel, _, rfl, mf_2⟩) rfl) <| mc_0
theorem mw_230 : ∀ ch ∈ mt_230, ∀ e ∈ ch, mx_Ok mx_MT mq_230 e.1 e.2 := mc_2 mw_230_0 <| mc_2 mw_230_1 <| mc_2 mw_230_2 <| mc_2 mw_230_3 <| mc_3
/- 231 LeagueOfficeModel.findBanned(I)V -/
theorem mw_231_0 : ∀ e ∈ mt_231_0, mx_Ok mx_MT mq_231 e.1 e.2 := 
  mc_1 (mk_p (ms_iconst (n := 0) (by decide +kernel) (by decide +kernel)) rfl) <|
  mc_1 (mk_p (ms_istore_n (k := 2) (by decide +kernel) rfl (by decide)) rfl) <|
  mc_1 (mk_p (ms_iload_n (k := 2) (by decide +kernel) rfl) rfl) <|
  mc_1 (mk_p (ms_aload_n (k := 0) (by decide +kernel) rfl) rfl) <|
  mc_1 (mk_p (ms_get (idx := 31) (w := 1457) (host := none) mx_c12 (by decide) ml_f_LeagueOfficeModel_31 (by decide +kernel)) rfl) <|
  mc_1 (mk_p (ms_icmp_ge (off := (16)) (by decide +kernel) (by decide)) rfl) <|
  mc_1 (mk_p (ms_aload_n (k := 0) (by decide +kernel) rfl) rfl) <|
  mc_1 (mk_p (ms_get (idx := 170) (w := 1507) (host := none) mx_c12 (by decide) ml_f_LeagueOfficeModel_170 (by decide +kernel)) rfl) <|
  mc_1 (mk_p (ms_iload_n (k := 2) (by decide +kernel) rfl) rfl) <|
  mc_1 (mk_p (ms_iconst (n := 0) (by decide +kernel) (by decide +kernel)) rfl) <| mc_0
theorem mw_231_1 : ∀ e ∈ mt_231_1, mx_Ok mx_MT mq_231 e.1 e.2 := 
  mc_1 (mk_p (ms_ast (Or.inr (Or.inr ⟨rfl, by decide +kernel⟩))) rfl) <|
  mc_1 (mk_p (ms_iinc (n := (1)) (by decide +kernel) (by decide +kernel) (by decide)) rfl) <|
  mc_1 (mk_p (ms_goto (off := (-18)) (by decide +kernel) (by decide)) rfl) <|
  mc_1 (mk_p (ms_iconst (n := 0) (by decide +kernel) (by decide +kernel)) rfl) <|
  mc_1 (mk_p (ms_istore_n (k := 2) (by decide +kernel) rfl (by decide)) rfl) <|
  mc_1 (mk_p (ms_iload_n (k := 2) (by decide +kernel) rfl) rfl) <|
  mc_1 (mk_p (ms_aload_n (k := 0) (by decide +kernel) rfl) rfl) <|
  mc_1 (mk_p (ms_get (idx := 400) (w := 1498) (host := none) mx_c12 (by decide) ml_f_LeagueOfficeModel_400 (by decide +kernel)) rfl) <|
  mc_1 (mk_p (ms_icmp_ge (off := (216)) (by decide +kernel) (by decide)) rfl) <| mc_0
theorem mw_231_2 : ∀ e ∈ mt_231_2, mx_Ok mx_MT mq_231 e.1 e.2 := 
  mc_1 (mk_p (ms_aload_n (k := 0) (by decide +kernel) rfl) rfl) <|
  mc_1 (mk_p (ms_get (idx := 167) (w := 1506) (host := none) mx_c12 (by decide) ml_f_LeagueOfficeModel_167 (by decide +kernel)) rfl) <|
  mc_1 (mk_p (ms_iload_n (k := 2) (by decide +kernel) rfl) rfl) <|
  mc_1 (mk_p (ms_iconst (n := 0) (by decide +kernel) (by decide +kernel)) rfl) <|
  mc_1 (mk_p (ms_ast (Or.inl ⟨rfl, by decide +kernel⟩)) rfl) <|
  mc_1 (mk_p (ms_aload_n (k := 0) (by decide +kernel) rfl) rfl) <|
  mc_1 (mk_p (ms_get (idx := 149) (w := 1499) (host := none) mx_c12 (by decide) ml_f_LeagueOfficeModel_149 (by decide +kernel)) rfl) <|
  mc_1 (mk_p (ms_iload_n (k := 2) (by decide +kernel) rfl) rfl) <|
  mc_1 (mk_p (ms_ald (Or.inl ⟨rfl, by decide +kernel⟩)) rfl) <|
  mc_1 (mk_p (ms_iload_n (k := 1) (by decide +kernel) rfl) rfl) <|
  mc_1 (mk_p (ms_icmp_eq (off := (6)) (by decide +kernel) (by decide)) rfl) <| mc_0
theorem mw_231_3 : ∀ e ∈ mt_231_3, mx_Ok mx_MT mq_231 e.1 e.2 := 
  mc_1 (mk_p (ms_goto (off := (190)) (by decide +kernel) (by decide)) rfl) <|
  mc_1 (mk_p (ms_aload_n (k := 0) (by decide +kernel) rfl) rfl) <|
  mc_1 (mk_p (ms_get (idx := 152) (w := 1500) (host := none) mx_c12 (by decide) ml_f_LeagueOfficeModel_152 (by decide +kernel)) rfl) <|
  mc_1 (mk_p (ms_iload_n (k := 2) (by decide +kernel) rfl) rfl) <|
  mc_1 (mk_p (ms_ald (Or.inl ⟨rfl, by decide +kernel⟩)) rfl) <|
  mc_1 (mk_p (ms_istore_n (k := 3) (by decide +kernel) rfl (by decide)) rfl) <|
  mc_1 (mk_p (ms_aload_n (k := 0) (by decide +kernel) rfl) rfl) <|
  mc_1 (mk_p (ms_iload_n (k := 1) (by decide +kernel) rfl) rfl) <|
  mc_1 (mk_p (ms_aload_n (k := 0) (by decide +kernel) rfl) rfl) <|
  mc_1 (mk_p (ms_get (idx := 46) (w := 1461) (host := none) mx_c12 (by decide) ml_f_LeagueOfficeModel_46 (by decide +kernel)) rfl) <| mc_0
theorem mw_231_4 : ∀ e ∈ mt_231_4, mx_Ok mx_MT mq_231 e.1 e.2 := 
  mc_1 (mk_p (ms_iload_n (k := 3) (by decide +kernel) rfl) rfl) <|
  mc_1 (mk_p (ms_ald (Or.inl ⟨rfl, by decide +kernel⟩)) rfl) <|
  mc_1 (mk_c (k := mq_225) rfl ⟨mo_225, 397, 1799, none, ml_m_LeagueOfficeModel_397, Or.inr (Or.inr (Or.inl ⟨12, TX12, 78, by decide, rfl, rfl, (by decide +kernel), ⟨2, rfl, mx_npd (by decide +kernel)⟩, ml_in_1801, ml_se_60⟩))⟩) <|
  mc_1 (mk_p (ms_istore (by decide +kernel) (by decide)) rfl) <|
  mc_1 (mk_p (ms_iload (by decide +kernel)) rfl) <|
  mc_1 (mk_p (ms_if_ge (off := (7)) (by decide +kernel) (by decide)) rfl) <|
  mc_1 (mk_p (ms_iconst (n := 0) (by decide +kernel) (by decide +kernel)) rfl) <|
  mc_1 (mk_p (ms_goto (off := (8)) (by decide +kernel) (by decide)) rfl) <| mc_0
theorem mw_231_5 : ∀ e ∈ mt_231_5, mx_Ok mx_MT mq_231 e.1 e.2 := 
  mc_1 (mk_p (ms_aload_n (k := 0) (by decide +kernel) rfl) rfl) <|
  mc_1 (mk_p (ms_iload_n (k := 2) (by decide +kernel) rfl) rfl) <|
  mc_1 (mk_c (k := mq_228) rfl ⟨mo_228, 403, 1811, none, ml_m_LeagueOfficeModel_403, Or.inr (Or.inr (Or.inl ⟨12, TX12, 78, by decide, rfl, rfl, (by decide +kernel), ⟨1, rfl, mx_npd (by decide +kernel)⟩, ml_in_1813, ml_se_61⟩))⟩) <|
  mc_1 (mk_p (ms_istore (by decide +kernel) (by decide)) rfl) <|
  mc_1 (mk_p (ms_aload_n (k := 0) (by decide +kernel) rfl) rfl) <|
  mc_1 (mk_p (ms_get (idx := 167) (w := 1506) (host := none) mx_c12 (by decide) ml_f_LeagueOfficeModel_167 (by decide +kernel)) rfl) <|
  mc_1 (mk_p (ms_iload_n (k := 2) (by decide +kernel) rfl) rfl) <|
  mc_1 (mk_p (ms_ald (Or.inl ⟨rfl, by decide +kernel⟩)) rfl) <|
  mc_1 (mk_p (ms_iload (by decide +kernel)) rfl) <| mc_0
theorem mw_231_6 : ∀ e ∈ mt_231_6, mx_Ok mx_MT mq_231 e.1 e.2 := 
  mc_1 (mk_p (ms_icmp_ge (off := (143)) (by decide +kernel) (by decide)) rfl) <|
  mc_1 (mk_p (ms_iconst (n := (-1)) (by decide +kernel) (by decide +kernel)) rfl) <|
  mc_1 (mk_p (ms_istore (by decide +kernel) (by decide)) rfl) <|
  mc_1 (mk_p (ms_iconst (n := 0) (by decide +kernel) (by decide +kernel)) rfl) <|
  mc_1 (mk_p (ms_istore (by decide +kernel) (by decide)) rfl) <|
  mc_1 (mk_p (ms_iload (by decide +kernel)) rfl) <|
  mc_1 (mk_p (ms_aload_n (k := 0) (by decide +kernel) rfl) rfl) <|
  mc_1 (mk_p (ms_get (idx := 31) (w := 1457) (host := none) mx_c12 (by decide) ml_f_LeagueOfficeModel_31 (by decide +kernel)) rfl) <| mc_0
theorem mw_231_7 : ∀ e ∈ mt_231_7, mx_Ok mx_MT mq_231 e.1 e.2 := 
  mc_1 (mk_p (ms_icmp_ge (off := (82)) (by decide +kernel) (by decide)) rfl) <|
  mc_1 (mk_p (ms_aload_n (k := 0) (by decide +kernel) rfl) rfl) <|
  mc_1 (mk_p (ms_get (idx := 170) (w := 1507) (host := none) mx_c12 (by decide) ml_f_LeagueOfficeModel_170 (by decide +kernel)) rfl) <|
  mc_1 (mk_p (ms_iload (by decide +kernel)) rfl) <|
  mc_1 (mk_p (ms_ald (Or.inr (Or.inr (Or.inl ⟨rfl, by decide +kernel⟩)))) rfl) <|
  mc_1 (mk_p (ms_if_ne (off := (66)) (by decide +kernel) (by decide)) rfl) <|
  mc_1 (mk_p (ms_aload_n (k := 0) (by decide +kernel) rfl) rfl) <|
  mc_1 (mk_p (ms_get (idx := 37) (w := 1458) (host := none) mx_c12 (by decide) ml_f_LeagueOfficeModel_37 (by decide +kernel)) rfl) <| mc_0
theorem mw_231_8 : ∀ e ∈ mt_231_8, mx_Ok mx_MT mq_231 e.1 e.2 := 
  mc_1 (mk_p (ms_iload (by decide +kernel)) rfl) <|
  mc_1 (mk_p (ms_ald (Or.inl ⟨rfl, by decide +kernel⟩)) rfl) <|
  mc_1 (mk_c (k := mq_173) rfl ⟨mo_173, 58, 1355, none, ml_m_LeagueOfficeModel_58, Or.inl ⟨rfl, (by decide +kernel), mx_npd (by decide +kernel), ml_st_1356⟩⟩) <|
  mc_1 (mk_p (ms_if_eq (off := (53)) (by decide +kernel) (by decide)) rfl) <|
  mc_1 (mk_p (ms_aload_n (k := 0) (by decide +kernel) rfl) rfl) <|
  mc_1 (mk_p (ms_iload (by decide +kernel)) rfl) <|
  mc_1 (mk_p (ms_iload (by decide +kernel)) rfl) <|
  mc_1 (mk_c (k := mq_208) rfl ⟨mo_208, 353, 1720, none, ml_m_LeagueOfficeModel_353, Or.inr (Or.inr (Or.inl ⟨12, TX12, 78, by decide, rfl, rfl, (by decide +kernel), ⟨2, rfl, mx_npd (by decide +kernel)⟩, ml_in_1722, ml_se_48⟩))⟩) <| mc_0
theorem mw_231_9 : ∀ e ∈ mt_231_9, mx_Ok mx_MT mq_231 e.1 e.2 := 
  mc_1 (mk_p (ms_if_eq (off := (42)) (by decide +kernel) (by decide)) rfl) <|
  mc_1 (mk_p (ms_aload_n (k := 0) (by decide +kernel) rfl) rfl) <|
  mc_1 (mk_p (ms_get (idx := 46) (w := 1461) (host := none) mx_c12 (by decide) ml_f_LeagueOfficeModel_46 (by decide +kernel)) rfl) <|
  mc_1 (mk_p (ms_iload (by decide +kernel)) rfl) <|
  mc_1 (mk_p (ms_ald (Or.inl ⟨rfl, by decide +kernel⟩)) rfl) <|
  mc_1 (mk_p (ms_aload_n (k := 0) (by decide +kernel) rfl) rfl) <|
  mc_1 (mk_p (ms_get (idx := 46) (w := 1461) (host := none) mx_c12 (by decide) ml_f_LeagueOfficeModel_46 (by decide +kernel)) rfl) <| mc_0
theorem mw_231_10 : ∀ e ∈ mt_231_10, mx_Ok mx_MT mq_231 e.1 e.2 := 
  mc_1 (mk_p (ms_iload_n (k := 3) (by decide +kernel) rfl) rfl) <|
  mc_1 (mk_p (ms_ald (Or.inl ⟨rfl, by decide +kernel⟩)) rfl) <|
  mc_1 (mk_p (ms_icmp_gt (off := (6)) (by decide +kernel) (by decide)) rfl) <|
  mc_1 (mk_p (ms_goto (off := (23)) (by decide +kernel) (by decide)) rfl) <|
  mc_1 (mk_p (ms_iload (by decide +kernel)) rfl) <|
  mc_1 (mk_p (ms_if_lt (off := (14)) (by decide +kernel) (by decide)) rfl) <|
  mc_1 (mk_p (ms_aload_n (k := 0) (by decide +kernel) rfl) rfl) <|
  mc_1 (mk_p (ms_iload (by decide +kernel)) rfl) <| mc_0
theorem mw_231_11 : ∀ e ∈ mt_231_11, mx_Ok mx_MT mq_231 e.1 e.2 := 
  mc_1 (mk_p (ms_iload (by decide +kernel)) rfl) <|
  mc_1 (mk_c (k := mq_230) rfl ⟨mo_230, 406, 1823, none, ml_m_LeagueOfficeModel_406, Or.inr (Or.inr (Or.inl ⟨12, TX12, 78, by decide, rfl, rfl, (by decide +kernel), ⟨2, rfl, mx_npd (by decide +kernel)⟩, ml_in_1825, ml_se_63⟩))⟩) <|
  mc_1 (mk_p (ms_if_eq (off := (7)) (by decide +kernel) (by decide)) rfl) <|
  mc_1 (mk_p (ms_iload (by decide +kernel)) rfl) <|
  mc_1 (mk_p (ms_istore (by decide +kernel) (by decide)) rfl) <|
  mc_1 (mk_p (ms_iinc (n := (1)) (by decide +kernel) (by decide +kernel) (by decide)) rfl) <|
  mc_1 (mk_p (ms_goto (off := (-85)) (by decide +kernel) (by decide)) rfl) <| mc_0
theorem mw_231_12 : ∀ e ∈ mt_231_12, mx_Ok mx_MT mq_231 e.1 e.2 := 
  mc_1 (mk_p (ms_iload (by decide +kernel)) rfl) <|
  mc_1 (mk_p (ms_if_ge (off := (6)) (by decide +kernel) (by decide)) rfl) <|
  mc_1 (mk_p (ms_goto (off := (41)) (by decide +kernel) (by decide)) rfl) <|
  mc_1 (mk_p (ms_aload_n (k := 0) (by decide +kernel) rfl) rfl) <|
  mc_1 (mk_p (ms_get (idx := 170) (w := 1507) (host := none) mx_c12 (by decide) ml_f_LeagueOfficeModel_170 (by decide +kernel)) rfl) <|
  mc_1 (mk_p (ms_iload (by decide +kernel)) rfl) <| mc_0
theorem mw_231_13 : ∀ e ∈ mt_231_13, mx_Ok mx_MT mq_231 e.1 e.2 := 
  mc_1 (mk_p (ms_iconst (n := 1) (by decide +kernel) (by decide +kernel)) rfl) <|
  mc_1 (mk_p (ms_ast (Or.inr (Or.inr ⟨rfl, by decide +kernel⟩))) rfl) <|
  mc_1 (mk_p (ms_aload_n (k := 0) (by decide +kernel) rfl) rfl) <|
  mc_1 (mk_p (ms_get (idx := 164) (w := 1505) (host := none) mx_c12 (by decide) ml_f_LeagueOfficeModel_164 (by decide +kernel)) rfl) <|
  mc_1 (mk_p (ms_iconst (n := 5) (by decide +kernel) (by decide +kernel)) rfl) <|
  mc_1 (mk_p (ms_iload_n (k := 2) (by decide +kernel) rfl) rfl) <|
  mc_1 (mk_p (ms_imul (by decide +kernel)) rfl) <|
  mc_1 (mk_p (ms_aload_n (k := 0) (by decide +kernel) rfl) rfl) <|
  mc_1 (mk_p (ms_get (idx := 167) (w := 1506) (host := none) mx_c12 (by decide) ml_f_LeagueOfficeModel_167 (by decide +kernel)) rfl) <|
  mc_1 (mk_p (ms_iload_n (k := 2) (by decide +kernel) rfl) rfl) <|
  mc_1 (mk_p (ms_ald (Or.inl ⟨rfl, by decide +kernel⟩)) rfl) <|
  mc_1 (mk_p (ms_iadd (by decide +kernel)) rfl) <| mc_0
theorem mw_231_14 : ∀ e ∈ mt_231_14, mx_Ok mx_MT mq_231 e.1 e.2 := 
  mc_1 (mk_p (ms_iload (by decide +kernel)) rfl) <|
  mc_1 (mk_p (ms_ast (Or.inl ⟨rfl, by decide +kernel⟩)) rfl) <|
  mc_1 (mk_p (ms_aload_n (k := 0) (by decide +kernel) rfl) rfl) <|
  mc_1 (mk_p (ms_get (idx := 167) (w := 1506) (host := none) mx_c12 (by decide) ml_f_LeagueOfficeModel_167 (by decide +kernel)) rfl) <|
  mc_1 (mk_p (ms_iload_n (k := 2) (by decide +kernel) rfl) rfl) <|
  mc_1 (mk_p (ms_dup2 (by decide +kernel)) rfl) <|
  mc_1 (mk_p (ms_ald (Or.inl ⟨rfl, by decide +kernel⟩)) rfl) <|
  mc_1 (mk_p (ms_iconst (n := 1) (by decide +kernel) (by decide +kernel)) rfl) <|
  mc_1 (mk_p (ms_iadd (by decide +kernel)) rfl) <|
  mc_1 (mk_p (ms_ast (Or.inl ⟨rfl, by decide +kernel⟩)) rfl) <|
  mc_1 (mk_p (ms_goto (off := (-148)) (by decide +kernel) (by decide)) rfl) <| mc_0
theorem mw_231_15 : ∀ e ∈ mt_231_15, mx_Ok mx_MT mq_231 e.1 e.2 := 
  mc_1 (mk_p (ms_iinc (n := (1)) (by decide +kernel) (by decide +kernel) (by decide)) rfl) <|
  mc_1 (mk_p (ms_goto (off := (-218)) (by decide +kernel) (by decide)) rfl) <|
  mc_1 (mk_r (Or.inr (Or.inr (Or.inr ⟨rfl, by decide +kernel, rfl⟩))) rfl) <| mc_0
theorem mw_231 : ∀ ch ∈ mt_231, ∀ e ∈ ch, mx_Ok mx_MT mq_231 e.1 e.2 := mc_2 mw_231_0 <| mc_2 mw_231_1 <| mc_2 mw_231_2 <| mc_2 mw_231_3 <| mc_2 mw_231_4 <| mc_2 mw_231_5 <| mc_2 mw_231_6 <| mc_2 mw_231_7 <| mc_2 mw_231_8 <| mc_2 mw_231_9 <| mc_2 mw_231_10 <| mc_2 mw_231_11 <| mc_2 mw_231_12 <| mc_2 mw_231_13 <| mc_2 mw_231_14 <| mc_2 mw_231_15 <| mc_3
/- 232 LeagueOfficeModel.banned(II)I -/
theorem mw_232_0 : ∀ e ∈ mt_232_0, mx_Ok mx_MT mq_232 e.1 e.2 := 
  mc_1 (mk_p (ms_iload_n (k := 1) (by decide +kernel) rfl) rfl) <|
  mc_1 (mk_p (ms_iconst (n := 0) (by decide +kernel) (by decide +kernel)) rfl) <|
  mc_1 (mk_p (ms_aload_n (k := 0) (by decide +kernel) rfl) rfl) <|
  mc_1 (mk_p (ms_get (idx := 400) (w := 1498) (host := none) mx_c12 (by decide) ml_f_LeagueOfficeModel_400 (by decide +kernel)) rfl) <|
  mc_1 (mk_p (ms_iconst (n := 1) (by decide +kernel) (by decide +kernel)) rfl) <|
  mc_1 (mk_p (ms_isub (by decide +kernel)) rfl) <|
  mc_1 (mk_c (k := mq_163) rfl ⟨mo_163, 7, 1318, none, ml_m_LeagueOfficeModel_7, Or.inl ⟨rfl, (by decide +kernel), mx_npd (by decide +kernel), ml_st_1319⟩⟩) <|
  mc_1 (mk_p (ms_if_ne (off := (6)) (by decide +kernel) (by decide)) rfl) <|
  mc_1 (mk_p (ms_bipush (n := (-2)) (by decide +kernel) (by decide +kernel)) rfl) <| mc_0
theorem mw_232_1 : ∀ e ∈ mt_232_1, mx_Ok mx_MT mq_232 e.1 e.2 := 
  mc_1 (mk_r (Or.inl ⟨rfl, by decide +kernel, _, rfl, mf_0⟩) rfl) <|
  mc_1 (mk_p (ms_aload_n (k := 0) (by decide +kernel) rfl) rfl) <|
  mc_1 (mk_p (ms_aload_n (k := 0) (by decide +kernel) rfl) rfl) <|
  mc_1 (mk_p (ms_get (idx := 149) (w := 1499) (host := none) mx_c12 (by decide) ml_f_LeagueOfficeModel_149 (by decide +kernel)) rfl) <|
  mc_1 (mk_p (ms_iload_n (k := 1) (by decide +kernel) rfl) rfl) <|
  mc_1 (mk_p (ms_ald (Or.inl ⟨rfl, by decide +kernel⟩)) rfl) <|
  mc_1 (mk_c (k := mq_231) rfl ⟨mo_231, 409, 1819, none, ml_m_LeagueOfficeModel_409, Or.inr (Or.inr (Or.inl ⟨12, TX12, 78, by decide, rfl, rfl, (by decide +kernel), ⟨1, rfl, mx_npd (by decide +kernel)⟩, ml_in_1821, ml_se_62⟩))⟩) <|
  mc_1 (mk_p (ms_iload_n (k := 2) (by decide +kernel) rfl) rfl) <|
  mc_1 (mk_p (ms_iconst (n := 0) (by decide +kernel) (by decide +kernel)) rfl) <|
  mc_1 (mk_p (ms_aload_n (k := 0) (by decide +kernel) rfl) rfl) <|
  mc_1 (mk_p (ms_get (idx := 167) (w := 1506) (host := none) mx_c12 (by decide) ml_f_LeagueOfficeModel_167 (by decide +kernel)) rfl) <| mc_0
theorem mw_232_2 : ∀ e ∈ mt_232_2, mx_Ok mx_MT mq_232 e.1 e.2 := 
  mc_1 (mk_p (ms_iload_n (k := 1) (by decide +kernel) rfl) rfl) <|
  mc_1 (mk_p (ms_ald (Or.inl ⟨rfl, by decide +kernel⟩)) rfl) <|
  mc_1 (mk_p (ms_iconst (n := 1) (by decide +kernel) (by decide +kernel)) rfl) <|
  mc_1 (mk_p (ms_isub (by decide +kernel)) rfl) <|
  mc_1 (mk_c (k := mq_163) rfl ⟨mo_163, 7, 1318, none, ml_m_LeagueOfficeModel_7, Or.inl ⟨rfl, (by decide +kernel), mx_npd (by decide +kernel), ml_st_1319⟩⟩) <|
  mc_1 (mk_p (ms_if_eq (off := (16)) (by decide +kernel) (by decide)) rfl) <|
  mc_1 (mk_p (ms_aload_n (k := 0) (by decide +kernel) rfl) rfl) <|
  mc_1 (mk_p (ms_get (idx := 164) (w := 1505) (host := none) mx_c12 (by decide) ml_f_LeagueOfficeModel_164 (by decide +kernel)) rfl) <|
  mc_1 (mk_p (ms_iconst (n := 5) (by decide +kernel) (by decide +kernel)) rfl) <| mc_0
theorem mw_232_3 : ∀ e ∈ mt_232_3, mx_Ok mx_MT mq_232 e.1 e.2 := 
  mc_1 (mk_p (ms_iload_n (k := 1) (by decide +kernel) rfl) rfl) <|
  mc_1 (mk_p (ms_imul (by decide +kernel)) rfl) <|
  mc_1 (mk_p (ms_iload_n (k := 2) (by decide +kernel) rfl) rfl) <|
  mc_1 (mk_p (ms_iadd (by decide +kernel)) rfl) <|
  mc_1 (mk_p (ms_ald (Or.inl ⟨rfl, by decide +kernel⟩)) rfl) <|
  mc_1 (mk_p (ms_goto (off := (4)) (by decide +kernel) (by decide)) rfl) <|
  mc_1 (mk_p (ms_iconst (n := (-1)) (by decide +kernel) (by decide +kernel)) rfl) <|
  mc_1 (mk_r (Or.inl ⟨rfl, by decide +kernel, _, rfl, mf_0⟩) rfl) <| mc_0
theorem mw_232 : ∀ ch ∈ mt_232, ∀ e ∈ ch, mx_Ok mx_MT mq_232 e.1 e.2 := mc_2 mw_232_0 <| mc_2 mw_232_1 <| mc_2 mw_232_2 <| mc_2 mw_232_3 <| mc_3
