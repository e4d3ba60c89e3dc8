/- 233 LeagueOfficeModel.mayPlay(II)Z -/
theorem mw_233_0 : ∀ e ∈ mt_233_0, mx_Ok mx_MT mq_233 e.1 e.2 := 
  mc_1 (mk_p (ms_aload_n (k := 0) (by decide +kernel) rfl) rfl) <|
  mc_1 (mk_p (ms_iload_n (k := 1) (by decide +kernel) rfl) rfl) <|
  mc_1 (mk_p (ms_aload_n (k := 0) (by decide +kernel) rfl) rfl) <|
  mc_1 (mk_p (ms_get (idx := 46) (w := 1461) (host := none) mx_c12 (by decide) ml_f_LeagueOfficeModel_46 (by decide +kernel)) rfl) <|
  mc_1 (mk_p (ms_iload_n (k := 2) (by decide +kernel) rfl) rfl) <|
  mc_1 (mk_p (ms_ald (Or.inl ⟨rfl, by decide +kernel⟩)) rfl) <|
  mc_1 (mk_c (k := mq_225) rfl ⟨mo_225, 397, 1799, none, ml_m_LeagueOfficeModel_397, Or.inr (Or.inr (Or.inl ⟨12, TX12, 78, by decide, rfl, rfl, (by decide +kernel), ⟨2, rfl, mx_npd (by decide +kernel)⟩, ml_in_1801, ml_se_60⟩))⟩) <|
  mc_1 (mk_p (ms_istore_n (k := 3) (by decide +kernel) rfl (by decide)) rfl) <|
  mc_1 (mk_p (ms_iload_n (k := 3) (by decide +kernel) rfl) rfl) <|
  mc_1 (mk_p (ms_if_lt (off := (12)) (by decide +kernel) (by decide)) rfl) <| mc_0
theorem mw_233_1 : ∀ e ∈ mt_233_1, mx_Ok mx_MT mq_233 e.1 e.2 := 
  mc_1 (mk_p (ms_aload_n (k := 0) (by decide +kernel) rfl) rfl) <|
  mc_1 (mk_p (ms_iload_n (k := 3) (by decide +kernel) rfl) rfl) <|
  mc_1 (mk_p (ms_iload_n (k := 2) (by decide +kernel) rfl) rfl) <|
  mc_1 (mk_c (k := mq_208) rfl ⟨mo_208, 353, 1720, none, ml_m_LeagueOfficeModel_353, Or.inr (Or.inr (Or.inl ⟨12, TX12, 78, by decide, rfl, rfl, (by decide +kernel), ⟨2, rfl, mx_npd (by decide +kernel)⟩, ml_in_1722, ml_se_48⟩))⟩) <|
  mc_1 (mk_p (ms_if_ne (off := (5)) (by decide +kernel) (by decide)) rfl) <|
  mc_1 (mk_p (ms_iconst (n := 0) (by decide +kernel) (by decide +kernel)) rfl) <|
  mc_1 (mk_r (Or.inl ⟨rfl, by decide +kernel, _, rfl, mf_2⟩) rfl) <|
  mc_1 (mk_p (ms_aload_n (k := 0) (by decide +kernel) rfl) rfl) <|
  mc_1 (mk_p (ms_iload_n (k := 1) (by decide +kernel) rfl) rfl) <|
  mc_1 (mk_c (k := mq_231) rfl ⟨mo_231, 409, 1819, none, ml_m_LeagueOfficeModel_409, Or.inr (Or.inr (Or.inl ⟨12, TX12, 78, by decide, rfl, rfl, (by decide +kernel), ⟨1, rfl, mx_npd (by decide +kernel)⟩, ml_in_1821, ml_se_62⟩))⟩) <| mc_0
theorem mw_233_2 : ∀ e ∈ mt_233_2, mx_Ok mx_MT mq_233 e.1 e.2 := 
  mc_1 (mk_p (ms_aload_n (k := 0) (by decide +kernel) rfl) rfl) <|
  mc_1 (mk_p (ms_get (idx := 170) (w := 1507) (host := none) mx_c12 (by decide) ml_f_LeagueOfficeModel_170 (by decide +kernel)) rfl) <|
  mc_1 (mk_p (ms_iload_n (k := 2) (by decide +kernel) rfl) rfl) <|
  mc_1 (mk_p (ms_ald (Or.inr (Or.inr (Or.inl ⟨rfl, by decide +kernel⟩)))) rfl) <|
  mc_1 (mk_p (ms_if_ne (off := (7)) (by decide +kernel) (by decide)) rfl) <|
  mc_1 (mk_p (ms_iconst (n := 1) (by decide +kernel) (by decide +kernel)) rfl) <|
  mc_1 (mk_p (ms_goto (off := (4)) (by decide +kernel) (by decide)) rfl) <|
  mc_1 (mk_p (ms_iconst (n := 0) (by decide +kernel) (by decide +kernel)) rfl) <|
  mc_1 (mk_r (Or.inl ⟨rfl, by decide +kernel, _, rfl, mf_2⟩) rfl) <| mc_0
theorem mw_233 : ∀ ch ∈ mt_233, ∀ e ∈ ch, mx_Ok mx_MT mq_233 e.1 e.2 := mc_2 mw_233_0 <| mc_2 mw_233_1 <| mc_2 mw_233_2 <| mc_3
/- 234 LeagueOfficeModel.may(II)I -/
theorem mw_234_0 : ∀ e ∈ mt_234_0, mx_Ok mx_MT mq_234 e.1 e.2 := 
  mc_1 (mk_p (ms_aload_n (k := 0) (by decide +kernel) rfl) rfl) <|
  mc_1 (mk_p (ms_iload_n (k := 1) (by decide +kernel) rfl) rfl) <|
  mc_1 (mk_c (k := mq_222) rfl ⟨mo_222, 391, 1791, none, ml_m_LeagueOfficeModel_391, Or.inr (Or.inr (Or.inl ⟨12, TX12, 78, by decide, rfl, rfl, (by decide +kernel), ⟨1, rfl, mx_npd (by decide +kernel)⟩, ml_in_1793, ml_se_59⟩))⟩) <|
  mc_1 (mk_p (ms_if_eq (off := (11)) (by decide +kernel) (by decide)) rfl) <|
  mc_1 (mk_p (ms_aload_n (k := 0) (by decide +kernel) rfl) rfl) <|
  mc_1 (mk_p (ms_iload_n (k := 2) (by decide +kernel) rfl) rfl) <|
  mc_1 (mk_c (k := mq_170) rfl ⟨mo_170, 52, 1348, none, ml_m_LeagueOfficeModel_52, Or.inr (Or.inr (Or.inl ⟨12, TX12, 78, by decide, rfl, rfl, (by decide +kernel), ⟨1, rfl, mx_npd (by decide +kernel)⟩, ml_in_1350, ml_se_31⟩))⟩) <|
  mc_1 (mk_p (ms_if_ne (off := (8)) (by decide +kernel) (by decide)) rfl) <| mc_0
theorem mw_234_1 : ∀ e ∈ mt_234_1, mx_Ok mx_MT mq_234 e.1 e.2 := 
  mc_1 (mk_p (ms_bipush (n := (-2)) (by decide +kernel) (by decide +kernel)) rfl) <|
  mc_1 (mk_p (ms_goto (off := (17)) (by decide +kernel) (by decide)) rfl) <|
  mc_1 (mk_p (ms_aload_n (k := 0) (by decide +kernel) rfl) rfl) <|
  mc_1 (mk_p (ms_iload_n (k := 1) (by decide +kernel) rfl) rfl) <|
  mc_1 (mk_p (ms_iload_n (k := 2) (by decide +kernel) rfl) rfl) <|
  mc_1 (mk_c (k := mq_233) rfl ⟨mo_233, 413, 1831, none, ml_m_LeagueOfficeModel_413, Or.inr (Or.inr (Or.inl ⟨12, TX12, 78, by decide, rfl, rfl, (by decide +kernel), ⟨2, rfl, mx_npd (by decide +kernel)⟩, ml_in_1833, ml_se_64⟩))⟩) <|
  mc_1 (mk_p (ms_if_eq (off := (7)) (by decide +kernel) (by decide)) rfl) <|
  mc_1 (mk_p (ms_iconst (n := 1) (by decide +kernel) (by decide +kernel)) rfl) <|
  mc_1 (mk_p (ms_goto (off := (4)) (by decide +kernel) (by decide)) rfl) <| mc_0
theorem mw_234_2 : ∀ e ∈ mt_234_2, mx_Ok mx_MT mq_234 e.1 e.2 := 
  mc_1 (mk_p (ms_iconst (n := 0) (by decide +kernel) (by decide +kernel)) rfl) <|
  mc_1 (mk_r (Or.inl ⟨rfl, by decide +kernel, _, rfl, mf_0⟩) rfl) <| mc_0
theorem mw_234 : ∀ ch ∈ mt_234, ∀ e ∈ ch, mx_Ok mx_MT mq_234 e.1 e.2 := mc_2 mw_234_0 <| mc_2 mw_234_1 <| mc_2 mw_234_2 <| mc_3
/- 235 LeagueOfficeModel.played(II)I -/
theorem mw_235_0 : ∀ e ∈ mt_235_0, mx_Ok mx_MT mq_235 e.1 e.2 := 
  mc_1 (mk_p (ms_aload_n (k := 0) (by decide +kernel) rfl) rfl) <|
  mc_1 (mk_p (ms_iload_n (k := 1) (by decide +kernel) rfl) rfl) <|
  mc_1 (mk_c (k := mq_222) rfl ⟨mo_222, 391, 1791, none, ml_m_LeagueOfficeModel_391, Or.inr (Or.inr (Or.inl ⟨12, TX12, 78, by decide, rfl, rfl, (by decide +kernel), ⟨1, rfl, mx_npd (by decide +kernel)⟩, ml_in_1793, ml_se_59⟩))⟩) <|
  mc_1 (mk_p (ms_if_eq (off := (11)) (by decide +kernel) (by decide)) rfl) <|
  mc_1 (mk_p (ms_aload_n (k := 0) (by decide +kernel) rfl) rfl) <|
  mc_1 (mk_p (ms_iload_n (k := 2) (by decide +kernel) rfl) rfl) <|
  mc_1 (mk_c (k := mq_170) rfl ⟨mo_170, 52, 1348, none, ml_m_LeagueOfficeModel_52, Or.inr (Or.inr (Or.inl ⟨12, TX12, 78, by decide, rfl, rfl, (by decide +kernel), ⟨1, rfl, mx_npd (by decide +kernel)⟩, ml_in_1350, ml_se_31⟩))⟩) <|
  mc_1 (mk_p (ms_if_ne (off := (6)) (by decide +kernel) (by decide)) rfl) <| mc_0
theorem mw_235_1 : ∀ e ∈ mt_235_1, mx_Ok mx_MT mq_235 e.1 e.2 := 
  mc_1 (mk_p (ms_bipush (n := (-2)) (by decide +kernel) (by decide +kernel)) rfl) <|
  mc_1 (mk_r (Or.inl ⟨rfl, by decide +kernel, _, rfl, mf_0⟩) rfl) <|
  mc_1 (mk_p (ms_iconst (n := 0) (by decide +kernel) (by decide +kernel)) rfl) <|
  mc_1 (mk_p (ms_istore_n (k := 3) (by decide +kernel) rfl (by decide)) rfl) <|
  mc_1 (mk_p (ms_iload_n (k := 3) (by decide +kernel) rfl) rfl) <|
  mc_1 (mk_p (ms_aload_n (k := 0) (by decide +kernel) rfl) rfl) <|
  mc_1 (mk_p (ms_get (idx := 416) (w := 1502) (host := none) mx_c12 (by decide) ml_f_LeagueOfficeModel_416 (by decide +kernel)) rfl) <|
  mc_1 (mk_p (ms_icmp_ge (off := (32)) (by decide +kernel) (by decide)) rfl) <|
  mc_1 (mk_p (ms_aload_n (k := 0) (by decide +kernel) rfl) rfl) <|
  mc_1 (mk_p (ms_get (idx := 158) (w := 1503) (host := none) mx_c12 (by decide) ml_f_LeagueOfficeModel_158 (by decide +kernel)) rfl) <| mc_0
theorem mw_235_2 : ∀ e ∈ mt_235_2, mx_Ok mx_MT mq_235 e.1 e.2 := 
  mc_1 (mk_p (ms_iload_n (k := 3) (by decide +kernel) rfl) rfl) <|
  mc_1 (mk_p (ms_ald (Or.inl ⟨rfl, by decide +kernel⟩)) rfl) <|
  mc_1 (mk_p (ms_iload_n (k := 1) (by decide +kernel) rfl) rfl) <|
  mc_1 (mk_p (ms_icmp_ne (off := (16)) (by decide +kernel) (by decide)) rfl) <|
  mc_1 (mk_p (ms_aload_n (k := 0) (by decide +kernel) rfl) rfl) <|
  mc_1 (mk_p (ms_get (idx := 161) (w := 1504) (host := none) mx_c12 (by decide) ml_f_LeagueOfficeModel_161 (by decide +kernel)) rfl) <|
  mc_1 (mk_p (ms_iload_n (k := 3) (by decide +kernel) rfl) rfl) <|
  mc_1 (mk_p (ms_ald (Or.inl ⟨rfl, by decide +kernel⟩)) rfl) <|
  mc_1 (mk_p (ms_iload_n (k := 2) (by decide +kernel) rfl) rfl) <|
  mc_1 (mk_p (ms_icmp_ne (off := (6)) (by decide +kernel) (by decide)) rfl) <| mc_0
theorem mw_235_3 : ∀ e ∈ mt_235_3, mx_Ok mx_MT mq_235 e.1 e.2 := 
  mc_1 (mk_p (ms_bipush (n := (-3)) (by decide +kernel) (by decide +kernel)) rfl) <|
  mc_1 (mk_r (Or.inl ⟨rfl, by decide +kernel, _, rfl, mf_0⟩) rfl) <|
  mc_1 (mk_p (ms_iinc (n := (1)) (by decide +kernel) (by decide +kernel) (by decide)) rfl) <|
  mc_1 (mk_p (ms_goto (off := (-34)) (by decide +kernel) (by decide)) rfl) <|
  mc_1 (mk_p (ms_aload_n (k := 0) (by decide +kernel) rfl) rfl) <|
  mc_1 (mk_p (ms_get (idx := 416) (w := 1502) (host := none) mx_c12 (by decide) ml_f_LeagueOfficeModel_416 (by decide +kernel)) rfl) <|
  mc_1 (mk_p (ms_bipush (n := 60) (by decide +kernel) (by decide +kernel)) rfl) <| mc_0
theorem mw_235_4 : ∀ e ∈ mt_235_4, mx_Ok mx_MT mq_235 e.1 e.2 := 
  mc_1 (mk_p (ms_icmp_ne (off := (6)) (by decide +kernel) (by decide)) rfl) <|
  mc_1 (mk_p (ms_bipush (n := (-4)) (by decide +kernel) (by decide +kernel)) rfl) <|
  mc_1 (mk_r (Or.inl ⟨rfl, by decide +kernel, _, rfl, mf_0⟩) rfl) <|
  mc_1 (mk_p (ms_aload_n (k := 0) (by decide +kernel) rfl) rfl) <|
  mc_1 (mk_p (ms_get (idx := 158) (w := 1503) (host := none) mx_c12 (by decide) ml_f_LeagueOfficeModel_158 (by decide +kernel)) rfl) <|
  mc_1 (mk_p (ms_aload_n (k := 0) (by decide +kernel) rfl) rfl) <|
  mc_1 (mk_p (ms_get (idx := 416) (w := 1502) (host := none) mx_c12 (by decide) ml_f_LeagueOfficeModel_416 (by decide +kernel)) rfl) <|
  mc_1 (mk_p (ms_iload_n (k := 1) (by decide +kernel) rfl) rfl) <|
  mc_1 (mk_p (ms_ast (Or.inl ⟨rfl, by decide +kernel⟩)) rfl) <| mc_0
theorem mw_235_5 : ∀ e ∈ mt_235_5, mx_Ok mx_MT mq_235 e.1 e.2 := 
  mc_1 (mk_p (ms_aload_n (k := 0) (by decide +kernel) rfl) rfl) <|
  mc_1 (mk_p (ms_get (idx := 161) (w := 1504) (host := none) mx_c12 (by decide) ml_f_LeagueOfficeModel_161 (by decide +kernel)) rfl) <|
  mc_1 (mk_p (ms_aload_n (k := 0) (by decide +kernel) rfl) rfl) <|
  mc_1 (mk_p (ms_get (idx := 416) (w := 1502) (host := none) mx_c12 (by decide) ml_f_LeagueOfficeModel_416 (by decide +kernel)) rfl) <|
  mc_1 (mk_p (ms_iload_n (k := 2) (by decide +kernel) rfl) rfl) <|
  mc_1 (mk_p (ms_ast (Or.inl ⟨rfl, by decide +kernel⟩)) rfl) <|
  mc_1 (mk_p (ms_aload_n (k := 0) (by decide +kernel) rfl) rfl) <|
  mc_1 (mk_p (ms_dup (by decide +kernel)) rfl) <|
  mc_1 (mk_p (ms_get (idx := 416) (w := 1502) (host := none) mx_c12 (by decide) ml_f_LeagueOfficeModel_416 (by decide +kernel)) rfl) <|
  mc_1 (mk_p (ms_iconst (n := 1) (by decide +kernel) (by decide +kernel)) rfl) <| mc_0
theorem mw_235_6 : ∀ e ∈ mt_235_6, mx_Ok mx_MT mq_235 e.1 e.2 := 
  mc_1 (mk_p (ms_iadd (by decide +kernel)) rfl) <|
  mc_1 (mk_p (ms_put (idx := 416) (w := 1502) (host := none) mx_c12 (by decide) ml_f_LeagueOfficeModel_416 rfl rfl (by decide +kernel)) rfl) <|
  mc_1 (mk_p (ms_aload_n (k := 0) (by decide +kernel) rfl) rfl) <|
  mc_1 (mk_p (ms_get (idx := 416) (w := 1502) (host := none) mx_c12 (by decide) ml_f_LeagueOfficeModel_416 (by decide +kernel)) rfl) <|
  mc_1 (mk_r (Or.inl ⟨rfl, by decide +kernel, _, rfl, mf_0⟩) rfl) <| mc_0
theorem mw_235 : ∀ ch ∈ mt_235, ∀ e ∈ ch, mx_Ok mx_MT mq_235 e.1 e.2 := mc_2 mw_235_0 <| mc_2 mw_235_1 <| mc_2 mw_235_2 <| mc_2 mw_235_3 <| mc_2 mw_235_4 <| mc_2 mw_235_5 <| mc_2 mw_235_6 <| mc_3
/- 236 LeagueOfficeModel.isWrong(I)Z -/
theorem mw_236_0 : ∀ e ∈ mt_236_0, mx_Ok mx_MT mq_236 e.1 e.2 := 
  mc_1 (mk_p (ms_iconst (n := 0) (by decide +kernel) (by decide +kernel)) rfl) <|
  mc_1 (mk_p (ms_istore_n (k := 2) (by decide +kernel) rfl (by decide)) rfl) <|
  mc_1 (mk_p (ms_iload_n (k := 2) (by decide +kernel) rfl) rfl) <|
  mc_1 (mk_p (ms_aload_n (k := 0) (by decide +kernel) rfl) rfl) <|
  mc_1 (mk_p (ms_get (idx := 416) (w := 1502) (host := none) mx_c12 (by decide) ml_f_LeagueOfficeModel_416 (by decide +kernel)) rfl) <|
  mc_1 (mk_p (ms_icmp_ge (off := (35)) (by decide +kernel) (by decide)) rfl) <|
  mc_1 (mk_p (ms_aload_n (k := 0) (by decide +kernel) rfl) rfl) <|
  mc_1 (mk_p (ms_get (idx := 161) (w := 1504) (host := none) mx_c12 (by decide) ml_f_LeagueOfficeModel_161 (by decide +kernel)) rfl) <|
  mc_1 (mk_p (ms_iload_n (k := 2) (by decide +kernel) rfl) rfl) <|
  mc_1 (mk_p (ms_ald (Or.inl ⟨rfl, by decide +kernel⟩)) rfl) <| mc_0
theorem mw_236_1 : ∀ e ∈ mt_236_1, mx_Ok mx_MT mq_236 e.1 e.2 := 
  mc_1 (mk_p (ms_iload_n (k := 1) (by decide +kernel) rfl) rfl) <|
  mc_1 (mk_p (ms_icmp_ne (off := (19)) (by decide +kernel) (by decide)) rfl) <|
  mc_1 (mk_p (ms_aload_n (k := 0) (by decide +kernel) rfl) rfl) <|
  mc_1 (mk_p (ms_aload_n (k := 0) (by decide +kernel) rfl) rfl) <|
  mc_1 (mk_p (ms_get (idx := 158) (w := 1503) (host := none) mx_c12 (by decide) ml_f_LeagueOfficeModel_158 (by decide +kernel)) rfl) <|
  mc_1 (mk_p (ms_iload_n (k := 2) (by decide +kernel) rfl) rfl) <|
  mc_1 (mk_p (ms_ald (Or.inl ⟨rfl, by decide +kernel⟩)) rfl) <|
  mc_1 (mk_p (ms_iload_n (k := 1) (by decide +kernel) rfl) rfl) <|
  mc_1 (mk_c (k := mq_233) rfl ⟨mo_233, 413, 1831, none, ml_m_LeagueOfficeModel_413, Or.inr (Or.inr (Or.inl ⟨12, TX12, 78, by decide, rfl, rfl, (by decide +kernel), ⟨2, rfl, mx_npd (by decide +kernel)⟩, ml_in_1833, ml_se_64⟩))⟩) <|
  mc_1 (mk_p (ms_if_ne (off := (5)) (by decide +kernel) (by decide)) rfl) <| mc_0
theorem mw_236_2 : ∀ e ∈ mt_236_2, mx_Ok mx_MT mq_236 e.1 e.2 := 
  mc_1 (mk_p (ms_iconst (n := 1) (by decide +kernel) (by decide +kernel)) rfl) <|
  mc_1 (mk_r (Or.inl ⟨rfl, by decide +kernel, _, rfl, mf_2⟩) rfl) <|
  mc_1 (mk_p (ms_iinc (n := (1)) (by decide +kernel) (by decide +kernel) (by decide)) rfl) <|
  mc_1 (mk_p (ms_goto (off := (-37)) (by decide +kernel) (by decide)) rfl) <|
  mc_1 (mk_p (ms_iconst (n := 0) (by decide +kernel) (by decide +kernel)) rfl) <|
  mc_1 (mk_r (Or.inl ⟨rfl, by decide +kernel, _, rfl, mf_2⟩) rfl) <| mc_0
theorem mw_236 : ∀ ch ∈ mt_236, ∀ e ∈ ch, mx_Ok mx_MT mq_236 e.1 e.2 := mc_2 mw_236_0 <| mc_2 mw_236_1 <| mc_2 mw_236_2 <| mc_3
/- 237 LeagueOfficeModel.wrong(I)I -/
theorem mw_237_0 : ∀ e ∈ mt_237_0, mx_Ok mx_MT mq_237 e.1 e.2 := 
  mc_1 (mk_p (ms_iconst (n := 0) (by decide +kernel) (by decide +kernel)) rfl) <|
  mc_1 (mk_p (ms_istore_n (k := 2) (by decide +kernel) rfl (by decide)) rfl) <|
  mc_1 (mk_p (ms_iconst (n := 0) (by decide +kernel) (by decide +kernel)) rfl) <|
  mc_1 (mk_p (ms_istore_n (k := 3) (by decide +kernel) rfl (by decide)) rfl) <|
  mc_1 (mk_p (ms_iload_n (k := 3) (by decide +kernel) rfl) rfl) <|
  mc_1 (mk_p (ms_aload_n (k := 0) (by decide +kernel) rfl) rfl) <|
  mc_1 (mk_p (ms_get (idx := 31) (w := 1457) (host := none) mx_c12 (by decide) ml_f_LeagueOfficeModel_31 (by decide +kernel)) rfl) <|
  mc_1 (mk_p (ms_icmp_ge (off := (30)) (by decide +kernel) (by decide)) rfl) <|
  mc_1 (mk_p (ms_aload_n (k := 0) (by decide +kernel) rfl) rfl) <|
  mc_1 (mk_p (ms_iload_n (k := 3) (by decide +kernel) rfl) rfl) <|
  mc_1 (mk_c (k := mq_236) rfl ⟨mo_236, 419, 1843, none, ml_m_LeagueOfficeModel_419, Or.inr (Or.inr (Or.inl ⟨12, TX12, 78, by decide, rfl, rfl, (by decide +kernel), ⟨1, rfl, mx_npd (by decide +kernel)⟩, ml_in_1845, ml_se_65⟩))⟩) <| mc_0
theorem mw_237_1 : ∀ e ∈ mt_237_1, mx_Ok mx_MT mq_237 e.1 e.2 := 
  mc_1 (mk_p (ms_if_ne (off := (6)) (by decide +kernel) (by decide)) rfl) <|
  mc_1 (mk_p (ms_goto (off := (13)) (by decide +kernel) (by decide)) rfl) <|
  mc_1 (mk_p (ms_iload_n (k := 2) (by decide +kernel) rfl) rfl) <|
  mc_1 (mk_p (ms_iload_n (k := 1) (by decide +kernel) rfl) rfl) <|
  mc_1 (mk_p (ms_icmp_ne (off := (5)) (by decide +kernel) (by decide)) rfl) <|
  mc_1 (mk_p (ms_iload_n (k := 3) (by decide +kernel) rfl) rfl) <|
  mc_1 (mk_r (Or.inl ⟨rfl, by decide +kernel, _, rfl, mf_0⟩) rfl) <|
  mc_1 (mk_p (ms_iinc (n := (1)) (by decide +kernel) (by decide +kernel) (by decide)) rfl) <| mc_0
theorem mw_237_2 : ∀ e ∈ mt_237_2, mx_Ok mx_MT mq_237 e.1 e.2 := 
  mc_1 (mk_p (ms_iinc (n := (1)) (by decide +kernel) (by decide +kernel) (by decide)) rfl) <|
  mc_1 (mk_p (ms_goto (off := (-32)) (by decide +kernel) (by decide)) rfl) <|
  mc_1 (mk_p (ms_iload_n (k := 1) (by decide +kernel) rfl) rfl) <|
  mc_1 (mk_p (ms_iconst (n := (-1)) (by decide +kernel) (by decide +kernel)) rfl) <|
  mc_1 (mk_p (ms_icmp_ne (off := (7)) (by decide +kernel) (by decide)) rfl) <|
  mc_1 (mk_p (ms_iload_n (k := 2) (by decide +kernel) rfl) rfl) <|
  mc_1 (mk_p (ms_goto (off := (4)) (by decide +kernel) (by decide)) rfl) <| mc_0
theorem mw_237_3 : ∀ e ∈ mt_237_3, mx_Ok mx_MT mq_237 e.1 e.2 := 
  mc_1 (mk_p (ms_iconst (n := (-1)) (by decide +kernel) (by decide +kernel)) rfl) <|
  mc_1 (mk_r (Or.inl ⟨rfl, by decide +kernel, _, rfl, mf_0⟩) rfl) <| mc_0
theorem mw_237 : ∀ ch ∈ mt_237, ∀ e ∈ ch, mx_Ok mx_MT mq_237 e.1 e.2 := mc_2 mw_237_0 <| mc_2 mw_237_1 <| mc_2 mw_237_2 <| mc_2 mw_237_3 <| mc_3
/- 238 LeagueOfficeModel.change(IIIII)V -/
theorem mw_238_0 : ∀ e ∈ mt_238_0, mx_Ok mx_MT mq_238 e.1 e.2 := 
  mc_1 (mk_p (ms_bipush (n := 60) (by decide +kernel) (by decide +kernel)) rfl) <|
  mc_1 (mk_p (ms_iload_n (k := 1) (by decide +kernel) rfl) rfl) <|
  mc_1 (mk_p (ms_imul (by decide +kernel)) rfl) <|
  mc_1 (mk_p (ms_iload_n (k := 2) (by decide +kernel) rfl) rfl) <|
  mc_1 (mk_p (ms_iadd (by decide +kernel)) rfl) <|
  mc_1 (mk_p (ms_istore (by decide +kernel) (by decide)) rfl) <|
  mc_1 (mk_p (ms_aload_n (k := 0) (by decide +kernel) rfl) rfl) <|
  mc_1 (mk_p (ms_get (idx := 177) (w := 1509) (host := none) mx_c12 (by decide) ml_f_LeagueOfficeModel_177 (by decide +kernel)) rfl) <|
  mc_1 (mk_p (ms_iload (by decide +kernel)) rfl) <|
  mc_1 (mk_p (ms_iconst (n := 1) (by decide +kernel) (by decide +kernel)) rfl) <|
  mc_1 (mk_p (ms_ast (Or.inr (Or.inr ⟨rfl, by decide +kernel⟩))) rfl) <| mc_0
theorem mw_238_1 : ∀ e ∈ mt_238_1, mx_Ok mx_MT mq_238 e.1 e.2 := 
  mc_1 (mk_p (ms_aload_n (k := 0) (by decide +kernel) rfl) rfl) <|
  mc_1 (mk_p (ms_get (idx := 180) (w := 1510) (host := none) mx_c12 (by decide) ml_f_LeagueOfficeModel_180 (by decide +kernel)) rfl) <|
  mc_1 (mk_p (ms_iload (by decide +kernel)) rfl) <|
  mc_1 (mk_p (ms_aload_n (k := 0) (by decide +kernel) rfl) rfl) <|
  mc_1 (mk_p (ms_get (idx := 37) (w := 1458) (host := none) mx_c12 (by decide) ml_f_LeagueOfficeModel_37 (by decide +kernel)) rfl) <|
  mc_1 (mk_p (ms_iload_n (k := 2) (by decide +kernel) rfl) rfl) <|
  mc_1 (mk_p (ms_ald (Or.inl ⟨rfl, by decide +kernel⟩)) rfl) <|
  mc_1 (mk_p (ms_ast (Or.inl ⟨rfl, by decide +kernel⟩)) rfl) <|
  mc_1 (mk_p (ms_aload_n (k := 0) (by decide +kernel) rfl) rfl) <|
  mc_1 (mk_p (ms_get (idx := 183) (w := 1511) (host := none) mx_c12 (by decide) ml_f_LeagueOfficeModel_183 (by decide +kernel)) rfl) <| mc_0
theorem mw_238_2 : ∀ e ∈ mt_238_2, mx_Ok mx_MT mq_238 e.1 e.2 := 
  mc_1 (mk_p (ms_iload (by decide +kernel)) rfl) <|
  mc_1 (mk_p (ms_aload_n (k := 0) (by decide +kernel) rfl) rfl) <|
  mc_1 (mk_p (ms_get (idx := 40) (w := 1459) (host := none) mx_c12 (by decide) ml_f_LeagueOfficeModel_40 (by decide +kernel)) rfl) <|
  mc_1 (mk_p (ms_iload_n (k := 2) (by decide +kernel) rfl) rfl) <|
  mc_1 (mk_p (ms_ald (Or.inl ⟨rfl, by decide +kernel⟩)) rfl) <|
  mc_1 (mk_p (ms_ast (Or.inl ⟨rfl, by decide +kernel⟩)) rfl) <|
  mc_1 (mk_p (ms_aload_n (k := 0) (by decide +kernel) rfl) rfl) <|
  mc_1 (mk_p (ms_get (idx := 186) (w := 1512) (host := none) mx_c12 (by decide) ml_f_LeagueOfficeModel_186 (by decide +kernel)) rfl) <|
  mc_1 (mk_p (ms_iload (by decide +kernel)) rfl) <| mc_0
theorem mw_238_3 : ∀ e ∈ mt_238_3, mx_Ok mx_MT mq_238 e.1 e.2 := 
  mc_1 (mk_p (ms_aload_n (k := 0) (by decide +kernel) rfl) rfl) <|
  mc_1 (mk_p (ms_get (idx := 43) (w := 1460) (host := none) mx_c12 (by decide) ml_f_LeagueOfficeModel_43 (by decide +kernel)) rfl) <|
  mc_1 (mk_p (ms_iload_n (k := 2) (by decide +kernel) rfl) rfl) <|
  mc_1 (mk_p (ms_ald (Or.inl ⟨rfl, by decide +kernel⟩)) rfl) <|
  mc_1 (mk_p (ms_ast (Or.inl ⟨rfl, by decide +kernel⟩)) rfl) <|
  mc_1 (mk_p (ms_aload_n (k := 0) (by decide +kernel) rfl) rfl) <|
  mc_1 (mk_p (ms_get (idx := 189) (w := 1513) (host := none) mx_c12 (by decide) ml_f_LeagueOfficeModel_189 (by decide +kernel)) rfl) <|
  mc_1 (mk_p (ms_iload (by decide +kernel)) rfl) <|
  mc_1 (mk_p (ms_aload_n (k := 0) (by decide +kernel) rfl) rfl) <|
  mc_1 (mk_p (ms_get (idx := 49) (w := 1514) (host := none) mx_c12 (by decide) ml_f_LeagueOfficeModel_49 (by decide +kernel)) rfl) <| mc_0
theorem mw_238_4 : ∀ e ∈ mt_238_4, mx_Ok mx_MT mq_238 e.1 e.2 := 
  mc_1 (mk_p (ms_iload_n (k := 2) (by decide +kernel) rfl) rfl) <|
  mc_1 (mk_p (ms_ald (Or.inl ⟨rfl, by decide +kernel⟩)) rfl) <|
  mc_1 (mk_p (ms_ast (Or.inl ⟨rfl, by decide +kernel⟩)) rfl) <|
  mc_1 (mk_p (ms_aload_n (k := 0) (by decide +kernel) rfl) rfl) <|
  mc_1 (mk_p (ms_get (idx := 49) (w := 1514) (host := none) mx_c12 (by decide) ml_f_LeagueOfficeModel_49 (by decide +kernel)) rfl) <|
  mc_1 (mk_p (ms_iload_n (k := 2) (by decide +kernel) rfl) rfl) <|
  mc_1 (mk_p (ms_iload_n (k := 1) (by decide +kernel) rfl) rfl) <|
  mc_1 (mk_p (ms_ast (Or.inl ⟨rfl, by decide +kernel⟩)) rfl) <|
  mc_1 (mk_p (ms_aload_n (k := 0) (by decide +kernel) rfl) rfl) <|
  mc_1 (mk_p (ms_get (idx := 37) (w := 1458) (host := none) mx_c12 (by decide) ml_f_LeagueOfficeModel_37 (by decide +kernel)) rfl) <|
  mc_1 (mk_p (ms_iload_n (k := 2) (by decide +kernel) rfl) rfl) <| mc_0
theorem mw_238_5 : ∀ e ∈ mt_238_5, mx_Ok mx_MT mq_238 e.1 e.2 := 
  mc_1 (mk_p (ms_iload_n (k := 3) (by decide +kernel) rfl) rfl) <|
  mc_1 (mk_p (ms_ast (Or.inl ⟨rfl, by decide +kernel⟩)) rfl) <|
  mc_1 (mk_p (ms_aload_n (k := 0) (by decide +kernel) rfl) rfl) <|
  mc_1 (mk_p (ms_get (idx := 40) (w := 1459) (host := none) mx_c12 (by decide) ml_f_LeagueOfficeModel_40 (by decide +kernel)) rfl) <|
  mc_1 (mk_p (ms_iload_n (k := 2) (by decide +kernel) rfl) rfl) <|
  mc_1 (mk_p (ms_iload (by decide +kernel)) rfl) <|
  mc_1 (mk_p (ms_ast (Or.inl ⟨rfl, by decide +kernel⟩)) rfl) <|
  mc_1 (mk_p (ms_aload_n (k := 0) (by decide +kernel) rfl) rfl) <|
  mc_1 (mk_p (ms_get (idx := 43) (w := 1460) (host := none) mx_c12 (by decide) ml_f_LeagueOfficeModel_43 (by decide +kernel)) rfl) <|
  mc_1 (mk_p (ms_iload_n (k := 2) (by decide +kernel) rfl) rfl) <|
  mc_1 (mk_p (ms_iload (by decide +kernel)) rfl) <| mc_0
theorem mw_238_6 : ∀ e ∈ mt_238_6, mx_Ok mx_MT mq_238 e.1 e.2 := 
  mc_1 (mk_p (ms_ast (Or.inl ⟨rfl, by decide +kernel⟩)) rfl) <|
  mc_1 (mk_r (Or.inr (Or.inr (Or.inr ⟨rfl, by decide +kernel, rfl⟩))) rfl) <| mc_0
theorem mw_238 : ∀ ch ∈ mt_238, ∀ e ∈ ch, mx_Ok mx_MT mq_238 e.1 e.2 := mc_2 mw_238_0 <| mc_2 mw_238_1 <| mc_2 mw_238_2 <| mc_2 mw_238_3 <| mc_2 mw_238_4 <| mc_2 mw_238_5 <| mc_2 mw_238_6 <| mc_3
/- 239 LeagueOfficeModel.fail(I)I -/
theorem mw_239_0 : ∀ e ∈ mt_239_0, mx_Ok mx_MT mq_239 e.1 e.2 := 
  mc_1 (mk_p (ms_aload_n (k := 0) (by decide +kernel) rfl) rfl) <|
  mc_1 (mk_p (ms_iload_n (k := 1) (by decide +kernel) rfl) rfl) <|
  mc_1 (mk_c (k := mq_166) rfl ⟨mo_166, 28, 1332, none, ml_m_LeagueOfficeModel_28, Or.inr (Or.inr (Or.inl ⟨12, TX12, 78, by decide, rfl, rfl, (by decide +kernel), ⟨1, rfl, mx_npd (by decide +kernel)⟩, ml_in_1334, ml_se_30⟩))⟩) <|
  mc_1 (mk_p (ms_if_ne (off := (6)) (by decide +kernel) (by decide)) rfl) <|
  mc_1 (mk_p (ms_bipush (n := (-2)) (by decide +kernel) (by decide +kernel)) rfl) <|
  mc_1 (mk_r (Or.inl ⟨rfl, by decide +kernel, _, rfl, mf_0⟩) rfl) <|
  mc_1 (mk_p (ms_aload_n (k := 0) (by decide +kernel) rfl) rfl) <|
  mc_1 (mk_p (ms_get (idx := 174) (w := 1508) (host := none) mx_c12 (by decide) ml_f_LeagueOfficeModel_174 (by decide +kernel)) rfl) <|
  mc_1 (mk_p (ms_iload_n (k := 1) (by decide +kernel) rfl) rfl) <| mc_0
theorem mw_239_1 : ∀ e ∈ mt_239_1, mx_Ok mx_MT mq_239 e.1 e.2 := 
  mc_1 (mk_p (ms_ald (Or.inr (Or.inr (Or.inl ⟨rfl, by decide +kernel⟩)))) rfl) <|
  mc_1 (mk_p (ms_if_eq (off := (6)) (by decide +kernel) (by decide)) rfl) <|
  mc_1 (mk_p (ms_bipush (n := (-3)) (by decide +kernel) (by decide +kernel)) rfl) <|
  mc_1 (mk_r (Or.inl ⟨rfl, by decide +kernel, _, rfl, mf_0⟩) rfl) <|
  mc_1 (mk_p (ms_iconst (n := 0) (by decide +kernel) (by decide +kernel)) rfl) <|
  mc_1 (mk_p (ms_istore_n (k := 2) (by decide +kernel) rfl (by decide)) rfl) <|
  mc_1 (mk_p (ms_iconst (n := 0) (by decide +kernel) (by decide +kernel)) rfl) <|
  mc_1 (mk_p (ms_istore_n (k := 3) (by decide +kernel) rfl (by decide)) rfl) <|
  mc_1 (mk_p (ms_iconst (n := 0) (by decide +kernel) (by decide +kernel)) rfl) <|
  mc_1 (mk_p (ms_istore (by decide +kernel) (by decide)) rfl) <|
  mc_1 (mk_p (ms_iload (by decide +kernel)) rfl) <| mc_0
theorem mw_239_2 : ∀ e ∈ mt_239_2, mx_Ok mx_MT mq_239 e.1 e.2 := 
  mc_1 (mk_p (ms_aload_n (k := 0) (by decide +kernel) rfl) rfl) <|
  mc_1 (mk_p (ms_get (idx := 31) (w := 1457) (host := none) mx_c12 (by decide) ml_f_LeagueOfficeModel_31 (by decide +kernel)) rfl) <|
  mc_1 (mk_p (ms_icmp_ge (off := (72)) (by decide +kernel) (by decide)) rfl) <|
  mc_1 (mk_p (ms_aload_n (k := 0) (by decide +kernel) rfl) rfl) <|
  mc_1 (mk_p (ms_get (idx := 177) (w := 1509) (host := none) mx_c12 (by decide) ml_f_LeagueOfficeModel_177 (by decide +kernel)) rfl) <|
  mc_1 (mk_p (ms_bipush (n := 60) (by decide +kernel) (by decide +kernel)) rfl) <|
  mc_1 (mk_p (ms_iload_n (k := 1) (by decide +kernel) rfl) rfl) <|
  mc_1 (mk_p (ms_imul (by decide +kernel)) rfl) <|
  mc_1 (mk_p (ms_iload (by decide +kernel)) rfl) <| mc_0
theorem mw_239_3 : ∀ e ∈ mt_239_3, mx_Ok mx_MT mq_239 e.1 e.2 := 
  mc_1 (mk_p (ms_iadd (by decide +kernel)) rfl) <|
  mc_1 (mk_p (ms_iconst (n := 0) (by decide +kernel) (by decide +kernel)) rfl) <|
  mc_1 (mk_p (ms_ast (Or.inr (Or.inr ⟨rfl, by decide +kernel⟩))) rfl) <|
  mc_1 (mk_p (ms_aload_n (k := 0) (by decide +kernel) rfl) rfl) <|
  mc_1 (mk_p (ms_iload_n (k := 1) (by decide +kernel) rfl) rfl) <|
  mc_1 (mk_p (ms_iload (by decide +kernel)) rfl) <|
  mc_1 (mk_c (k := mq_208) rfl ⟨mo_208, 353, 1720, none, ml_m_LeagueOfficeModel_353, Or.inr (Or.inr (Or.inl ⟨12, TX12, 78, by decide, rfl, rfl, (by decide +kernel), ⟨2, rfl, mx_npd (by decide +kernel)⟩, ml_in_1722, ml_se_48⟩))⟩) <|
  mc_1 (mk_p (ms_if_eq (off := (43)) (by decide +kernel) (by decide)) rfl) <|
  mc_1 (mk_p (ms_aload_n (k := 0) (by decide +kernel) rfl) rfl) <|
  mc_1 (mk_p (ms_get (idx := 37) (w := 1458) (host := none) mx_c12 (by decide) ml_f_LeagueOfficeModel_37 (by decide +kernel)) rfl) <| mc_0
theorem mw_239_4 : ∀ e ∈ mt_239_4, mx_Ok mx_MT mq_239 e.1 e.2 := 
  mc_1 (mk_p (ms_iload (by decide +kernel)) rfl) <|
  mc_1 (mk_p (ms_ald (Or.inl ⟨rfl, by decide +kernel⟩)) rfl) <|
  mc_1 (mk_c (k := mq_172) rfl ⟨mo_172, 55, 1352, none, ml_m_LeagueOfficeModel_55, Or.inl ⟨rfl, (by decide +kernel), mx_npd (by decide +kernel), ml_st_1353⟩⟩) <|
  mc_1 (mk_p (ms_if_ne (off := (6)) (by decide +kernel) (by decide)) rfl) <|
  mc_1 (mk_p (ms_goto (off := (27)) (by decide +kernel) (by decide)) rfl) <|
  mc_1 (mk_p (ms_iinc (n := (1)) (by decide +kernel) (by decide +kernel) (by decide)) rfl) <| mc_0
theorem mw_239_5 : ∀ e ∈ mt_239_5, mx_Ok mx_MT mq_239 e.1 e.2 := 
  mc_1 (mk_p (ms_iload_n (k := 3) (by decide +kernel) rfl) rfl) <|
  mc_1 (mk_p (ms_aload_n (k := 0) (by decide +kernel) rfl) rfl) <|
  mc_1 (mk_p (ms_iload (by decide +kernel)) rfl) <|
  mc_1 (mk_p (ms_aload_n (k := 0) (by decide +kernel) rfl) rfl) <|
  mc_1 (mk_p (ms_get (idx := 11) (w := 1453) (host := none) mx_c12 (by decide) ml_f_LeagueOfficeModel_11 (by decide +kernel)) rfl) <|
  mc_1 (mk_c (k := mq_179) rfl ⟨mo_179, 80, 1372, none, ml_m_LeagueOfficeModel_80, Or.inr (Or.inr (Or.inl ⟨12, TX12, 78, by decide, rfl, rfl, (by decide +kernel), ⟨2, rfl, mx_npd (by decide +kernel)⟩, ml_in_1374, ml_se_32⟩))⟩) <|
  mc_1 (mk_p (ms_if_lt (off := (7)) (by decide +kernel) (by decide)) rfl) <|
  mc_1 (mk_p (ms_iconst (n := 1) (by decide +kernel) (by decide +kernel)) rfl) <| mc_0
theorem mw_239_6 : ∀ e ∈ mt_239_6, mx_Ok mx_MT mq_239 e.1 e.2 := 
  mc_1 (mk_p (ms_goto (off := (4)) (by decide +kernel) (by decide)) rfl) <|
  mc_1 (mk_p (ms_iconst (n := 0) (by decide +kernel) (by decide +kernel)) rfl) <|
  mc_1 (mk_p (ms_iadd (by decide +kernel)) rfl) <|
  mc_1 (mk_p (ms_istore_n (k := 3) (by decide +kernel) rfl (by decide)) rfl) <|
  mc_1 (mk_p (ms_iinc (n := (1)) (by decide +kernel) (by decide +kernel) (by decide)) rfl) <|
  mc_1 (mk_p (ms_goto (off := (-75)) (by decide +kernel) (by decide)) rfl) <|
  mc_1 (mk_p (ms_aload_n (k := 0) (by decide +kernel) rfl) rfl) <|
  mc_1 (mk_p (ms_get (idx := 174) (w := 1508) (host := none) mx_c12 (by decide) ml_f_LeagueOfficeModel_174 (by decide +kernel)) rfl) <| mc_0
theorem mw_239_7 : ∀ e ∈ mt_239_7, mx_Ok mx_MT mq_239 e.1 e.2 := 
  mc_1 (mk_p (ms_iload_n (k := 1) (by decide +kernel) rfl) rfl) <|
  mc_1 (mk_p (ms_iconst (n := 1) (by decide +kernel) (by decide +kernel)) rfl) <|
  mc_1 (mk_p (ms_ast (Or.inr (Or.inr ⟨rfl, by decide +kernel⟩))) rfl) <|
  mc_1 (mk_p (ms_iconst (n := 0) (by decide +kernel) (by decide +kernel)) rfl) <|
  mc_1 (mk_p (ms_istore (by decide +kernel) (by decide)) rfl) <|
  mc_1 (mk_p (ms_iconst (n := 0) (by decide +kernel) (by decide +kernel)) rfl) <|
  mc_1 (mk_p (ms_istore (by decide +kernel) (by decide)) rfl) <|
  mc_1 (mk_p (ms_iload (by decide +kernel)) rfl) <|
  mc_1 (mk_p (ms_aload_n (k := 0) (by decide +kernel) rfl) rfl) <|
  mc_1 (mk_p (ms_get (idx := 31) (w := 1457) (host := none) mx_c12 (by decide) ml_f_LeagueOfficeModel_31 (by decide +kernel)) rfl) <|
  mc_1 (mk_p (ms_icmp_ge (off := (142)) (by decide +kernel) (by decide)) rfl) <| mc_0
theorem mw_239_8 : ∀ e ∈ mt_239_8, mx_Ok mx_MT mq_239 e.1 e.2 := 
  mc_1 (mk_p (ms_aload_n (k := 0) (by decide +kernel) rfl) rfl) <|
  mc_1 (mk_p (ms_iload_n (k := 1) (by decide +kernel) rfl) rfl) <|
  mc_1 (mk_p (ms_iload (by decide +kernel)) rfl) <|
  mc_1 (mk_c (k := mq_208) rfl ⟨mo_208, 353, 1720, none, ml_m_LeagueOfficeModel_353, Or.inr (Or.inr (Or.inl ⟨12, TX12, 78, by decide, rfl, rfl, (by decide +kernel), ⟨2, rfl, mx_npd (by decide +kernel)⟩, ml_in_1722, ml_se_48⟩))⟩) <|
  mc_1 (mk_p (ms_if_eq (off := (126)) (by decide +kernel) (by decide)) rfl) <|
  mc_1 (mk_p (ms_aload_n (k := 0) (by decide +kernel) rfl) rfl) <|
  mc_1 (mk_p (ms_get (idx := 37) (w := 1458) (host := none) mx_c12 (by decide) ml_f_LeagueOfficeModel_37 (by decide +kernel)) rfl) <| mc_0
theorem mw_239_9 : ∀ e ∈ mt_239_9, mx_Ok mx_MT mq_239 e.1 e.2 := 
  mc_1 (mk_p (ms_iload (by decide +kernel)) rfl) <|
  mc_1 (mk_p (ms_ald (Or.inl ⟨rfl, by decide +kernel⟩)) rfl) <|
  mc_1 (mk_c (k := mq_172) rfl ⟨mo_172, 55, 1352, none, ml_m_LeagueOfficeModel_55, Or.inl ⟨rfl, (by decide +kernel), mx_npd (by decide +kernel), ml_st_1353⟩⟩) <|
  mc_1 (mk_p (ms_if_ne (off := (6)) (by decide +kernel) (by decide)) rfl) <|
  mc_1 (mk_p (ms_goto (off := (110)) (by decide +kernel) (by decide)) rfl) <|
  mc_1 (mk_p (ms_iconst (n := 2) (by decide +kernel) (by decide +kernel)) rfl) <|
  mc_1 (mk_p (ms_iload_n (k := 3) (by decide +kernel) rfl) rfl) <|
  mc_1 (mk_p (ms_imul (by decide +kernel)) rfl) <|
  mc_1 (mk_p (ms_iload_n (k := 2) (by decide +kernel) rfl) rfl) <| mc_0
theorem mw_239_10 : ∀ e ∈ mt_239_10, mx_Ok mx_MT mq_239 e.1 e.2 := 
  mc_1 (mk_p (ms_icmp_ge (off := (28)) (by decide +kernel) (by decide)) rfl) <|
  mc_1 (mk_p (ms_aload_n (k := 0) (by decide +kernel) rfl) rfl) <|
  mc_1 (mk_p (ms_iload_n (k := 1) (by decide +kernel) rfl) rfl) <|
  mc_1 (mk_p (ms_iload (by decide +kernel)) rfl) <|
  mc_1 (mk_p (ms_iconst (n := 5) (by decide +kernel) (by decide +kernel)) rfl) <|
  mc_1 (mk_p (ms_aload_n (k := 0) (by decide +kernel) rfl) rfl) <|
  mc_1 (mk_p (ms_get (idx := 40) (w := 1459) (host := none) mx_c12 (by decide) ml_f_LeagueOfficeModel_40 (by decide +kernel)) rfl) <|
  mc_1 (mk_p (ms_iload (by decide +kernel)) rfl) <|
  mc_1 (mk_p (ms_ald (Or.inl ⟨rfl, by decide +kernel⟩)) rfl) <|
  mc_1 (mk_p (ms_aload_n (k := 0) (by decide +kernel) rfl) rfl) <| mc_0
theorem mw_239_11 : ∀ e ∈ mt_239_11, mx_Ok mx_MT mq_239 e.1 e.2 := 
  mc_1 (mk_p (ms_get (idx := 43) (w := 1460) (host := none) mx_c12 (by decide) ml_f_LeagueOfficeModel_43 (by decide +kernel)) rfl) <|
  mc_1 (mk_p (ms_iload (by decide +kernel)) rfl) <|
  mc_1 (mk_p (ms_ald (Or.inl ⟨rfl, by decide +kernel⟩)) rfl) <|
  mc_1 (mk_c (k := mq_238) rfl ⟨mo_238, 422, 1851, none, ml_m_LeagueOfficeModel_422, Or.inr (Or.inr (Or.inl ⟨12, TX12, 78, by decide, rfl, rfl, (by decide +kernel), ⟨5, rfl, mx_npd (by decide +kernel)⟩, ml_in_1853, ml_se_66⟩))⟩) <|
  mc_1 (mk_p (ms_goto (off := (53)) (by decide +kernel) (by decide)) rfl) <|
  mc_1 (mk_p (ms_aload_n (k := 0) (by decide +kernel) rfl) rfl) <|
  mc_1 (mk_p (ms_iload (by decide +kernel)) rfl) <|
  mc_1 (mk_p (ms_aload_n (k := 0) (by decide +kernel) rfl) rfl) <| mc_0
theorem mw_239_12 : ∀ e ∈ mt_239_12, mx_Ok mx_MT mq_239 e.1 e.2 := 
  mc_1 (mk_p (ms_get (idx := 11) (w := 1453) (host := none) mx_c12 (by decide) ml_f_LeagueOfficeModel_11 (by decide +kernel)) rfl) <|
  mc_1 (mk_c (k := mq_179) rfl ⟨mo_179, 80, 1372, none, ml_m_LeagueOfficeModel_80, Or.inr (Or.inr (Or.inl ⟨12, TX12, 78, by decide, rfl, rfl, (by decide +kernel), ⟨2, rfl, mx_npd (by decide +kernel)⟩, ml_in_1374, ml_se_32⟩))⟩) <|
  mc_1 (mk_p (ms_if_ge (off := (40)) (by decide +kernel) (by decide)) rfl) <|
  mc_1 (mk_p (ms_aload_n (k := 0) (by decide +kernel) rfl) rfl) <|
  mc_1 (mk_p (ms_iload_n (k := 1) (by decide +kernel) rfl) rfl) <|
  mc_1 (mk_p (ms_iload (by decide +kernel)) rfl) <|
  mc_1 (mk_p (ms_iconst (n := 3) (by decide +kernel) (by decide +kernel)) rfl) <|
  mc_1 (mk_p (ms_aload_n (k := 0) (by decide +kernel) rfl) rfl) <|
  mc_1 (mk_p (ms_get (idx := 40) (w := 1459) (host := none) mx_c12 (by decide) ml_f_LeagueOfficeModel_40 (by decide +kernel)) rfl) <| mc_0
theorem mw_239_13 : ∀ e ∈ mt_239_13, mx_Ok mx_MT mq_239 e.1 e.2 := 
  mc_1 (mk_p (ms_iload (by decide +kernel)) rfl) <|
  mc_1 (mk_p (ms_ald (Or.inl ⟨rfl, by decide +kernel⟩)) rfl) <|
  mc_1 (mk_p (ms_iload_n (k := 1) (by decide +kernel) rfl) rfl) <|
  mc_1 (mk_p (ms_icmp_ne (off := (13)) (by decide +kernel) (by decide)) rfl) <|
  mc_1 (mk_p (ms_aload_n (k := 0) (by decide +kernel) rfl) rfl) <|
  mc_1 (mk_p (ms_get (idx := 43) (w := 1460) (host := none) mx_c12 (by decide) ml_f_LeagueOfficeModel_43 (by decide +kernel)) rfl) <|
  mc_1 (mk_p (ms_iload (by decide +kernel)) rfl) <|
  mc_1 (mk_p (ms_ald (Or.inl ⟨rfl, by decide +kernel⟩)) rfl) <| mc_0
theorem mw_239_14 : ∀ e ∈ mt_239_14, mx_Ok mx_MT mq_239 e.1 e.2 := 
  mc_1 (mk_p (ms_goto (off := (10)) (by decide +kernel) (by decide)) rfl) <|
  mc_1 (mk_p (ms_aload_n (k := 0) (by decide +kernel) rfl) rfl) <|
  mc_1 (mk_p (ms_get (idx := 40) (w := 1459) (host := none) mx_c12 (by decide) ml_f_LeagueOfficeModel_40 (by decide +kernel)) rfl) <|
  mc_1 (mk_p (ms_iload (by decide +kernel)) rfl) <|
  mc_1 (mk_p (ms_ald (Or.inl ⟨rfl, by decide +kernel⟩)) rfl) <|
  mc_1 (mk_p (ms_iload_n (k := 1) (by decide +kernel) rfl) rfl) <|
  mc_1 (mk_c (k := mq_238) rfl ⟨mo_238, 422, 1851, none, ml_m_LeagueOfficeModel_422, Or.inr (Or.inr (Or.inl ⟨12, TX12, 78, by decide, rfl, rfl, (by decide +kernel), ⟨5, rfl, mx_npd (by decide +kernel)⟩, ml_in_1853, ml_se_66⟩))⟩) <|
  mc_1 (mk_p (ms_iload (by decide +kernel)) rfl) <| mc_0
theorem mw_239_15 : ∀ e ∈ mt_239_15, mx_Ok mx_MT mq_239 e.1 e.2 := 
  mc_1 (mk_p (ms_aload_n (k := 0) (by decide +kernel) rfl) rfl) <|
  mc_1 (mk_p (ms_get (idx := 177) (w := 1509) (host := none) mx_c12 (by decide) ml_f_LeagueOfficeModel_177 (by decide +kernel)) rfl) <|
  mc_1 (mk_p (ms_bipush (n := 60) (by decide +kernel) (by decide +kernel)) rfl) <|
  mc_1 (mk_p (ms_iload_n (k := 1) (by decide +kernel) rfl) rfl) <|
  mc_1 (mk_p (ms_imul (by decide +kernel)) rfl) <|
  mc_1 (mk_p (ms_iload (by decide +kernel)) rfl) <|
  mc_1 (mk_p (ms_iadd (by decide +kernel)) rfl) <|
  mc_1 (mk_p (ms_ald (Or.inr (Or.inr (Or.inl ⟨rfl, by decide +kernel⟩)))) rfl) <|
  mc_1 (mk_p (ms_if_eq (off := (7)) (by decide +kernel) (by decide)) rfl) <|
  mc_1 (mk_p (ms_iconst (n := 1) (by decide +kernel) (by decide +kernel)) rfl) <| mc_0
theorem mw_239_16 : ∀ e ∈ mt_239_16, mx_Ok mx_MT mq_239 e.1 e.2 := 
  mc_1 (mk_p (ms_goto (off := (4)) (by decide +kernel) (by decide)) rfl) <|
  mc_1 (mk_p (ms_iconst (n := 0) (by decide +kernel) (by decide +kernel)) rfl) <|
  mc_1 (mk_p (ms_iadd (by decide +kernel)) rfl) <|
  mc_1 (mk_p (ms_istore (by decide +kernel) (by decide)) rfl) <|
  mc_1 (mk_p (ms_iinc (n := (1)) (by decide +kernel) (by decide +kernel) (by decide)) rfl) <|
  mc_1 (mk_p (ms_goto (off := (-145)) (by decide +kernel) (by decide)) rfl) <|
  mc_1 (mk_p (ms_iload (by decide +kernel)) rfl) <|
  mc_1 (mk_r (Or.inl ⟨rfl, by decide +kernel, _, rfl, mf_0⟩) rfl) <| mc_0
theorem mw_239 : ∀ ch ∈ mt_239, ∀ e ∈ ch, mx_Ok mx_MT mq_239 e.1 e.2 := mc_2 mw_239_0 <| mc_2 mw_239_1 <| mc_2 mw_239_2 <| mc_2 mw_239_3 <| mc_2 mw_239_4 <| mc_2 mw_239_5 <| mc_2 mw_239_6 <| mc_2 mw_239_7 <| mc_2 mw_239_8 <| mc_2 mw_239_9 <| mc_2 mw_239_10 <| mc_2 mw_239_11 <| mc_2 mw_239_12 <| mc_2 mw_239_13 <| mc_2 mw_239_14 <| mc_2 mw_239_15 <| mc_2 mw_239_16 <| mc_3
/- 240 LeagueOfficeModel.undo(I)I -/
theorem mw_240_0 : ∀ e ∈ mt_240_0, mx_Ok mx_MT mq_240 e.1 e.2 := 
  mc_1 (mk_p (ms_aload_n (k := 0) (by decide +kernel) rfl) rfl) <|
  mc_1 (mk_p (ms_iload_n (k := 1) (by decide +kernel) rfl) rfl) <|
  mc_1 (mk_c (k := mq_166) rfl ⟨mo_166, 28, 1332, none, ml_m_LeagueOfficeModel_28, Or.inr (Or.inr (Or.inl ⟨12, TX12, 78, by decide, rfl, rfl, (by decide +kernel), ⟨1, rfl, mx_npd (by decide +kernel)⟩, ml_in_1334, ml_se_30⟩))⟩) <|
  mc_1 (mk_p (ms_if_ne (off := (6)) (by decide +kernel) (by decide)) rfl) <|
  mc_1 (mk_p (ms_bipush (n := (-2)) (by decide +kernel) (by decide +kernel)) rfl) <|
  mc_1 (mk_r (Or.inl ⟨rfl, by decide +kernel, _, rfl, mf_0⟩) rfl) <|
  mc_1 (mk_p (ms_aload_n (k := 0) (by decide +kernel) rfl) rfl) <|
  mc_1 (mk_p (ms_get (idx := 174) (w := 1508) (host := none) mx_c12 (by decide) ml_f_LeagueOfficeModel_174 (by decide +kernel)) rfl) <|
  mc_1 (mk_p (ms_iload_n (k := 1) (by decide +kernel) rfl) rfl) <| mc_0
theorem mw_240_1 : ∀ e ∈ mt_240_1, mx_Ok mx_MT mq_240 e.1 e.2 := 
  mc_1 (mk_p (ms_ald (Or.inr (Or.inr (Or.inl ⟨rfl, by decide +kernel⟩)))) rfl) <|
  mc_1 (mk_p (ms_if_ne (off := (6)) (by decide +kernel) (by decide)) rfl) <|
  mc_1 (mk_p (ms_bipush (n := (-3)) (by decide +kernel) (by decide +kernel)) rfl) <|
  mc_1 (mk_r (Or.inl ⟨rfl, by decide +kernel, _, rfl, mf_0⟩) rfl) <|
  mc_1 (mk_p (ms_iconst (n := 0) (by decide +kernel) (by decide +kernel)) rfl) <|
  mc_1 (mk_p (ms_istore_n (k := 2) (by decide +kernel) rfl (by decide)) rfl) <|
  mc_1 (mk_p (ms_iload_n (k := 2) (by decide +kernel) rfl) rfl) <|
  mc_1 (mk_p (ms_aload_n (k := 0) (by decide +kernel) rfl) rfl) <|
  mc_1 (mk_p (ms_get (idx := 31) (w := 1457) (host := none) mx_c12 (by decide) ml_f_LeagueOfficeModel_31 (by decide +kernel)) rfl) <|
  mc_1 (mk_p (ms_icmp_ge (off := (36)) (by decide +kernel) (by decide)) rfl) <| mc_0
theorem mw_240_2 : ∀ e ∈ mt_240_2, mx_Ok mx_MT mq_240 e.1 e.2 := 
  mc_1 (mk_p (ms_aload_n (k := 0) (by decide +kernel) rfl) rfl) <|
  mc_1 (mk_p (ms_get (idx := 177) (w := 1509) (host := none) mx_c12 (by decide) ml_f_LeagueOfficeModel_177 (by decide +kernel)) rfl) <|
  mc_1 (mk_p (ms_bipush (n := 60) (by decide +kernel) (by decide +kernel)) rfl) <|
  mc_1 (mk_p (ms_iload_n (k := 1) (by decide +kernel) rfl) rfl) <|
  mc_1 (mk_p (ms_imul (by decide +kernel)) rfl) <|
  mc_1 (mk_p (ms_iload_n (k := 2) (by decide +kernel) rfl) rfl) <|
  mc_1 (mk_p (ms_iadd (by decide +kernel)) rfl) <|
  mc_1 (mk_p (ms_ald (Or.inr (Or.inr (Or.inl ⟨rfl, by decide +kernel⟩)))) rfl) <|
  mc_1 (mk_p (ms_if_eq (off := (16)) (by decide +kernel) (by decide)) rfl) <|
  mc_1 (mk_p (ms_aload_n (k := 0) (by decide +kernel) rfl) rfl) <| mc_0
theorem mw_240_3 : ∀ e ∈ mt_240_3, mx_Ok mx_MT mq_240 e.1 e.2 := 
  mc_1 (mk_p (ms_get (idx := 49) (w := 1514) (host := none) mx_c12 (by decide) ml_f_LeagueOfficeModel_49 (by decide +kernel)) rfl) <|
  mc_1 (mk_p (ms_iload_n (k := 2) (by decide +kernel) rfl) rfl) <|
  mc_1 (mk_p (ms_ald (Or.inl ⟨rfl, by decide +kernel⟩)) rfl) <|
  mc_1 (mk_p (ms_iload_n (k := 1) (by decide +kernel) rfl) rfl) <|
  mc_1 (mk_p (ms_icmp_eq (off := (6)) (by decide +kernel) (by decide)) rfl) <|
  mc_1 (mk_p (ms_bipush (n := (-3)) (by decide +kernel) (by decide +kernel)) rfl) <|
  mc_1 (mk_r (Or.inl ⟨rfl, by decide +kernel, _, rfl, mf_0⟩) rfl) <|
  mc_1 (mk_p (ms_iinc (n := (1)) (by decide +kernel) (by decide +kernel) (by decide)) rfl) <|
  mc_1 (mk_p (ms_goto (off := (-38)) (by decide +kernel) (by decide)) rfl) <| mc_0
theorem mw_240_4 : ∀ e ∈ mt_240_4, mx_Ok mx_MT mq_240 e.1 e.2 := 
  mc_1 (mk_p (ms_aload_n (k := 0) (by decide +kernel) rfl) rfl) <|
  mc_1 (mk_p (ms_get (idx := 174) (w := 1508) (host := none) mx_c12 (by decide) ml_f_LeagueOfficeModel_174 (by decide +kernel)) rfl) <|
  mc_1 (mk_p (ms_iload_n (k := 1) (by decide +kernel) rfl) rfl) <|
  mc_1 (mk_p (ms_iconst (n := 0) (by decide +kernel) (by decide +kernel)) rfl) <|
  mc_1 (mk_p (ms_ast (Or.inr (Or.inr ⟨rfl, by decide +kernel⟩))) rfl) <|
  mc_1 (mk_p (ms_iconst (n := 0) (by decide +kernel) (by decide +kernel)) rfl) <|
  mc_1 (mk_p (ms_istore_n (k := 2) (by decide +kernel) rfl (by decide)) rfl) <|
  mc_1 (mk_p (ms_iconst (n := 0) (by decide +kernel) (by decide +kernel)) rfl) <|
  mc_1 (mk_p (ms_istore_n (k := 3) (by decide +kernel) rfl (by decide)) rfl) <|
  mc_1 (mk_p (ms_iload_n (k := 3) (by decide +kernel) rfl) rfl) <|
  mc_1 (mk_p (ms_aload_n (k := 0) (by decide +kernel) rfl) rfl) <|
  mc_1 (mk_p (ms_get (idx := 31) (w := 1457) (host := none) mx_c12 (by decide) ml_f_LeagueOfficeModel_31 (by decide +kernel)) rfl) <| mc_0
theorem mw_240_5 : ∀ e ∈ mt_240_5, mx_Ok mx_MT mq_240 e.1 e.2 := 
  mc_1 (mk_p (ms_icmp_ge (off := (93)) (by decide +kernel) (by decide)) rfl) <|
  mc_1 (mk_p (ms_bipush (n := 60) (by decide +kernel) (by decide +kernel)) rfl) <|
  mc_1 (mk_p (ms_iload_n (k := 1) (by decide +kernel) rfl) rfl) <|
  mc_1 (mk_p (ms_imul (by decide +kernel)) rfl) <|
  mc_1 (mk_p (ms_iload_n (k := 3) (by decide +kernel) rfl) rfl) <|
  mc_1 (mk_p (ms_iadd (by decide +kernel)) rfl) <|
  mc_1 (mk_p (ms_istore (by decide +kernel) (by decide)) rfl) <|
  mc_1 (mk_p (ms_aload_n (k := 0) (by decide +kernel) rfl) rfl) <|
  mc_1 (mk_p (ms_get (idx := 177) (w := 1509) (host := none) mx_c12 (by decide) ml_f_LeagueOfficeModel_177 (by decide +kernel)) rfl) <| mc_0
theorem mw_240_6 : ∀ e ∈ mt_240_6, mx_Ok mx_MT mq_240 e.1 e.2 := 
  mc_1 (mk_p (ms_iload (by decide +kernel)) rfl) <|
  mc_1 (mk_p (ms_ald (Or.inr (Or.inr (Or.inl ⟨rfl, by decide +kernel⟩)))) rfl) <|
  mc_1 (mk_p (ms_if_ne (off := (6)) (by decide +kernel) (by decide)) rfl) <|
  mc_1 (mk_p (ms_goto (off := (66)) (by decide +kernel) (by decide)) rfl) <|
  mc_1 (mk_p (ms_aload_n (k := 0) (by decide +kernel) rfl) rfl) <|
  mc_1 (mk_p (ms_get (idx := 177) (w := 1509) (host := none) mx_c12 (by decide) ml_f_LeagueOfficeModel_177 (by decide +kernel)) rfl) <|
  mc_1 (mk_p (ms_iload (by decide +kernel)) rfl) <| mc_0
theorem mw_240_7 : ∀ e ∈ mt_240_7, mx_Ok mx_MT mq_240 e.1 e.2 := 
  mc_1 (mk_p (ms_iconst (n := 0) (by decide +kernel) (by decide +kernel)) rfl) <|
  mc_1 (mk_p (ms_ast (Or.inr (Or.inr ⟨rfl, by decide +kernel⟩))) rfl) <|
  mc_1 (mk_p (ms_aload_n (k := 0) (by decide +kernel) rfl) rfl) <|
  mc_1 (mk_p (ms_get (idx := 37) (w := 1458) (host := none) mx_c12 (by decide) ml_f_LeagueOfficeModel_37 (by decide +kernel)) rfl) <|
  mc_1 (mk_p (ms_iload_n (k := 3) (by decide +kernel) rfl) rfl) <|
  mc_1 (mk_p (ms_aload_n (k := 0) (by decide +kernel) rfl) rfl) <|
  mc_1 (mk_p (ms_get (idx := 180) (w := 1510) (host := none) mx_c12 (by decide) ml_f_LeagueOfficeModel_180 (by decide +kernel)) rfl) <|
  mc_1 (mk_p (ms_iload (by decide +kernel)) rfl) <|
  mc_1 (mk_p (ms_ald (Or.inl ⟨rfl, by decide +kernel⟩)) rfl) <|
  mc_1 (mk_p (ms_ast (Or.inl ⟨rfl, by decide +kernel⟩)) rfl) <|
  mc_1 (mk_p (ms_aload_n (k := 0) (by decide +kernel) rfl) rfl) <| mc_0
theorem mw_240_8 : ∀ e ∈ mt_240_8, mx_Ok mx_MT mq_240 e.1 e.2 := 
  mc_1 (mk_p (ms_get (idx := 40) (w := 1459) (host := none) mx_c12 (by decide) ml_f_LeagueOfficeModel_40 (by decide +kernel)) rfl) <|
  mc_1 (mk_p (ms_iload_n (k := 3) (by decide +kernel) rfl) rfl) <|
  mc_1 (mk_p (ms_aload_n (k := 0) (by decide +kernel) rfl) rfl) <|
  mc_1 (mk_p (ms_get (idx := 183) (w := 1511) (host := none) mx_c12 (by decide) ml_f_LeagueOfficeModel_183 (by decide +kernel)) rfl) <|
  mc_1 (mk_p (ms_iload (by decide +kernel)) rfl) <|
  mc_1 (mk_p (ms_ald (Or.inl ⟨rfl, by decide +kernel⟩)) rfl) <|
  mc_1 (mk_p (ms_ast (Or.inl ⟨rfl, by decide +kernel⟩)) rfl) <|
  mc_1 (mk_p (ms_aload_n (k := 0) (by decide +kernel) rfl) rfl) <|
  mc_1 (mk_p (ms_get (idx := 43) (w := 1460) (host := none) mx_c12 (by decide) ml_f_LeagueOfficeModel_43 (by decide +kernel)) rfl) <| mc_0
theorem mw_240_9 : ∀ e ∈ mt_240_9, mx_Ok mx_MT mq_240 e.1 e.2 := 
  mc_1 (mk_p (ms_iload_n (k := 3) (by decide +kernel) rfl) rfl) <|
  mc_1 (mk_p (ms_aload_n (k := 0) (by decide +kernel) rfl) rfl) <|
  mc_1 (mk_p (ms_get (idx := 186) (w := 1512) (host := none) mx_c12 (by decide) ml_f_LeagueOfficeModel_186 (by decide +kernel)) rfl) <|
  mc_1 (mk_p (ms_iload (by decide +kernel)) rfl) <|
  mc_1 (mk_p (ms_ald (Or.inl ⟨rfl, by decide +kernel⟩)) rfl) <|
  mc_1 (mk_p (ms_ast (Or.inl ⟨rfl, by decide +kernel⟩)) rfl) <|
  mc_1 (mk_p (ms_aload_n (k := 0) (by decide +kernel) rfl) rfl) <|
  mc_1 (mk_p (ms_get (idx := 49) (w := 1514) (host := none) mx_c12 (by decide) ml_f_LeagueOfficeModel_49 (by decide +kernel)) rfl) <|
  mc_1 (mk_p (ms_iload_n (k := 3) (by decide +kernel) rfl) rfl) <|
  mc_1 (mk_p (ms_aload_n (k := 0) (by decide +kernel) rfl) rfl) <|
  mc_1 (mk_p (ms_get (idx := 189) (w := 1513) (host := none) mx_c12 (by decide) ml_f_LeagueOfficeModel_189 (by decide +kernel)) rfl) <| mc_0
theorem mw_240_10 : ∀ e ∈ mt_240_10, mx_Ok mx_MT mq_240 e.1 e.2 := 
  mc_1 (mk_p (ms_iload (by decide +kernel)) rfl) <|
  mc_1 (mk_p (ms_ald (Or.inl ⟨rfl, by decide +kernel⟩)) rfl) <|
  mc_1 (mk_p (ms_ast (Or.inl ⟨rfl, by decide +kernel⟩)) rfl) <|
  mc_1 (mk_p (ms_iinc (n := (1)) (by decide +kernel) (by decide +kernel) (by decide)) rfl) <|
  mc_1 (mk_p (ms_iinc (n := (1)) (by decide +kernel) (by decide +kernel) (by decide)) rfl) <|
  mc_1 (mk_p (ms_goto (off := (-95)) (by decide +kernel) (by decide)) rfl) <|
  mc_1 (mk_p (ms_iload_n (k := 2) (by decide +kernel) rfl) rfl) <| mc_0
theorem mw_240_11 : ∀ e ∈ mt_240_11, mx_Ok mx_MT mq_240 e.1 e.2 := 
  mc_1 (mk_r (Or.inl ⟨rfl, by decide +kernel, _, rfl, mf_0⟩) rfl) <| mc_0
theorem mw_240 : ∀ ch ∈ mt_240, ∀ e ∈ ch, mx_Ok mx_MT mq_240 e.1 e.2 := mc_2 mw_240_0 <| mc_2 mw_240_1 <| mc_2 mw_240_2 <| mc_2 mw_240_3 <| mc_2 mw_240_4 <| mc_2 mw_240_5 <| mc_2 mw_240_6 <| mc_2 mw_240_7 <| mc_2 mw_240_8 <| mc_2 mw_240_9 <| mc_2 mw_240_10 <| mc_2 mw_240_11 <| mc_3
/- 241 LeagueOfficeModel.findStill(I)V -/
theorem mw_241_0 : ∀ e ∈ mt_241_0, mx_Ok mx_MT mq_241 e.1 e.2 := 
  mc_1 (mk_p (ms_aload_n (k := 0) (by decide +kernel) rfl) rfl) <|
  mc_1 (mk_p (ms_iconst (n := 0) (by decide +kernel) (by decide +kernel)) rfl) <|
  mc_1 (mk_p (ms_put (idx := 426) (w := 1515) (host := none) mx_c12 (by decide) ml_f_LeagueOfficeModel_426 rfl rfl (by decide +kernel)) rfl) <|
  mc_1 (mk_p (ms_iconst (n := 0) (by decide +kernel) (by decide +kernel)) rfl) <|
  mc_1 (mk_p (ms_istore_n (k := 2) (by decide +kernel) rfl (by decide)) rfl) <|
  mc_1 (mk_p (ms_iload_n (k := 2) (by decide +kernel) rfl) rfl) <|
  mc_1 (mk_p (ms_aload_n (k := 0) (by decide +kernel) rfl) rfl) <|
  mc_1 (mk_p (ms_get (idx := 31) (w := 1457) (host := none) mx_c12 (by decide) ml_f_LeagueOfficeModel_31 (by decide +kernel)) rfl) <|
  mc_1 (mk_p (ms_icmp_ge (off := (86)) (by decide +kernel) (by decide)) rfl) <|
  mc_1 (mk_p (ms_aload_n (k := 0) (by decide +kernel) rfl) rfl) <| mc_0
theorem mw_241_1 : ∀ e ∈ mt_241_1, mx_Ok mx_MT mq_241 e.1 e.2 := 
  mc_1 (mk_p (ms_get (idx := 21) (w := 1455) (host := none) mx_c12 (by decide) ml_f_LeagueOfficeModel_21 (by decide +kernel)) rfl) <|
  mc_1 (mk_p (ms_aload_n (k := 0) (by decide +kernel) rfl) rfl) <|
  mc_1 (mk_p (ms_get (idx := 40) (w := 1459) (host := none) mx_c12 (by decide) ml_f_LeagueOfficeModel_40 (by decide +kernel)) rfl) <|
  mc_1 (mk_p (ms_iload_n (k := 2) (by decide +kernel) rfl) rfl) <|
  mc_1 (mk_p (ms_ald (Or.inl ⟨rfl, by decide +kernel⟩)) rfl) <|
  mc_1 (mk_p (ms_ald (Or.inl ⟨rfl, by decide +kernel⟩)) rfl) <|
  mc_1 (mk_p (ms_iload_n (k := 1) (by decide +kernel) rfl) rfl) <|
  mc_1 (mk_p (ms_icmp_ne (off := (65)) (by decide +kernel) (by decide)) rfl) <|
  mc_1 (mk_p (ms_aload_n (k := 0) (by decide +kernel) rfl) rfl) <|
  mc_1 (mk_p (ms_get (idx := 21) (w := 1455) (host := none) mx_c12 (by decide) ml_f_LeagueOfficeModel_21 (by decide +kernel)) rfl) <| mc_0
theorem mw_241_2 : ∀ e ∈ mt_241_2, mx_Ok mx_MT mq_241 e.1 e.2 := 
  mc_1 (mk_p (ms_aload_n (k := 0) (by decide +kernel) rfl) rfl) <|
  mc_1 (mk_p (ms_get (idx := 43) (w := 1460) (host := none) mx_c12 (by decide) ml_f_LeagueOfficeModel_43 (by decide +kernel)) rfl) <|
  mc_1 (mk_p (ms_iload_n (k := 2) (by decide +kernel) rfl) rfl) <|
  mc_1 (mk_p (ms_ald (Or.inl ⟨rfl, by decide +kernel⟩)) rfl) <|
  mc_1 (mk_p (ms_ald (Or.inl ⟨rfl, by decide +kernel⟩)) rfl) <|
  mc_1 (mk_p (ms_iload_n (k := 1) (by decide +kernel) rfl) rfl) <|
  mc_1 (mk_p (ms_icmp_ne (off := (50)) (by decide +kernel) (by decide)) rfl) <|
  mc_1 (mk_p (ms_aload_n (k := 0) (by decide +kernel) rfl) rfl) <|
  mc_1 (mk_p (ms_get (idx := 37) (w := 1458) (host := none) mx_c12 (by decide) ml_f_LeagueOfficeModel_37 (by decide +kernel)) rfl) <| mc_0
theorem mw_241_3 : ∀ e ∈ mt_241_3, mx_Ok mx_MT mq_241 e.1 e.2 := 
  mc_1 (mk_p (ms_iload_n (k := 2) (by decide +kernel) rfl) rfl) <|
  mc_1 (mk_p (ms_ald (Or.inl ⟨rfl, by decide +kernel⟩)) rfl) <|
  mc_1 (mk_c (k := mq_172) rfl ⟨mo_172, 55, 1352, none, ml_m_LeagueOfficeModel_55, Or.inl ⟨rfl, (by decide +kernel), mx_npd (by decide +kernel), ml_st_1353⟩⟩) <|
  mc_1 (mk_p (ms_if_eq (off := (38)) (by decide +kernel) (by decide)) rfl) <|
  mc_1 (mk_p (ms_aload_n (k := 0) (by decide +kernel) rfl) rfl) <|
  mc_1 (mk_p (ms_iload_n (k := 2) (by decide +kernel) rfl) rfl) <|
  mc_1 (mk_p (ms_aload_n (k := 0) (by decide +kernel) rfl) rfl) <|
  mc_1 (mk_p (ms_get (idx := 11) (w := 1453) (host := none) mx_c12 (by decide) ml_f_LeagueOfficeModel_11 (by decide +kernel)) rfl) <|
  mc_1 (mk_c (k := mq_179) rfl ⟨mo_179, 80, 1372, none, ml_m_LeagueOfficeModel_80, Or.inr (Or.inr (Or.inl ⟨12, TX12, 78, by decide, rfl, rfl, (by decide +kernel), ⟨2, rfl, mx_npd (by decide +kernel)⟩, ml_in_1374, ml_se_32⟩))⟩) <| mc_0
theorem mw_241_4 : ∀ e ∈ mt_241_4, mx_Ok mx_MT mq_241 e.1 e.2 := 
  mc_1 (mk_p (ms_if_lt (off := (6)) (by decide +kernel) (by decide)) rfl) <|
  mc_1 (mk_p (ms_goto (off := (23)) (by decide +kernel) (by decide)) rfl) <|
  mc_1 (mk_p (ms_aload_n (k := 0) (by decide +kernel) rfl) rfl) <|
  mc_1 (mk_p (ms_get (idx := 192) (w := 1516) (host := none) mx_c12 (by decide) ml_f_LeagueOfficeModel_192 (by decide +kernel)) rfl) <|
  mc_1 (mk_p (ms_aload_n (k := 0) (by decide +kernel) rfl) rfl) <|
  mc_1 (mk_p (ms_get (idx := 426) (w := 1515) (host := none) mx_c12 (by decide) ml_f_LeagueOfficeModel_426 (by decide +kernel)) rfl) <| mc_0
theorem mw_241_5 : ∀ e ∈ mt_241_5, mx_Ok mx_MT mq_241 e.1 e.2 := 
  mc_1 (mk_p (ms_iload_n (k := 2) (by decide +kernel) rfl) rfl) <|
  mc_1 (mk_p (ms_ast (Or.inl ⟨rfl, by decide +kernel⟩)) rfl) <|
  mc_1 (mk_p (ms_aload_n (k := 0) (by decide +kernel) rfl) rfl) <|
  mc_1 (mk_p (ms_dup (by decide +kernel)) rfl) <|
  mc_1 (mk_p (ms_get (idx := 426) (w := 1515) (host := none) mx_c12 (by decide) ml_f_LeagueOfficeModel_426 (by decide +kernel)) rfl) <|
  mc_1 (mk_p (ms_iconst (n := 1) (by decide +kernel) (by decide +kernel)) rfl) <|
  mc_1 (mk_p (ms_iadd (by decide +kernel)) rfl) <|
  mc_1 (mk_p (ms_put (idx := 426) (w := 1515) (host := none) mx_c12 (by decide) ml_f_LeagueOfficeModel_426 rfl rfl (by decide +kernel)) rfl) <|
  mc_1 (mk_p (ms_iinc (n := (1)) (by decide +kernel) (by decide +kernel) (by decide)) rfl) <|
  mc_1 (mk_p (ms_goto (off := (-88)) (by decide +kernel) (by decide)) rfl) <| mc_0
theorem mw_241_6 : ∀ e ∈ mt_241_6, mx_Ok mx_MT mq_241 e.1 e.2 := 
  mc_1 (mk_r (Or.inr (Or.inr (Or.inr ⟨rfl, by decide +kernel, rfl⟩))) rfl) <| mc_0
theorem mw_241 : ∀ ch ∈ mt_241, ∀ e ∈ ch, mx_Ok mx_MT mq_241 e.1 e.2 := mc_2 mw_241_0 <| mc_2 mw_241_1 <| mc_2 mw_241_2 <| mc_2 mw_241_3 <| mc_2 mw_241_4 <| mc_2 mw_241_5 <| mc_2 mw_241_6 <| mc_3
/- 242 LeagueOfficeModel.open(I)I -/
theorem mw_242_0 : ∀ e ∈ mt_242_0, mx_Ok mx_MT mq_242 e.1 e.2 := 
  mc_1 (mk_p (ms_iload_n (k := 1) (by decide +kernel) rfl) rfl) <|
  mc_1 (mk_c (k := mq_167) rfl ⟨mo_167, 17, 1325, none, ml_m_LeagueOfficeModel_17, Or.inl ⟨rfl, (by decide +kernel), mx_npd (by decide +kernel), ml_st_1326⟩⟩) <|
  mc_1 (mk_p (ms_if_ne (off := (6)) (by decide +kernel) (by decide)) rfl) <|
  mc_1 (mk_p (ms_bipush (n := (-2)) (by decide +kernel) (by decide +kernel)) rfl) <|
  mc_1 (mk_r (Or.inl ⟨rfl, by decide +kernel, _, rfl, mf_0⟩) rfl) <|
  mc_1 (mk_p (ms_aload_n (k := 0) (by decide +kernel) rfl) rfl) <|
  mc_1 (mk_p (ms_iload_n (k := 1) (by decide +kernel) rfl) rfl) <|
  mc_1 (mk_c (k := mq_241) rfl ⟨mo_241, 429, 1863, none, ml_m_LeagueOfficeModel_429, Or.inr (Or.inr (Or.inl ⟨12, TX12, 78, by decide, rfl, rfl, (by decide +kernel), ⟨1, rfl, mx_npd (by decide +kernel)⟩, ml_in_1865, ml_se_67⟩))⟩) <|
  mc_1 (mk_p (ms_aload_n (k := 0) (by decide +kernel) rfl) rfl) <| mc_0
theorem mw_242_1 : ∀ e ∈ mt_242_1, mx_Ok mx_MT mq_242 e.1 e.2 := 
  mc_1 (mk_p (ms_get (idx := 426) (w := 1515) (host := none) mx_c12 (by decide) ml_f_LeagueOfficeModel_426 (by decide +kernel)) rfl) <|
  mc_1 (mk_r (Or.inl ⟨rfl, by decide +kernel, _, rfl, mf_0⟩) rfl) <| mc_0
theorem mw_242 : ∀ ch ∈ mt_242, ∀ e ∈ ch, mx_Ok mx_MT mq_242 e.1 e.2 := mc_2 mw_242_0 <| mc_2 mw_242_1 <| mc_3
/- 243 LeagueOfficeModel.endBy(I)I -/
theorem mw_243_0 : ∀ e ∈ mt_243_0, mx_Ok mx_MT mq_243 e.1 e.2 := 
  mc_1 (mk_p (ms_iload_n (k := 0) (by decide +kernel) rfl) rfl) <|
  mc_1 (mk_p (ms_if_ne (off := (8)) (by decide +kernel) (by decide)) rfl) <|
  mc_1 (mk_p (ms_bipush (n := 100) (by decide +kernel) (by decide +kernel)) rfl) <|
  mc_1 (mk_p (ms_goto (off := (13)) (by decide +kernel) (by decide)) rfl) <|
  mc_1 (mk_p (ms_iload_n (k := 0) (by decide +kernel) rfl) rfl) <|
  mc_1 (mk_p (ms_iconst (n := 1) (by decide +kernel) (by decide +kernel)) rfl) <|
  mc_1 (mk_p (ms_icmp_ne (off := (7)) (by decide +kernel) (by decide)) rfl) <|
  mc_1 (mk_p (ms_iconst (n := 0) (by decide +kernel) (by decide +kernel)) rfl) <|
  mc_1 (mk_p (ms_goto (off := (4)) (by decide +kernel) (by decide)) rfl) <| mc_0
theorem mw_243_1 : ∀ e ∈ mt_243_1, mx_Ok mx_MT mq_243 e.1 e.2 := 
  mc_1 (mk_p (ms_iconst (n := 1) (by decide +kernel) (by decide +kernel)) rfl) <|
  mc_1 (mk_r (Or.inl ⟨rfl, by decide +kernel, _, rfl, mf_0⟩) rfl) <| mc_0
theorem mw_243 : ∀ ch ∈ mt_243, ∀ e ∈ ch, mx_Ok mx_MT mq_243 e.1 e.2 := mc_2 mw_243_0 <| mc_2 mw_243_1 <| mc_3
/- 244 LeagueOfficeModel.power3(I)I -/
theorem mw_244_0 : ∀ e ∈ mt_244_0, mx_Ok mx_MT mq_244 e.1 e.2 := 
  mc_1 (mk_p (ms_iconst (n := 1) (by decide +kernel) (by decide +kernel)) rfl) <|
  mc_1 (mk_p (ms_istore_n (k := 1) (by decide +kernel) rfl (by decide)) rfl) <|
  mc_1 (mk_p (ms_iconst (n := 0) (by decide +kernel) (by decide +kernel)) rfl) <|
  mc_1 (mk_p (ms_istore_n (k := 2) (by decide +kernel) rfl (by decide)) rfl) <|
  mc_1 (mk_p (ms_iload_n (k := 2) (by decide +kernel) rfl) rfl) <|
  mc_1 (mk_p (ms_iload_n (k := 0) (by decide +kernel) rfl) rfl) <|
  mc_1 (mk_p (ms_icmp_ge (off := (13)) (by decide +kernel) (by decide)) rfl) <|
  mc_1 (mk_p (ms_iload_n (k := 1) (by decide +kernel) rfl) rfl) <|
  mc_1 (mk_p (ms_iconst (n := 3) (by decide +kernel) (by decide +kernel)) rfl) <|
  mc_1 (mk_p (ms_imul (by decide +kernel)) rfl) <|
  mc_1 (mk_p (ms_istore_n (k := 1) (by decide +kernel) rfl (by decide)) rfl) <|
  mc_1 (mk_p (ms_iinc (n := (1)) (by decide +kernel) (by decide +kernel) (by decide)) rfl) <| mc_0
theorem mw_244_1 : ∀ e ∈ mt_244_1, mx_Ok mx_MT mq_244 e.1 e.2 := 
  mc_1 (mk_p (ms_goto (off := (-12)) (by decide +kernel) (by decide)) rfl) <|
  mc_1 (mk_p (ms_iload_n (k := 1) (by decide +kernel) rfl) rfl) <|
  mc_1 (mk_r (Or.inl ⟨rfl, by decide +kernel, _, rfl, mf_0⟩) rfl) <| mc_0
theorem mw_244 : ∀ ch ∈ mt_244, ∀ e ∈ ch, mx_Ok mx_MT mq_244 e.1 e.2 := mc_2 mw_244_0 <| mc_2 mw_244_1 <| mc_3
/- 245 LeagueOfficeModel.findBase(I)V -/
theorem mw_245_0 : ∀ e ∈ mt_245_0, mx_Ok mx_MT mq_245 e.1 e.2 := 
  mc_1 (mk_p (ms_aload_n (k := 0) (by decide +kernel) rfl) rfl) <|
  mc_1 (mk_p (ms_iload_n (k := 1) (by decide +kernel) rfl) rfl) <|
  mc_1 (mk_p (ms_aload_n (k := 0) (by decide +kernel) rfl) rfl) <|
  mc_1 (mk_p (ms_get (idx := 11) (w := 1453) (host := none) mx_c12 (by decide) ml_f_LeagueOfficeModel_11 (by decide +kernel)) rfl) <|
  mc_1 (mk_c (k := mq_217) rfl ⟨mo_217, 382, 1767, none, ml_m_LeagueOfficeModel_382, Or.inr (Or.inr (Or.inl ⟨12, TX12, 78, by decide, rfl, rfl, (by decide +kernel), ⟨2, rfl, mx_npd (by decide +kernel)⟩, ml_in_1769, ml_se_56⟩))⟩) <|
  mc_1 (mk_p (ms_iconst (n := 0) (by decide +kernel) (by decide +kernel)) rfl) <|
  mc_1 (mk_p (ms_istore_n (k := 2) (by decide +kernel) rfl (by decide)) rfl) <|
  mc_1 (mk_p (ms_iload_n (k := 2) (by decide +kernel) rfl) rfl) <|
  mc_1 (mk_p (ms_aload_n (k := 0) (by decide +kernel) rfl) rfl) <|
  mc_1 (mk_p (ms_get (idx := 14) (w := 1454) (host := none) mx_c12 (by decide) ml_f_LeagueOfficeModel_14 (by decide +kernel)) rfl) <| mc_0
theorem mw_245_1 : ∀ e ∈ mt_245_1, mx_Ok mx_MT mq_245 e.1 e.2 := 
  mc_1 (mk_p (ms_icmp_ge (off := (70)) (by decide +kernel) (by decide)) rfl) <|
  mc_1 (mk_p (ms_aload_n (k := 0) (by decide +kernel) rfl) rfl) <|
  mc_1 (mk_p (ms_get (idx := 21) (w := 1455) (host := none) mx_c12 (by decide) ml_f_LeagueOfficeModel_21 (by decide +kernel)) rfl) <|
  mc_1 (mk_p (ms_iload_n (k := 2) (by decide +kernel) rfl) rfl) <|
  mc_1 (mk_p (ms_ald (Or.inl ⟨rfl, by decide +kernel⟩)) rfl) <|
  mc_1 (mk_p (ms_iload_n (k := 1) (by decide +kernel) rfl) rfl) <|
  mc_1 (mk_p (ms_icmp_eq (off := (6)) (by decide +kernel) (by decide)) rfl) <|
  mc_1 (mk_p (ms_goto (off := (51)) (by decide +kernel) (by decide)) rfl) <| mc_0
theorem mw_245_2 : ∀ e ∈ mt_245_2, mx_Ok mx_MT mq_245 e.1 e.2 := 
  mc_1 (mk_p (ms_aload_n (k := 0) (by decide +kernel) rfl) rfl) <|
  mc_1 (mk_p (ms_get (idx := 201) (w := 1519) (host := none) mx_c12 (by decide) ml_f_LeagueOfficeModel_201 (by decide +kernel)) rfl) <|
  mc_1 (mk_p (ms_iload_n (k := 2) (by decide +kernel) rfl) rfl) <|
  mc_1 (mk_p (ms_aload_n (k := 0) (by decide +kernel) rfl) rfl) <|
  mc_1 (mk_p (ms_get (idx := 133) (w := 1491) (host := none) mx_c12 (by decide) ml_f_LeagueOfficeModel_133 (by decide +kernel)) rfl) <|
  mc_1 (mk_p (ms_iload_n (k := 2) (by decide +kernel) rfl) rfl) <|
  mc_1 (mk_p (ms_ald (Or.inr (Or.inr (Or.inr ⟨rfl, by decide +kernel⟩)))) rfl) <|
  mc_1 (mk_p (ms_last (by decide +kernel)) rfl) <|
  mc_1 (mk_p (ms_aload_n (k := 0) (by decide +kernel) rfl) rfl) <|
  mc_1 (mk_p (ms_get (idx := 204) (w := 1520) (host := none) mx_c12 (by decide) ml_f_LeagueOfficeModel_204 (by decide +kernel)) rfl) <| mc_0
theorem mw_245_3 : ∀ e ∈ mt_245_3, mx_Ok mx_MT mq_245 e.1 e.2 := 
  mc_1 (mk_p (ms_iload_n (k := 2) (by decide +kernel) rfl) rfl) <|
  mc_1 (mk_p (ms_aload_n (k := 0) (by decide +kernel) rfl) rfl) <|
  mc_1 (mk_p (ms_get (idx := 124) (w := 1488) (host := none) mx_c12 (by decide) ml_f_LeagueOfficeModel_124 (by decide +kernel)) rfl) <|
  mc_1 (mk_p (ms_iload_n (k := 2) (by decide +kernel) rfl) rfl) <|
  mc_1 (mk_p (ms_ald (Or.inl ⟨rfl, by decide +kernel⟩)) rfl) <|
  mc_1 (mk_p (ms_ast (Or.inl ⟨rfl, by decide +kernel⟩)) rfl) <|
  mc_1 (mk_p (ms_aload_n (k := 0) (by decide +kernel) rfl) rfl) <|
  mc_1 (mk_p (ms_get (idx := 207) (w := 1521) (host := none) mx_c12 (by decide) ml_f_LeagueOfficeModel_207 (by decide +kernel)) rfl) <|
  mc_1 (mk_p (ms_iload_n (k := 2) (by decide +kernel) rfl) rfl) <|
  mc_1 (mk_p (ms_aload_n (k := 0) (by decide +kernel) rfl) rfl) <|
  mc_1 (mk_p (ms_get (idx := 127) (w := 1489) (host := none) mx_c12 (by decide) ml_f_LeagueOfficeModel_127 (by decide +kernel)) rfl) <| mc_0
theorem mw_245_4 : ∀ e ∈ mt_245_4, mx_Ok mx_MT mq_245 e.1 e.2 := 
  mc_1 (mk_p (ms_iload_n (k := 2) (by decide +kernel) rfl) rfl) <|
  mc_1 (mk_p (ms_ald (Or.inl ⟨rfl, by decide +kernel⟩)) rfl) <|
  mc_1 (mk_p (ms_ast (Or.inl ⟨rfl, by decide +kernel⟩)) rfl) <|
  mc_1 (mk_p (ms_aload_n (k := 0) (by decide +kernel) rfl) rfl) <|
  mc_1 (mk_p (ms_get (idx := 210) (w := 1522) (host := none) mx_c12 (by decide) ml_f_LeagueOfficeModel_210 (by decide +kernel)) rfl) <|
  mc_1 (mk_p (ms_iload_n (k := 2) (by decide +kernel) rfl) rfl) <|
  mc_1 (mk_p (ms_aload_n (k := 0) (by decide +kernel) rfl) rfl) <|
  mc_1 (mk_p (ms_get (idx := 130) (w := 1490) (host := none) mx_c12 (by decide) ml_f_LeagueOfficeModel_130 (by decide +kernel)) rfl) <|
  mc_1 (mk_p (ms_iload_n (k := 2) (by decide +kernel) rfl) rfl) <|
  mc_1 (mk_p (ms_ald (Or.inl ⟨rfl, by decide +kernel⟩)) rfl) <|
  mc_1 (mk_p (ms_ast (Or.inl ⟨rfl, by decide +kernel⟩)) rfl) <| mc_0
theorem mw_245_5 : ∀ e ∈ mt_245_5, mx_Ok mx_MT mq_245 e.1 e.2 := 
  mc_1 (mk_p (ms_iinc (n := (1)) (by decide +kernel) (by decide +kernel) (by decide)) rfl) <|
  mc_1 (mk_p (ms_goto (off := (-72)) (by decide +kernel) (by decide)) rfl) <|
  mc_1 (mk_r (Or.inr (Or.inr (Or.inr ⟨rfl, by decide +kernel, rfl⟩))) rfl) <| mc_0
theorem mw_245 : ∀ ch ∈ mt_245, ∀ e ∈ ch, mx_Ok mx_MT mq_245 e.1 e.2 := mc_2 mw_245_0 <| mc_2 mw_245_1 <| mc_2 mw_245_2 <| mc_2 mw_245_3 <| mc_2 mw_245_4 <| mc_2 mw_245_5 <| mc_3
/- 246 LeagueOfficeModel.addEnds(III)V -/
theorem mw_246_0 : ∀ e ∈ mt_246_0, mx_Ok mx_MT mq_246 e.1 e.2 := 
  mc_1 (mk_p (ms_iconst (n := 0) (by decide +kernel) (by decide +kernel)) rfl) <|
  mc_1 (mk_p (ms_istore (by decide +kernel) (by decide)) rfl) <|
  mc_1 (mk_p (ms_iload (by decide +kernel)) rfl) <|
  mc_1 (mk_p (ms_aload_n (k := 0) (by decide +kernel) rfl) rfl) <|
  mc_1 (mk_p (ms_get (idx := 14) (w := 1454) (host := none) mx_c12 (by decide) ml_f_LeagueOfficeModel_14 (by decide +kernel)) rfl) <|
  mc_1 (mk_p (ms_icmp_ge (off := (65)) (by decide +kernel) (by decide)) rfl) <|
  mc_1 (mk_p (ms_aload_n (k := 0) (by decide +kernel) rfl) rfl) <|
  mc_1 (mk_p (ms_get (idx := 133) (w := 1491) (host := none) mx_c12 (by decide) ml_f_LeagueOfficeModel_133 (by decide +kernel)) rfl) <| mc_0
theorem mw_246_1 : ∀ e ∈ mt_246_1, mx_Ok mx_MT mq_246 e.1 e.2 := 
  mc_1 (mk_p (ms_iload (by decide +kernel)) rfl) <|
  mc_1 (mk_p (ms_aload_n (k := 0) (by decide +kernel) rfl) rfl) <|
  mc_1 (mk_p (ms_get (idx := 201) (w := 1519) (host := none) mx_c12 (by decide) ml_f_LeagueOfficeModel_201 (by decide +kernel)) rfl) <|
  mc_1 (mk_p (ms_iload (by decide +kernel)) rfl) <|
  mc_1 (mk_p (ms_ald (Or.inr (Or.inr (Or.inr ⟨rfl, by decide +kernel⟩)))) rfl) <|
  mc_1 (mk_p (ms_last (by decide +kernel)) rfl) <|
  mc_1 (mk_p (ms_aload_n (k := 0) (by decide +kernel) rfl) rfl) <|
  mc_1 (mk_p (ms_get (idx := 124) (w := 1488) (host := none) mx_c12 (by decide) ml_f_LeagueOfficeModel_124 (by decide +kernel)) rfl) <|
  mc_1 (mk_p (ms_iload (by decide +kernel)) rfl) <| mc_0
theorem mw_246_2 : ∀ e ∈ mt_246_2, mx_Ok mx_MT mq_246 e.1 e.2 := 
  mc_1 (mk_p (ms_aload_n (k := 0) (by decide +kernel) rfl) rfl) <|
  mc_1 (mk_p (ms_get (idx := 204) (w := 1520) (host := none) mx_c12 (by decide) ml_f_LeagueOfficeModel_204 (by decide +kernel)) rfl) <|
  mc_1 (mk_p (ms_iload (by decide +kernel)) rfl) <|
  mc_1 (mk_p (ms_ald (Or.inl ⟨rfl, by decide +kernel⟩)) rfl) <|
  mc_1 (mk_p (ms_ast (Or.inl ⟨rfl, by decide +kernel⟩)) rfl) <|
  mc_1 (mk_p (ms_aload_n (k := 0) (by decide +kernel) rfl) rfl) <|
  mc_1 (mk_p (ms_get (idx := 127) (w := 1489) (host := none) mx_c12 (by decide) ml_f_LeagueOfficeModel_127 (by decide +kernel)) rfl) <|
  mc_1 (mk_p (ms_iload (by decide +kernel)) rfl) <|
  mc_1 (mk_p (ms_aload_n (k := 0) (by decide +kernel) rfl) rfl) <|
  mc_1 (mk_p (ms_get (idx := 207) (w := 1521) (host := none) mx_c12 (by decide) ml_f_LeagueOfficeModel_207 (by decide +kernel)) rfl) <| mc_0
theorem mw_246_3 : ∀ e ∈ mt_246_3, mx_Ok mx_MT mq_246 e.1 e.2 := 
  mc_1 (mk_p (ms_iload (by decide +kernel)) rfl) <|
  mc_1 (mk_p (ms_ald (Or.inl ⟨rfl, by decide +kernel⟩)) rfl) <|
  mc_1 (mk_p (ms_ast (Or.inl ⟨rfl, by decide +kernel⟩)) rfl) <|
  mc_1 (mk_p (ms_aload_n (k := 0) (by decide +kernel) rfl) rfl) <|
  mc_1 (mk_p (ms_get (idx := 130) (w := 1490) (host := none) mx_c12 (by decide) ml_f_LeagueOfficeModel_130 (by decide +kernel)) rfl) <|
  mc_1 (mk_p (ms_iload (by decide +kernel)) rfl) <|
  mc_1 (mk_p (ms_aload_n (k := 0) (by decide +kernel) rfl) rfl) <|
  mc_1 (mk_p (ms_get (idx := 210) (w := 1522) (host := none) mx_c12 (by decide) ml_f_LeagueOfficeModel_210 (by decide +kernel)) rfl) <| mc_0
theorem mw_246_4 : ∀ e ∈ mt_246_4, mx_Ok mx_MT mq_246 e.1 e.2 := 
  mc_1 (mk_p (ms_iload (by decide +kernel)) rfl) <|
  mc_1 (mk_p (ms_ald (Or.inl ⟨rfl, by decide +kernel⟩)) rfl) <|
  mc_1 (mk_p (ms_ast (Or.inl ⟨rfl, by decide +kernel⟩)) rfl) <|
  mc_1 (mk_p (ms_iinc (n := (1)) (by decide +kernel) (by decide +kernel) (by decide)) rfl) <|
  mc_1 (mk_p (ms_goto (off := (-68)) (by decide +kernel) (by decide)) rfl) <|
  mc_1 (mk_p (ms_aload_n (k := 0) (by decide +kernel) rfl) rfl) <|
  mc_1 (mk_p (ms_get (idx := 198) (w := 1518) (host := none) mx_c12 (by decide) ml_f_LeagueOfficeModel_198 (by decide +kernel)) rfl) <|
  mc_1 (mk_p (ms_iload_n (k := 1) (by decide +kernel) rfl) rfl) <|
  mc_1 (mk_p (ms_lconst (n := 0) (by decide +kernel) rfl) rfl) <| mc_0
theorem mw_246_5 : ∀ e ∈ mt_246_5, mx_Ok mx_MT mq_246 e.1 e.2 := 
  mc_1 (mk_p (ms_last (by decide +kernel)) rfl) <|
  mc_1 (mk_p (ms_iload_n (k := 1) (by decide +kernel) rfl) rfl) <|
  mc_1 (mk_p (ms_istore (by decide +kernel) (by decide)) rfl) <|
  mc_1 (mk_p (ms_iconst (n := 0) (by decide +kernel) (by decide +kernel)) rfl) <|
  mc_1 (mk_p (ms_istore (by decide +kernel) (by decide)) rfl) <|
  mc_1 (mk_p (ms_iload (by decide +kernel)) rfl) <|
  mc_1 (mk_p (ms_aload_n (k := 0) (by decide +kernel) rfl) rfl) <|
  mc_1 (mk_p (ms_get (idx := 426) (w := 1515) (host := none) mx_c12 (by decide) ml_f_LeagueOfficeModel_426 (by decide +kernel)) rfl) <|
  mc_1 (mk_p (ms_icmp_ge (off := (154)) (by decide +kernel) (by decide)) rfl) <| mc_0
theorem mw_246_6 : ∀ e ∈ mt_246_6, mx_Ok mx_MT mq_246 e.1 e.2 := 
  mc_1 (mk_p (ms_aload_n (k := 0) (by decide +kernel) rfl) rfl) <|
  mc_1 (mk_p (ms_get (idx := 192) (w := 1516) (host := none) mx_c12 (by decide) ml_f_LeagueOfficeModel_192 (by decide +kernel)) rfl) <|
  mc_1 (mk_p (ms_iload (by decide +kernel)) rfl) <|
  mc_1 (mk_p (ms_ald (Or.inl ⟨rfl, by decide +kernel⟩)) rfl) <|
  mc_1 (mk_p (ms_istore (by decide +kernel) (by decide)) rfl) <|
  mc_1 (mk_p (ms_iload (by decide +kernel)) rfl) <|
  mc_1 (mk_p (ms_iconst (n := 3) (by decide +kernel) (by decide +kernel)) rfl) <|
  mc_1 (mk_p (ms_irem (by decide +kernel)) rfl) <|
  mc_1 (mk_c (k := mq_243) rfl ⟨mo_243, 432, 1890, none, ml_m_LeagueOfficeModel_432, Or.inl ⟨rfl, (by decide +kernel), mx_npd (by decide +kernel), ml_st_1891⟩⟩) <| mc_0
theorem mw_246_7 : ∀ e ∈ mt_246_7, mx_Ok mx_MT mq_246 e.1 e.2 := 
  mc_1 (mk_p (ms_istore (by decide +kernel) (by decide)) rfl) <|
  mc_1 (mk_p (ms_iload (by decide +kernel)) rfl) <|
  mc_1 (mk_p (ms_iconst (n := 3) (by decide +kernel) (by decide +kernel)) rfl) <|
  mc_1 (mk_p (ms_idiv (by decide +kernel)) rfl) <|
  mc_1 (mk_p (ms_istore (by decide +kernel) (by decide)) rfl) <|
  mc_1 (mk_p (ms_aload_n (k := 0) (by decide +kernel) rfl) rfl) <|
  mc_1 (mk_p (ms_get (idx := 133) (w := 1491) (host := none) mx_c12 (by decide) ml_f_LeagueOfficeModel_133 (by decide +kernel)) rfl) <|
  mc_1 (mk_p (ms_aload_n (k := 0) (by decide +kernel) rfl) rfl) <|
  mc_1 (mk_p (ms_get (idx := 40) (w := 1459) (host := none) mx_c12 (by decide) ml_f_LeagueOfficeModel_40 (by decide +kernel)) rfl) <| mc_0
theorem mw_246_8 : ∀ e ∈ mt_246_8, mx_Ok mx_MT mq_246 e.1 e.2 := 
  mc_1 (mk_p (ms_iload (by decide +kernel)) rfl) <|
  mc_1 (mk_p (ms_ald (Or.inl ⟨rfl, by decide +kernel⟩)) rfl) <|
  mc_1 (mk_p (ms_dup2 (by decide +kernel)) rfl) <|
  mc_1 (mk_p (ms_ald (Or.inr (Or.inr (Or.inr ⟨rfl, by decide +kernel⟩)))) rfl) <|
  mc_1 (mk_p (ms_aload_n (k := 0) (by decide +kernel) rfl) rfl) <|
  mc_1 (mk_p (ms_iload (by decide +kernel)) rfl) <|
  mc_1 (mk_p (ms_aload_n (k := 0) (by decide +kernel) rfl) rfl) <|
  mc_1 (mk_p (ms_get (idx := 40) (w := 1459) (host := none) mx_c12 (by decide) ml_f_LeagueOfficeModel_40 (by decide +kernel)) rfl) <|
  mc_1 (mk_p (ms_iload (by decide +kernel)) rfl) <|
  mc_1 (mk_p (ms_ald (Or.inl ⟨rfl, by decide +kernel⟩)) rfl) <|
  mc_1 (mk_p (ms_iload (by decide +kernel)) rfl) <| mc_0
theorem mw_246_9 : ∀ e ∈ mt_246_9, mx_Ok mx_MT mq_246 e.1 e.2 := 
  mc_1 (mk_c (k := mq_210) rfl ⟨mo_210, 360, 1728, none, ml_m_LeagueOfficeModel_360, Or.inr (Or.inr (Or.inl ⟨12, TX12, 78, by decide, rfl, rfl, (by decide +kernel), ⟨3, rfl, mx_npd (by decide +kernel)⟩, ml_in_1730, ml_se_50⟩))⟩) <|
  mc_1 (mk_p (ms_i2l (by decide +kernel)) rfl) <|
  mc_1 (mk_p (ms_ladd (by decide +kernel)) rfl) <|
  mc_1 (mk_p (ms_last (by decide +kernel)) rfl) <|
  mc_1 (mk_p (ms_aload_n (k := 0) (by decide +kernel) rfl) rfl) <|
  mc_1 (mk_p (ms_get (idx := 133) (w := 1491) (host := none) mx_c12 (by decide) ml_f_LeagueOfficeModel_133 (by decide +kernel)) rfl) <|
  mc_1 (mk_p (ms_aload_n (k := 0) (by decide +kernel) rfl) rfl) <|
  mc_1 (mk_p (ms_get (idx := 43) (w := 1460) (host := none) mx_c12 (by decide) ml_f_LeagueOfficeModel_43 (by decide +kernel)) rfl) <|
  mc_1 (mk_p (ms_iload (by decide +kernel)) rfl) <| mc_0
theorem mw_246_10 : ∀ e ∈ mt_246_10, mx_Ok mx_MT mq_246 e.1 e.2 := 
  mc_1 (mk_p (ms_ald (Or.inl ⟨rfl, by decide +kernel⟩)) rfl) <|
  mc_1 (mk_p (ms_dup2 (by decide +kernel)) rfl) <|
  mc_1 (mk_p (ms_ald (Or.inr (Or.inr (Or.inr ⟨rfl, by decide +kernel⟩)))) rfl) <|
  mc_1 (mk_p (ms_aload_n (k := 0) (by decide +kernel) rfl) rfl) <|
  mc_1 (mk_p (ms_iload (by decide +kernel)) rfl) <|
  mc_1 (mk_p (ms_aload_n (k := 0) (by decide +kernel) rfl) rfl) <|
  mc_1 (mk_p (ms_get (idx := 43) (w := 1460) (host := none) mx_c12 (by decide) ml_f_LeagueOfficeModel_43 (by decide +kernel)) rfl) <|
  mc_1 (mk_p (ms_iload (by decide +kernel)) rfl) <|
  mc_1 (mk_p (ms_ald (Or.inl ⟨rfl, by decide +kernel⟩)) rfl) <|
  mc_1 (mk_p (ms_iload (by decide +kernel)) rfl) <| mc_0
theorem mw_246_11 : ∀ e ∈ mt_246_11, mx_Ok mx_MT mq_246 e.1 e.2 := 
  mc_1 (mk_c (k := mq_210) rfl ⟨mo_210, 360, 1728, none, ml_m_LeagueOfficeModel_360, Or.inr (Or.inr (Or.inl ⟨12, TX12, 78, by decide, rfl, rfl, (by decide +kernel), ⟨3, rfl, mx_npd (by decide +kernel)⟩, ml_in_1730, ml_se_50⟩))⟩) <|
  mc_1 (mk_p (ms_i2l (by decide +kernel)) rfl) <|
  mc_1 (mk_p (ms_ladd (by decide +kernel)) rfl) <|
  mc_1 (mk_p (ms_last (by decide +kernel)) rfl) <|
  mc_1 (mk_p (ms_aload_n (k := 0) (by decide +kernel) rfl) rfl) <|
  mc_1 (mk_p (ms_aload_n (k := 0) (by decide +kernel) rfl) rfl) <|
  mc_1 (mk_p (ms_get (idx := 40) (w := 1459) (host := none) mx_c12 (by decide) ml_f_LeagueOfficeModel_40 (by decide +kernel)) rfl) <|
  mc_1 (mk_p (ms_iload (by decide +kernel)) rfl) <|
  mc_1 (mk_p (ms_ald (Or.inl ⟨rfl, by decide +kernel⟩)) rfl) <|
  mc_1 (mk_p (ms_iload (by decide +kernel)) rfl) <| mc_0
theorem mw_246_12 : ∀ e ∈ mt_246_12, mx_Ok mx_MT mq_246 e.1 e.2 := 
  mc_1 (mk_p (ms_iload (by decide +kernel)) rfl) <|
  mc_1 (mk_c (k := mq_212) rfl ⟨mo_212, 363, 1755, none, ml_m_LeagueOfficeModel_363, Or.inr (Or.inr (Or.inl ⟨12, TX12, 78, by decide, rfl, rfl, (by decide +kernel), ⟨3, rfl, mx_npd (by decide +kernel)⟩, ml_in_1757, ml_se_54⟩))⟩) <|
  mc_1 (mk_p (ms_aload_n (k := 0) (by decide +kernel) rfl) rfl) <|
  mc_1 (mk_p (ms_aload_n (k := 0) (by decide +kernel) rfl) rfl) <|
  mc_1 (mk_p (ms_get (idx := 43) (w := 1460) (host := none) mx_c12 (by decide) ml_f_LeagueOfficeModel_43 (by decide +kernel)) rfl) <|
  mc_1 (mk_p (ms_iload (by decide +kernel)) rfl) <|
  mc_1 (mk_p (ms_ald (Or.inl ⟨rfl, by decide +kernel⟩)) rfl) <|
  mc_1 (mk_p (ms_iload (by decide +kernel)) rfl) <|
  mc_1 (mk_p (ms_iload (by decide +kernel)) rfl) <| mc_0
theorem mw_246_13 : ∀ e ∈ mt_246_13, mx_Ok mx_MT mq_246 e.1 e.2 := 
  mc_1 (mk_c (k := mq_212) rfl ⟨mo_212, 363, 1755, none, ml_m_LeagueOfficeModel_363, Or.inr (Or.inr (Or.inl ⟨12, TX12, 78, by decide, rfl, rfl, (by decide +kernel), ⟨3, rfl, mx_npd (by decide +kernel)⟩, ml_in_1757, ml_se_54⟩))⟩) <|
  mc_1 (mk_p (ms_aload_n (k := 0) (by decide +kernel) rfl) rfl) <|
  mc_1 (mk_p (ms_iload_n (k := 3) (by decide +kernel) rfl) rfl) <|
  mc_1 (mk_p (ms_iload (by decide +kernel)) rfl) <|
  mc_1 (mk_c (k := mq_208) rfl ⟨mo_208, 353, 1720, none, ml_m_LeagueOfficeModel_353, Or.inr (Or.inr (Or.inl ⟨12, TX12, 78, by decide, rfl, rfl, (by decide +kernel), ⟨2, rfl, mx_npd (by decide +kernel)⟩, ml_in_1722, ml_se_48⟩))⟩) <|
  mc_1 (mk_p (ms_if_eq (off := (22)) (by decide +kernel) (by decide)) rfl) <|
  mc_1 (mk_p (ms_aload_n (k := 0) (by decide +kernel) rfl) rfl) <|
  mc_1 (mk_p (ms_get (idx := 198) (w := 1518) (host := none) mx_c12 (by decide) ml_f_LeagueOfficeModel_198 (by decide +kernel)) rfl) <| mc_0
theorem mw_246_14 : ∀ e ∈ mt_246_14, mx_Ok mx_MT mq_246 e.1 e.2 := 
  mc_1 (mk_p (ms_iload_n (k := 1) (by decide +kernel) rfl) rfl) <|
  mc_1 (mk_p (ms_dup2 (by decide +kernel)) rfl) <|
  mc_1 (mk_p (ms_ald (Or.inr (Or.inr (Or.inr ⟨rfl, by decide +kernel⟩)))) rfl) <|
  mc_1 (mk_p (ms_aload_n (k := 0) (by decide +kernel) rfl) rfl) <|
  mc_1 (mk_p (ms_iload (by decide +kernel)) rfl) <|
  mc_1 (mk_p (ms_iload_n (k := 3) (by decide +kernel) rfl) rfl) <|
  mc_1 (mk_p (ms_iload (by decide +kernel)) rfl) <|
  mc_1 (mk_c (k := mq_210) rfl ⟨mo_210, 360, 1728, none, ml_m_LeagueOfficeModel_360, Or.inr (Or.inr (Or.inl ⟨12, TX12, 78, by decide, rfl, rfl, (by decide +kernel), ⟨3, rfl, mx_npd (by decide +kernel)⟩, ml_in_1730, ml_se_50⟩))⟩) <|
  mc_1 (mk_p (ms_i2l (by decide +kernel)) rfl) <|
  mc_1 (mk_p (ms_ladd (by decide +kernel)) rfl) <| mc_0
theorem mw_246_15 : ∀ e ∈ mt_246_15, mx_Ok mx_MT mq_246 e.1 e.2 := 
  mc_1 (mk_p (ms_last (by decide +kernel)) rfl) <|
  mc_1 (mk_p (ms_iinc (n := (1)) (by decide +kernel) (by decide +kernel) (by decide)) rfl) <|
  mc_1 (mk_p (ms_goto (off := (-157)) (by decide +kernel) (by decide)) rfl) <|
  mc_1 (mk_p (ms_iconst (n := 0) (by decide +kernel) (by decide +kernel)) rfl) <|
  mc_1 (mk_p (ms_istore (by decide +kernel) (by decide)) rfl) <|
  mc_1 (mk_p (ms_iload (by decide +kernel)) rfl) <|
  mc_1 (mk_p (ms_aload_n (k := 0) (by decide +kernel) rfl) rfl) <|
  mc_1 (mk_p (ms_get (idx := 14) (w := 1454) (host := none) mx_c12 (by decide) ml_f_LeagueOfficeModel_14 (by decide +kernel)) rfl) <| mc_0
theorem mw_246_16 : ∀ e ∈ mt_246_16, mx_Ok mx_MT mq_246 e.1 e.2 := 
  mc_1 (mk_p (ms_icmp_ge (off := (37)) (by decide +kernel) (by decide)) rfl) <|
  mc_1 (mk_p (ms_aload_n (k := 0) (by decide +kernel) rfl) rfl) <|
  mc_1 (mk_p (ms_get (idx := 21) (w := 1455) (host := none) mx_c12 (by decide) ml_f_LeagueOfficeModel_21 (by decide +kernel)) rfl) <|
  mc_1 (mk_p (ms_iload (by decide +kernel)) rfl) <|
  mc_1 (mk_p (ms_ald (Or.inl ⟨rfl, by decide +kernel⟩)) rfl) <|
  mc_1 (mk_p (ms_iload_n (k := 2) (by decide +kernel) rfl) rfl) <|
  mc_1 (mk_p (ms_icmp_ne (off := (20)) (by decide +kernel) (by decide)) rfl) <|
  mc_1 (mk_p (ms_aload_n (k := 0) (by decide +kernel) rfl) rfl) <|
  mc_1 (mk_p (ms_get (idx := 137) (w := 1492) (host := none) mx_c12 (by decide) ml_f_LeagueOfficeModel_137 (by decide +kernel)) rfl) <| mc_0
theorem mw_246_17 : ∀ e ∈ mt_246_17, mx_Ok mx_MT mq_246 e.1 e.2 := 
  mc_1 (mk_p (ms_iload (by decide +kernel)) rfl) <|
  mc_1 (mk_p (ms_aload_n (k := 0) (by decide +kernel) rfl) rfl) <|
  mc_1 (mk_p (ms_iload (by decide +kernel)) rfl) <|
  mc_1 (mk_p (ms_aload_n (k := 0) (by decide +kernel) rfl) rfl) <|
  mc_1 (mk_p (ms_get (idx := 11) (w := 1453) (host := none) mx_c12 (by decide) ml_f_LeagueOfficeModel_11 (by decide +kernel)) rfl) <|
  mc_1 (mk_c (k := mq_213) rfl ⟨mo_213, 367, 1759, none, ml_m_LeagueOfficeModel_367, Or.inr (Or.inr (Or.inl ⟨12, TX12, 78, by decide, rfl, rfl, (by decide +kernel), ⟨2, rfl, mx_npd (by decide +kernel)⟩, ml_in_1761, ml_se_55⟩))⟩) <|
  mc_1 (mk_p (ms_last (by decide +kernel)) rfl) <|
  mc_1 (mk_p (ms_iinc (n := (1)) (by decide +kernel) (by decide +kernel) (by decide)) rfl) <| mc_0
theorem mw_246_18 : ∀ e ∈ mt_246_18, mx_Ok mx_MT mq_246 e.1 e.2 := 
  mc_1 (mk_p (ms_goto (off := (-40)) (by decide +kernel) (by decide)) rfl) <|
  mc_1 (mk_r (Or.inr (Or.inr (Or.inr ⟨rfl, by decide +kernel, rfl⟩))) rfl) <| mc_0
theorem mw_246 : ∀ ch ∈ mt_246, ∀ e ∈ ch, mx_Ok mx_MT mq_246 e.1 e.2 := mc_2 mw_246_0 <| mc_2 mw_246_1 <| mc_2 mw_246_2 <| mc_2 mw_246_3 <| mc_2 mw_246_4 <| mc_2 mw_246_5 <| mc_2 mw_246_6 <| mc_2 mw_246_7 <| mc_2 mw_246_8 <| mc_2 mw_246_9 <| mc_2 mw_246_10 <| mc_2 mw_246_11 <| mc_2 mw_246_12 <| mc_2 mw_246_13 <| mc_2 mw_246_14 <| mc_2 mw_246_15 <| mc_2 mw_246_16 <| mc_2 mw_246_17 <| mc_2 mw_246_18 <| mc_3
/- 247 LeagueOfficeModel.goThrough(I)I -/
theorem mw_247_0 : ∀ e ∈ mt_247_0, mx_Ok mx_MT mq_247 e.1 e.2 := 
  mc_1 (mk_p (ms_aload_n (k := 0) (by decide +kernel) rfl) rfl) <|
  mc_1 (mk_p (ms_aload_n (k := 0) (by decide +kernel) rfl) rfl) <|
  mc_1 (mk_p (ms_get (idx := 21) (w := 1455) (host := none) mx_c12 (by decide) ml_f_LeagueOfficeModel_21 (by decide +kernel)) rfl) <|
  mc_1 (mk_p (ms_iload_n (k := 1) (by decide +kernel) rfl) rfl) <|
  mc_1 (mk_p (ms_ald (Or.inl ⟨rfl, by decide +kernel⟩)) rfl) <|
  mc_1 (mk_c (k := mq_245) rfl ⟨mo_245, 435, 1879, none, ml_m_LeagueOfficeModel_435, Or.inr (Or.inr (Or.inl ⟨12, TX12, 78, by decide, rfl, rfl, (by decide +kernel), ⟨1, rfl, mx_npd (by decide +kernel)⟩, ml_in_1881, ml_se_70⟩))⟩) <|
  mc_1 (mk_p (ms_aload_n (k := 0) (by decide +kernel) rfl) rfl) <|
  mc_1 (mk_p (ms_get (idx := 426) (w := 1515) (host := none) mx_c12 (by decide) ml_f_LeagueOfficeModel_426 (by decide +kernel)) rfl) <|
  mc_1 (mk_c (k := mq_244) rfl ⟨mo_244, 438, 1883, none, ml_m_LeagueOfficeModel_438, Or.inl ⟨rfl, (by decide +kernel), mx_npd (by decide +kernel), ml_st_1884⟩⟩) <| mc_0
theorem mw_247_1 : ∀ e ∈ mt_247_1, mx_Ok mx_MT mq_247 e.1 e.2 := 
  mc_1 (mk_p (ms_istore_n (k := 2) (by decide +kernel) rfl (by decide)) rfl) <|
  mc_1 (mk_p (ms_iconst (n := 0) (by decide +kernel) (by decide +kernel)) rfl) <|
  mc_1 (mk_p (ms_istore_n (k := 3) (by decide +kernel) rfl (by decide)) rfl) <|
  mc_1 (mk_p (ms_iload_n (k := 3) (by decide +kernel) rfl) rfl) <|
  mc_1 (mk_p (ms_iload_n (k := 2) (by decide +kernel) rfl) rfl) <|
  mc_1 (mk_p (ms_icmp_ge (off := (32)) (by decide +kernel) (by decide)) rfl) <|
  mc_1 (mk_p (ms_aload_n (k := 0) (by decide +kernel) rfl) rfl) <|
  mc_1 (mk_p (ms_iload_n (k := 3) (by decide +kernel) rfl) rfl) <|
  mc_1 (mk_p (ms_aload_n (k := 0) (by decide +kernel) rfl) rfl) <|
  mc_1 (mk_p (ms_get (idx := 21) (w := 1455) (host := none) mx_c12 (by decide) ml_f_LeagueOfficeModel_21 (by decide +kernel)) rfl) <|
  mc_1 (mk_p (ms_iload_n (k := 1) (by decide +kernel) rfl) rfl) <| mc_0
theorem mw_247_2 : ∀ e ∈ mt_247_2, mx_Ok mx_MT mq_247 e.1 e.2 := 
  mc_1 (mk_p (ms_ald (Or.inl ⟨rfl, by decide +kernel⟩)) rfl) <|
  mc_1 (mk_p (ms_iload_n (k := 1) (by decide +kernel) rfl) rfl) <|
  mc_1 (mk_c (k := mq_246) rfl ⟨mo_246, 441, 1886, none, ml_m_LeagueOfficeModel_441, Or.inr (Or.inr (Or.inl ⟨12, TX12, 78, by decide, rfl, rfl, (by decide +kernel), ⟨3, rfl, mx_npd (by decide +kernel)⟩, ml_in_1888, ml_se_71⟩))⟩) <|
  mc_1 (mk_p (ms_aload_n (k := 0) (by decide +kernel) rfl) rfl) <|
  mc_1 (mk_p (ms_get (idx := 195) (w := 1517) (host := none) mx_c12 (by decide) ml_f_LeagueOfficeModel_195 (by decide +kernel)) rfl) <|
  mc_1 (mk_p (ms_iload_n (k := 3) (by decide +kernel) rfl) rfl) <|
  mc_1 (mk_p (ms_aload_n (k := 0) (by decide +kernel) rfl) rfl) <|
  mc_1 (mk_p (ms_iload_n (k := 1) (by decide +kernel) rfl) rfl) <|
  mc_1 (mk_c (k := mq_219) rfl ⟨mo_219, 385, 1771, none, ml_m_LeagueOfficeModel_385, Or.inr (Or.inr (Or.inl ⟨12, TX12, 78, by decide, rfl, rfl, (by decide +kernel), ⟨1, rfl, mx_npd (by decide +kernel)⟩, ml_in_1773, ml_se_57⟩))⟩) <|
  mc_1 (mk_p (ms_ast (Or.inl ⟨rfl, by decide +kernel⟩)) rfl) <| mc_0
theorem mw_247_3 : ∀ e ∈ mt_247_3, mx_Ok mx_MT mq_247 e.1 e.2 := 
  mc_1 (mk_p (ms_iinc (n := (1)) (by decide +kernel) (by decide +kernel) (by decide)) rfl) <|
  mc_1 (mk_p (ms_goto (off := (-31)) (by decide +kernel) (by decide)) rfl) <|
  mc_1 (mk_p (ms_iload_n (k := 2) (by decide +kernel) rfl) rfl) <|
  mc_1 (mk_r (Or.inl ⟨rfl, by decide +kernel, _, rfl, mf_0⟩) rfl) <| mc_0
theorem mw_247 : ∀ ch ∈ mt_247, ∀ e ∈ ch, mx_Ok mx_MT mq_247 e.1 e.2 := mc_2 mw_247_0 <| mc_2 mw_247_1 <| mc_2 mw_247_2 <| mc_2 mw_247_3 <| mc_3
/- 248 LeagueOfficeModel.canHave(IZ)I -/
theorem mw_248_0 : ∀ e ∈ mt_248_0, mx_Ok mx_MT mq_248 e.1 e.2 := 
  mc_1 (mk_p (ms_aload_n (k := 0) (by decide +kernel) rfl) rfl) <|
  mc_1 (mk_p (ms_iload_n (k := 1) (by decide +kernel) rfl) rfl) <|
  mc_1 (mk_c (k := mq_247) rfl ⟨mo_247, 444, 1875, none, ml_m_LeagueOfficeModel_444, Or.inr (Or.inr (Or.inl ⟨12, TX12, 78, by decide, rfl, rfl, (by decide +kernel), ⟨1, rfl, mx_npd (by decide +kernel)⟩, ml_in_1877, ml_se_69⟩))⟩) <|
  mc_1 (mk_p (ms_istore_n (k := 3) (by decide +kernel) rfl (by decide)) rfl) <|
  mc_1 (mk_p (ms_aload_n (k := 0) (by decide +kernel) rfl) rfl) <|
  mc_1 (mk_p (ms_get (idx := 195) (w := 1517) (host := none) mx_c12 (by decide) ml_f_LeagueOfficeModel_195 (by decide +kernel)) rfl) <|
  mc_1 (mk_p (ms_iconst (n := 0) (by decide +kernel) (by decide +kernel)) rfl) <|
  mc_1 (mk_p (ms_ald (Or.inl ⟨rfl, by decide +kernel⟩)) rfl) <|
  mc_1 (mk_p (ms_istore (by decide +kernel) (by decide)) rfl) <|
  mc_1 (mk_p (ms_iconst (n := 1) (by decide +kernel) (by decide +kernel)) rfl) <|
  mc_1 (mk_p (ms_istore (by decide +kernel) (by decide)) rfl) <| mc_0
theorem mw_248_1 : ∀ e ∈ mt_248_1, mx_Ok mx_MT mq_248 e.1 e.2 := 
  mc_1 (mk_p (ms_iload (by decide +kernel)) rfl) <|
  mc_1 (mk_p (ms_iload_n (k := 3) (by decide +kernel) rfl) rfl) <|
  mc_1 (mk_p (ms_icmp_ge (off := (66)) (by decide +kernel) (by decide)) rfl) <|
  mc_1 (mk_p (ms_iload_n (k := 2) (by decide +kernel) rfl) rfl) <|
  mc_1 (mk_p (ms_if_eq (off := (30)) (by decide +kernel) (by decide)) rfl) <|
  mc_1 (mk_p (ms_aload_n (k := 0) (by decide +kernel) rfl) rfl) <|
  mc_1 (mk_p (ms_get (idx := 195) (w := 1517) (host := none) mx_c12 (by decide) ml_f_LeagueOfficeModel_195 (by decide +kernel)) rfl) <|
  mc_1 (mk_p (ms_iload (by decide +kernel)) rfl) <| mc_0
theorem mw_248_2 : ∀ e ∈ mt_248_2, mx_Ok mx_MT mq_248 e.1 e.2 := 
  mc_1 (mk_p (ms_ald (Or.inl ⟨rfl, by decide +kernel⟩)) rfl) <|
  mc_1 (mk_p (ms_iload (by decide +kernel)) rfl) <|
  mc_1 (mk_p (ms_icmp_le (off := (13)) (by decide +kernel) (by decide)) rfl) <|
  mc_1 (mk_p (ms_aload_n (k := 0) (by decide +kernel) rfl) rfl) <|
  mc_1 (mk_p (ms_get (idx := 195) (w := 1517) (host := none) mx_c12 (by decide) ml_f_LeagueOfficeModel_195 (by decide +kernel)) rfl) <|
  mc_1 (mk_p (ms_iload (by decide +kernel)) rfl) <|
  mc_1 (mk_p (ms_ald (Or.inl ⟨rfl, by decide +kernel⟩)) rfl) <|
  mc_1 (mk_p (ms_goto (off := (32)) (by decide +kernel) (by decide)) rfl) <| mc_0
theorem mw_248_3 : ∀ e ∈ mt_248_3, mx_Ok mx_MT mq_248 e.1 e.2 := 
  mc_1 (mk_p (ms_iload (by decide +kernel)) rfl) <|
  mc_1 (mk_p (ms_goto (off := (27)) (by decide +kernel) (by decide)) rfl) <|
  mc_1 (mk_p (ms_aload_n (k := 0) (by decide +kernel) rfl) rfl) <|
  mc_1 (mk_p (ms_get (idx := 195) (w := 1517) (host := none) mx_c12 (by decide) ml_f_LeagueOfficeModel_195 (by decide +kernel)) rfl) <|
  mc_1 (mk_p (ms_iload (by decide +kernel)) rfl) <|
  mc_1 (mk_p (ms_ald (Or.inl ⟨rfl, by decide +kernel⟩)) rfl) <|
  mc_1 (mk_p (ms_iload (by decide +kernel)) rfl) <|
  mc_1 (mk_p (ms_icmp_ge (off := (13)) (by decide +kernel) (by decide)) rfl) <| mc_0
theorem mw_248_4 : ∀ e ∈ mt_248_4, mx_Ok mx_MT mq_248 e.1 e.2 := 
  mc_1 (mk_p (ms_aload_n (k := 0) (by decide +kernel) rfl) rfl) <|
  mc_1 (mk_p (ms_get (idx := 195) (w := 1517) (host := none) mx_c12 (by decide) ml_f_LeagueOfficeModel_195 (by decide +kernel)) rfl) <|
  mc_1 (mk_p (ms_iload (by decide +kernel)) rfl) <|
  mc_1 (mk_p (ms_ald (Or.inl ⟨rfl, by decide +kernel⟩)) rfl) <|
  mc_1 (mk_p (ms_goto (off := (5)) (by decide +kernel) (by decide)) rfl) <|
  mc_1 (mk_p (ms_iload (by decide +kernel)) rfl) <|
  mc_1 (mk_p (ms_istore (by decide +kernel) (by decide)) rfl) <| mc_0
theorem mw_248_5 : ∀ e ∈ mt_248_5, mx_Ok mx_MT mq_248 e.1 e.2 := 
  mc_1 (mk_p (ms_iinc (n := (1)) (by decide +kernel) (by decide +kernel) (by decide)) rfl) <|
  mc_1 (mk_p (ms_goto (off := (-66)) (by decide +kernel) (by decide)) rfl) <|
  mc_1 (mk_p (ms_iload (by decide +kernel)) rfl) <|
  mc_1 (mk_r (Or.inl ⟨rfl, by decide +kernel, _, rfl, mf_0⟩) rfl) <| mc_0
theorem mw_248 : ∀ ch ∈ mt_248, ∀ e ∈ ch, mx_Ok mx_MT mq_248 e.1 e.2 := mc_2 mw_248_0 <| mc_2 mw_248_1 <| mc_2 mw_248_2 <| mc_2 mw_248_3 <| mc_2 mw_248_4 <| mc_2 mw_248_5 <| mc_3
/- 249 LeagueOfficeModel.can(II)I -/
theorem mw_249_0 : ∀ e ∈ mt_249_0, mx_Ok mx_MT mq_249 e.1 e.2 := 
  mc_1 (mk_p (ms_aload_n (k := 0) (by decide +kernel) rfl) rfl) <|
  mc_1 (mk_p (ms_iload_n (k := 1) (by decide +kernel) rfl) rfl) <|
  mc_1 (mk_c (k := mq_166) rfl ⟨mo_166, 28, 1332, none, ml_m_LeagueOfficeModel_28, Or.inr (Or.inr (Or.inl ⟨12, TX12, 78, by decide, rfl, rfl, (by decide +kernel), ⟨1, rfl, mx_npd (by decide +kernel)⟩, ml_in_1334, ml_se_30⟩))⟩) <|
  mc_1 (mk_p (ms_if_eq (off := (12)) (by decide +kernel) (by decide)) rfl) <|
  mc_1 (mk_p (ms_iload_n (k := 2) (by decide +kernel) rfl) rfl) <|
  mc_1 (mk_p (ms_iconst (n := 0) (by decide +kernel) (by decide +kernel)) rfl) <|
  mc_1 (mk_p (ms_iconst (n := 1) (by decide +kernel) (by decide +kernel)) rfl) <|
  mc_1 (mk_c (k := mq_163) rfl ⟨mo_163, 7, 1318, none, ml_m_LeagueOfficeModel_7, Or.inl ⟨rfl, (by decide +kernel), mx_npd (by decide +kernel), ml_st_1319⟩⟩) <|
  mc_1 (mk_p (ms_if_ne (off := (6)) (by decide +kernel) (by decide)) rfl) <| mc_0
theorem mw_249_1 : ∀ e ∈ mt_249_1, mx_Ok mx_MT mq_249 e.1 e.2 := 
  mc_1 (mk_p (ms_bipush (n := (-2)) (by decide +kernel) (by decide +kernel)) rfl) <|
  mc_1 (mk_r (Or.inl ⟨rfl, by decide +kernel, _, rfl, mf_0⟩) rfl) <|
  mc_1 (mk_p (ms_aload_n (k := 0) (by decide +kernel) rfl) rfl) <|
  mc_1 (mk_p (ms_aload_n (k := 0) (by decide +kernel) rfl) rfl) <|
  mc_1 (mk_p (ms_get (idx := 21) (w := 1455) (host := none) mx_c12 (by decide) ml_f_LeagueOfficeModel_21 (by decide +kernel)) rfl) <|
  mc_1 (mk_p (ms_iload_n (k := 1) (by decide +kernel) rfl) rfl) <|
  mc_1 (mk_p (ms_ald (Or.inl ⟨rfl, by decide +kernel⟩)) rfl) <|
  mc_1 (mk_c (k := mq_241) rfl ⟨mo_241, 429, 1863, none, ml_m_LeagueOfficeModel_429, Or.inr (Or.inr (Or.inl ⟨12, TX12, 78, by decide, rfl, rfl, (by decide +kernel), ⟨1, rfl, mx_npd (by decide +kernel)⟩, ml_in_1865, ml_se_67⟩))⟩) <|
  mc_1 (mk_p (ms_aload_n (k := 0) (by decide +kernel) rfl) rfl) <|
  mc_1 (mk_p (ms_get (idx := 426) (w := 1515) (host := none) mx_c12 (by decide) ml_f_LeagueOfficeModel_426 (by decide +kernel)) rfl) <| mc_0
theorem mw_249_2 : ∀ e ∈ mt_249_2, mx_Ok mx_MT mq_249 e.1 e.2 := 
  mc_1 (mk_p (ms_bipush (n := 6) (by decide +kernel) (by decide +kernel)) rfl) <|
  mc_1 (mk_p (ms_icmp_le (off := (8)) (by decide +kernel) (by decide)) rfl) <|
  mc_1 (mk_p (ms_bipush (n := (-3)) (by decide +kernel) (by decide +kernel)) rfl) <|
  mc_1 (mk_p (ms_goto (off := (18)) (by decide +kernel) (by decide)) rfl) <|
  mc_1 (mk_p (ms_aload_n (k := 0) (by decide +kernel) rfl) rfl) <|
  mc_1 (mk_p (ms_iload_n (k := 1) (by decide +kernel) rfl) rfl) <|
  mc_1 (mk_p (ms_iload_n (k := 2) (by decide +kernel) rfl) rfl) <|
  mc_1 (mk_p (ms_iconst (n := 1) (by decide +kernel) (by decide +kernel)) rfl) <| mc_0
theorem mw_249_3 : ∀ e ∈ mt_249_3, mx_Ok mx_MT mq_249 e.1 e.2 := 
  mc_1 (mk_p (ms_icmp_ne (off := (7)) (by decide +kernel) (by decide)) rfl) <|
  mc_1 (mk_p (ms_iconst (n := 1) (by decide +kernel) (by decide +kernel)) rfl) <|
  mc_1 (mk_p (ms_goto (off := (4)) (by decide +kernel) (by decide)) rfl) <|
  mc_1 (mk_p (ms_iconst (n := 0) (by decide +kernel) (by decide +kernel)) rfl) <|
  mc_1 (mk_c (k := mq_248) rfl ⟨mo_248, 447, 1871, none, ml_m_LeagueOfficeModel_447, Or.inr (Or.inr (Or.inl ⟨12, TX12, 78, by decide, rfl, rfl, (by decide +kernel), ⟨2, rfl, mx_npd (by decide +kernel)⟩, ml_in_1873, ml_se_68⟩))⟩) <|
  mc_1 (mk_r (Or.inl ⟨rfl, by decide +kernel, _, rfl, mf_0⟩) rfl) <| mc_0
theorem mw_249 : ∀ ch ∈ mt_249, ∀ e ∈ ch, mx_Ok mx_MT mq_249 e.1 e.2 := mc_2 mw_249_0 <| mc_2 mw_249_1 <| mc_2 mw_249_2 <| mc_2 mw_249_3 <| mc_3
/- 250 LeagueOfficeModel.sure(II)I -/
theorem mw_250_0 : ∀ e ∈ mt_250_0, mx_Ok mx_MT mq_250 e.1 e.2 := 
  mc_1 (mk_p (ms_aload_n (k := 0) (by decide +kernel) rfl) rfl) <|
  mc_1 (mk_p (ms_iload_n (k := 1) (by decide +kernel) rfl) rfl) <|
  mc_1 (mk_c (k := mq_166) rfl ⟨mo_166, 28, 1332, none, ml_m_LeagueOfficeModel_28, Or.inr (Or.inr (Or.inl ⟨12, TX12, 78, by decide, rfl, rfl, (by decide +kernel), ⟨1, rfl, mx_npd (by decide +kernel)⟩, ml_in_1334, ml_se_30⟩))⟩) <|
  mc_1 (mk_p (ms_if_eq (off := (13)) (by decide +kernel) (by decide)) rfl) <|
  mc_1 (mk_p (ms_iload_n (k := 2) (by decide +kernel) rfl) rfl) <|
  mc_1 (mk_p (ms_iconst (n := 0) (by decide +kernel) (by decide +kernel)) rfl) <|
  mc_1 (mk_p (ms_bipush (n := 11) (by decide +kernel) (by decide +kernel)) rfl) <|
  mc_1 (mk_c (k := mq_163) rfl ⟨mo_163, 7, 1318, none, ml_m_LeagueOfficeModel_7, Or.inl ⟨rfl, (by decide +kernel), mx_npd (by decide +kernel), ml_st_1319⟩⟩) <|
  mc_1 (mk_p (ms_if_ne (off := (6)) (by decide +kernel) (by decide)) rfl) <| mc_0
theorem mw_250_1 : ∀ e ∈ mt_250_1, mx_Ok mx_MT mq_250 e.1 e.2 := 
  mc_1 (mk_p (ms_bipush (n := (-2)) (by decide +kernel) (by decide +kernel)) rfl) <|
  mc_1 (mk_r (Or.inl ⟨rfl, by decide +kernel, _, rfl, mf_0⟩) rfl) <|
  mc_1 (mk_p (ms_aload_n (k := 0) (by decide +kernel) rfl) rfl) <|
  mc_1 (mk_p (ms_aload_n (k := 0) (by decide +kernel) rfl) rfl) <|
  mc_1 (mk_p (ms_get (idx := 21) (w := 1455) (host := none) mx_c12 (by decide) ml_f_LeagueOfficeModel_21 (by decide +kernel)) rfl) <|
  mc_1 (mk_p (ms_iload_n (k := 1) (by decide +kernel) rfl) rfl) <|
  mc_1 (mk_p (ms_ald (Or.inl ⟨rfl, by decide +kernel⟩)) rfl) <|
  mc_1 (mk_c (k := mq_241) rfl ⟨mo_241, 429, 1863, none, ml_m_LeagueOfficeModel_429, Or.inr (Or.inr (Or.inl ⟨12, TX12, 78, by decide, rfl, rfl, (by decide +kernel), ⟨1, rfl, mx_npd (by decide +kernel)⟩, ml_in_1865, ml_se_67⟩))⟩) <|
  mc_1 (mk_p (ms_aload_n (k := 0) (by decide +kernel) rfl) rfl) <| mc_0
theorem mw_250_2 : ∀ e ∈ mt_250_2, mx_Ok mx_MT mq_250 e.1 e.2 := 
  mc_1 (mk_p (ms_get (idx := 426) (w := 1515) (host := none) mx_c12 (by decide) ml_f_LeagueOfficeModel_426 (by decide +kernel)) rfl) <|
  mc_1 (mk_p (ms_bipush (n := 6) (by decide +kernel) (by decide +kernel)) rfl) <|
  mc_1 (mk_p (ms_icmp_le (off := (8)) (by decide +kernel) (by decide)) rfl) <|
  mc_1 (mk_p (ms_bipush (n := (-3)) (by decide +kernel) (by decide +kernel)) rfl) <|
  mc_1 (mk_p (ms_goto (off := (18)) (by decide +kernel) (by decide)) rfl) <|
  mc_1 (mk_p (ms_aload_n (k := 0) (by decide +kernel) rfl) rfl) <|
  mc_1 (mk_p (ms_iload_n (k := 1) (by decide +kernel) rfl) rfl) <|
  mc_1 (mk_p (ms_iconst (n := 1) (by decide +kernel) (by decide +kernel)) rfl) <| mc_0
theorem mw_250_3 : ∀ e ∈ mt_250_3, mx_Ok mx_MT mq_250 e.1 e.2 := 
  mc_1 (mk_c (k := mq_248) rfl ⟨mo_248, 447, 1871, none, ml_m_LeagueOfficeModel_447, Or.inr (Or.inr (Or.inl ⟨12, TX12, 78, by decide, rfl, rfl, (by decide +kernel), ⟨2, rfl, mx_npd (by decide +kernel)⟩, ml_in_1873, ml_se_68⟩))⟩) <|
  mc_1 (mk_p (ms_iload_n (k := 2) (by decide +kernel) rfl) rfl) <|
  mc_1 (mk_p (ms_icmp_gt (off := (7)) (by decide +kernel) (by decide)) rfl) <|
  mc_1 (mk_p (ms_iconst (n := 1) (by decide +kernel) (by decide +kernel)) rfl) <|
  mc_1 (mk_p (ms_goto (off := (4)) (by decide +kernel) (by decide)) rfl) <|
  mc_1 (mk_p (ms_iconst (n := 0) (by decide +kernel) (by decide +kernel)) rfl) <|
  mc_1 (mk_r (Or.inl ⟨rfl, by decide +kernel, _, rfl, mf_0⟩) rfl) <| mc_0
theorem mw_250 : ∀ ch ∈ mt_250, ∀ e ∈ ch, mx_Ok mx_MT mq_250 e.1 e.2 := mc_2 mw_250_0 <| mc_2 mw_250_1 <| mc_2 mw_250_2 <| mc_2 mw_250_3 <| mc_3
/- 251 LeagueOfficeModel.needs(II)I -/
theorem mw_251_0 : ∀ e ∈ mt_251_0, mx_Ok mx_MT mq_251 e.1 e.2 := 
  mc_1 (mk_p (ms_aload_n (k := 0) (by decide +kernel) rfl) rfl) <|
  mc_1 (mk_p (ms_iload_n (k := 1) (by decide +kernel) rfl) rfl) <|
  mc_1 (mk_c (k := mq_166) rfl ⟨mo_166, 28, 1332, none, ml_m_LeagueOfficeModel_28, Or.inr (Or.inr (Or.inl ⟨12, TX12, 78, by decide, rfl, rfl, (by decide +kernel), ⟨1, rfl, mx_npd (by decide +kernel)⟩, ml_in_1334, ml_se_30⟩))⟩) <|
  mc_1 (mk_p (ms_if_eq (off := (13)) (by decide +kernel) (by decide)) rfl) <|
  mc_1 (mk_p (ms_iload_n (k := 2) (by decide +kernel) rfl) rfl) <|
  mc_1 (mk_p (ms_iconst (n := 0) (by decide +kernel) (by decide +kernel)) rfl) <|
  mc_1 (mk_p (ms_bipush (n := 11) (by decide +kernel) (by decide +kernel)) rfl) <|
  mc_1 (mk_c (k := mq_163) rfl ⟨mo_163, 7, 1318, none, ml_m_LeagueOfficeModel_7, Or.inl ⟨rfl, (by decide +kernel), mx_npd (by decide +kernel), ml_st_1319⟩⟩) <|
  mc_1 (mk_p (ms_if_ne (off := (6)) (by decide +kernel) (by decide)) rfl) <| mc_0
theorem mw_251_1 : ∀ e ∈ mt_251_1, mx_Ok mx_MT mq_251 e.1 e.2 := 
  mc_1 (mk_p (ms_bipush (n := (-2)) (by decide +kernel) (by decide +kernel)) rfl) <|
  mc_1 (mk_r (Or.inl ⟨rfl, by decide +kernel, _, rfl, mf_0⟩) rfl) <|
  mc_1 (mk_p (ms_aload_n (k := 0) (by decide +kernel) rfl) rfl) <|
  mc_1 (mk_p (ms_aload_n (k := 0) (by decide +kernel) rfl) rfl) <|
  mc_1 (mk_p (ms_get (idx := 21) (w := 1455) (host := none) mx_c12 (by decide) ml_f_LeagueOfficeModel_21 (by decide +kernel)) rfl) <|
  mc_1 (mk_p (ms_iload_n (k := 1) (by decide +kernel) rfl) rfl) <|
  mc_1 (mk_p (ms_ald (Or.inl ⟨rfl, by decide +kernel⟩)) rfl) <|
  mc_1 (mk_c (k := mq_241) rfl ⟨mo_241, 429, 1863, none, ml_m_LeagueOfficeModel_429, Or.inr (Or.inr (Or.inl ⟨12, TX12, 78, by decide, rfl, rfl, (by decide +kernel), ⟨1, rfl, mx_npd (by decide +kernel)⟩, ml_in_1865, ml_se_67⟩))⟩) <|
  mc_1 (mk_p (ms_aload_n (k := 0) (by decide +kernel) rfl) rfl) <| mc_0
theorem mw_251_2 : ∀ e ∈ mt_251_2, mx_Ok mx_MT mq_251 e.1 e.2 := 
  mc_1 (mk_p (ms_get (idx := 426) (w := 1515) (host := none) mx_c12 (by decide) ml_f_LeagueOfficeModel_426 (by decide +kernel)) rfl) <|
  mc_1 (mk_p (ms_bipush (n := 6) (by decide +kernel) (by decide +kernel)) rfl) <|
  mc_1 (mk_p (ms_icmp_le (off := (6)) (by decide +kernel) (by decide)) rfl) <|
  mc_1 (mk_p (ms_bipush (n := (-3)) (by decide +kernel) (by decide +kernel)) rfl) <|
  mc_1 (mk_r (Or.inl ⟨rfl, by decide +kernel, _, rfl, mf_0⟩) rfl) <|
  mc_1 (mk_p (ms_aload_n (k := 0) (by decide +kernel) rfl) rfl) <|
  mc_1 (mk_p (ms_iload_n (k := 1) (by decide +kernel) rfl) rfl) <|
  mc_1 (mk_c (k := mq_247) rfl ⟨mo_247, 444, 1875, none, ml_m_LeagueOfficeModel_444, Or.inr (Or.inr (Or.inl ⟨12, TX12, 78, by decide, rfl, rfl, (by decide +kernel), ⟨1, rfl, mx_npd (by decide +kernel)⟩, ml_in_1877, ml_se_69⟩))⟩) <| mc_0
theorem mw_251_3 : ∀ e ∈ mt_251_3, mx_Ok mx_MT mq_251 e.1 e.2 := 
  mc_1 (mk_p (ms_istore_n (k := 3) (by decide +kernel) rfl (by decide)) rfl) <|
  mc_1 (mk_p (ms_iconst (n := 0) (by decide +kernel) (by decide +kernel)) rfl) <|
  mc_1 (mk_p (ms_istore (by decide +kernel) (by decide)) rfl) <|
  mc_1 (mk_p (ms_lconst (n := 0) (by decide +kernel) rfl) rfl) <|
  mc_1 (mk_p (ms_lstore (by decide +kernel) (by decide)) rfl) <|
  mc_1 (mk_p (ms_iconst (n := 0) (by decide +kernel) (by decide +kernel)) rfl) <|
  mc_1 (mk_p (ms_istore (by decide +kernel) (by decide)) rfl) <|
  mc_1 (mk_p (ms_iload (by decide +kernel)) rfl) <|
  mc_1 (mk_p (ms_iload_n (k := 3) (by decide +kernel) rfl) rfl) <|
  mc_1 (mk_p (ms_icmp_ge (off := (109)) (by decide +kernel) (by decide)) rfl) <| mc_0
theorem mw_251_4 : ∀ e ∈ mt_251_4, mx_Ok mx_MT mq_251 e.1 e.2 := 
  mc_1 (mk_p (ms_iload (by decide +kernel)) rfl) <|
  mc_1 (mk_p (ms_if_eq (off := (19)) (by decide +kernel) (by decide)) rfl) <|
  mc_1 (mk_p (ms_aload_n (k := 0) (by decide +kernel) rfl) rfl) <|
  mc_1 (mk_p (ms_get (idx := 198) (w := 1518) (host := none) mx_c12 (by decide) ml_f_LeagueOfficeModel_198 (by decide +kernel)) rfl) <|
  mc_1 (mk_p (ms_iload (by decide +kernel)) rfl) <|
  mc_1 (mk_p (ms_ald (Or.inr (Or.inr (Or.inr ⟨rfl, by decide +kernel⟩)))) rfl) <|
  mc_1 (mk_p (ms_lload (by decide +kernel)) rfl) <|
  mc_1 (mk_p (ms_lcmp (by decide +kernel)) rfl) <|
  mc_1 (mk_p (ms_if_lt (off := (6)) (by decide +kernel) (by decide)) rfl) <| mc_0
theorem mw_251_5 : ∀ e ∈ mt_251_5, mx_Ok mx_MT mq_251 e.1 e.2 := 
  mc_1 (mk_p (ms_goto (off := (82)) (by decide +kernel) (by decide)) rfl) <|
  mc_1 (mk_p (ms_iconst (n := 1) (by decide +kernel) (by decide +kernel)) rfl) <|
  mc_1 (mk_p (ms_istore (by decide +kernel) (by decide)) rfl) <|
  mc_1 (mk_p (ms_iconst (n := 0) (by decide +kernel) (by decide +kernel)) rfl) <|
  mc_1 (mk_p (ms_istore (by decide +kernel) (by decide)) rfl) <|
  mc_1 (mk_p (ms_iload (by decide +kernel)) rfl) <|
  mc_1 (mk_p (ms_iload_n (k := 3) (by decide +kernel) rfl) rfl) <|
  mc_1 (mk_p (ms_icmp_ge (off := (50)) (by decide +kernel) (by decide)) rfl) <| mc_0
theorem mw_251_6 : ∀ e ∈ mt_251_6, mx_Ok mx_MT mq_251 e.1 e.2 := 
  mc_1 (mk_p (ms_iload (by decide +kernel)) rfl) <|
  mc_1 (mk_p (ms_if_eq (off := (36)) (by decide +kernel) (by decide)) rfl) <|
  mc_1 (mk_p (ms_aload_n (k := 0) (by decide +kernel) rfl) rfl) <|
  mc_1 (mk_p (ms_get (idx := 198) (w := 1518) (host := none) mx_c12 (by decide) ml_f_LeagueOfficeModel_198 (by decide +kernel)) rfl) <|
  mc_1 (mk_p (ms_iload (by decide +kernel)) rfl) <|
  mc_1 (mk_p (ms_ald (Or.inr (Or.inr (Or.inr ⟨rfl, by decide +kernel⟩)))) rfl) <|
  mc_1 (mk_p (ms_aload_n (k := 0) (by decide +kernel) rfl) rfl) <|
  mc_1 (mk_p (ms_get (idx := 198) (w := 1518) (host := none) mx_c12 (by decide) ml_f_LeagueOfficeModel_198 (by decide +kernel)) rfl) <| mc_0
theorem mw_251_7 : ∀ e ∈ mt_251_7, mx_Ok mx_MT mq_251 e.1 e.2 := 
  mc_1 (mk_p (ms_iload (by decide +kernel)) rfl) <|
  mc_1 (mk_p (ms_ald (Or.inr (Or.inr (Or.inr ⟨rfl, by decide +kernel⟩)))) rfl) <|
  mc_1 (mk_p (ms_lcmp (by decide +kernel)) rfl) <|
  mc_1 (mk_p (ms_if_lt (off := (14)) (by decide +kernel) (by decide)) rfl) <|
  mc_1 (mk_p (ms_aload_n (k := 0) (by decide +kernel) rfl) rfl) <|
  mc_1 (mk_p (ms_get (idx := 195) (w := 1517) (host := none) mx_c12 (by decide) ml_f_LeagueOfficeModel_195 (by decide +kernel)) rfl) <|
  mc_1 (mk_p (ms_iload (by decide +kernel)) rfl) <|
  mc_1 (mk_p (ms_ald (Or.inl ⟨rfl, by decide +kernel⟩)) rfl) <|
  mc_1 (mk_p (ms_iload_n (k := 2) (by decide +kernel) rfl) rfl) <| mc_0
theorem mw_251_8 : ∀ e ∈ mt_251_8, mx_Ok mx_MT mq_251 e.1 e.2 := 
  mc_1 (mk_p (ms_icmp_gt (off := (7)) (by decide +kernel) (by decide)) rfl) <|
  mc_1 (mk_p (ms_iconst (n := 1) (by decide +kernel) (by decide +kernel)) rfl) <|
  mc_1 (mk_p (ms_goto (off := (4)) (by decide +kernel) (by decide)) rfl) <|
  mc_1 (mk_p (ms_iconst (n := 0) (by decide +kernel) (by decide +kernel)) rfl) <|
  mc_1 (mk_p (ms_istore (by decide +kernel) (by decide)) rfl) <|
  mc_1 (mk_p (ms_iinc (n := (1)) (by decide +kernel) (by decide +kernel) (by decide)) rfl) <|
  mc_1 (mk_p (ms_goto (off := (-50)) (by decide +kernel) (by decide)) rfl) <| mc_0
theorem mw_251_9 : ∀ e ∈ mt_251_9, mx_Ok mx_MT mq_251 e.1 e.2 := 
  mc_1 (mk_p (ms_iload (by decide +kernel)) rfl) <|
  mc_1 (mk_p (ms_if_ne (off := (6)) (by decide +kernel) (by decide)) rfl) <|
  mc_1 (mk_p (ms_goto (off := (15)) (by decide +kernel) (by decide)) rfl) <|
  mc_1 (mk_p (ms_iconst (n := 1) (by decide +kernel) (by decide +kernel)) rfl) <|
  mc_1 (mk_p (ms_istore (by decide +kernel) (by decide)) rfl) <|
  mc_1 (mk_p (ms_aload_n (k := 0) (by decide +kernel) rfl) rfl) <|
  mc_1 (mk_p (ms_get (idx := 198) (w := 1518) (host := none) mx_c12 (by decide) ml_f_LeagueOfficeModel_198 (by decide +kernel)) rfl) <|
  mc_1 (mk_p (ms_iload (by decide +kernel)) rfl) <| mc_0
theorem mw_251_10 : ∀ e ∈ mt_251_10, mx_Ok mx_MT mq_251 e.1 e.2 := 
  mc_1 (mk_p (ms_ald (Or.inr (Or.inr (Or.inr ⟨rfl, by decide +kernel⟩)))) rfl) <|
  mc_1 (mk_p (ms_lstore (by decide +kernel) (by decide)) rfl) <|
  mc_1 (mk_p (ms_iinc (n := (1)) (by decide +kernel) (by decide +kernel) (by decide)) rfl) <|
  mc_1 (mk_p (ms_goto (off := (-109)) (by decide +kernel) (by decide)) rfl) <|
  mc_1 (mk_p (ms_iload (by decide +kernel)) rfl) <|
  mc_1 (mk_p (ms_if_eq (off := (9)) (by decide +kernel) (by decide)) rfl) <|
  mc_1 (mk_p (ms_lload (by decide +kernel)) rfl) <| mc_0
theorem mw_251_11 : ∀ e ∈ mt_251_11, mx_Ok mx_MT mq_251 e.1 e.2 := 
  mc_1 (mk_p (ms_l2i (by decide +kernel)) rfl) <|
  mc_1 (mk_p (ms_goto (off := (4)) (by decide +kernel) (by decide)) rfl) <|
  mc_1 (mk_p (ms_iconst (n := (-1)) (by decide +kernel) (by decide +kernel)) rfl) <|
  mc_1 (mk_r (Or.inl ⟨rfl, by decide +kernel, _, rfl, mf_0⟩) rfl) <| mc_0
theorem mw_251 : ∀ ch ∈ mt_251, ∀ e ∈ ch, mx_Ok mx_MT mq_251 e.1 e.2 := mc_2 mw_251_0 <| mc_2 mw_251_1 <| mc_2 mw_251_2 <| mc_2 mw_251_3 <| mc_2 mw_251_4 <| mc_2 mw_251_5 <| mc_2 mw_251_6 <| mc_2 mw_251_7 <| mc_2 mw_251_8 <| mc_2 mw_251_9 <| mc_2 mw_251_10 <| mc_2 mw_251_11 <| mc_3
/- 252 LeagueOfficeModel.gatePart(I)I -/
theorem mw_252_0 : ∀ e ∈ mt_252_0, mx_Ok mx_MT mq_252 e.1 e.2 := 
  mc_1 (mk_p (ms_iconst (n := 0) (by decide +kernel) (by decide +kernel)) rfl) <|
  mc_1 (mk_p (ms_istore_n (k := 2) (by decide +kernel) rfl (by decide)) rfl) <|
  mc_1 (mk_p (ms_iconst (n := 0) (by decide +kernel) (by decide +kernel)) rfl) <|
  mc_1 (mk_p (ms_istore_n (k := 3) (by decide +kernel) rfl (by decide)) rfl) <|
  mc_1 (mk_p (ms_iload_n (k := 3) (by decide +kernel) rfl) rfl) <|
  mc_1 (mk_p (ms_aload_n (k := 0) (by decide +kernel) rfl) rfl) <|
  mc_1 (mk_p (ms_get (idx := 31) (w := 1457) (host := none) mx_c12 (by decide) ml_f_LeagueOfficeModel_31 (by decide +kernel)) rfl) <|
  mc_1 (mk_p (ms_icmp_ge (off := (87)) (by decide +kernel) (by decide)) rfl) <|
  mc_1 (mk_p (ms_aload_n (k := 0) (by decide +kernel) rfl) rfl) <|
  mc_1 (mk_p (ms_iload_n (k := 1) (by decide +kernel) rfl) rfl) <|
  mc_1 (mk_p (ms_iload_n (k := 3) (by decide +kernel) rfl) rfl) <|
  mc_1 (mk_c (k := mq_208) rfl ⟨mo_208, 353, 1720, none, ml_m_LeagueOfficeModel_353, Or.inr (Or.inr (Or.inl ⟨12, TX12, 78, by decide, rfl, rfl, (by decide +kernel), ⟨2, rfl, mx_npd (by decide +kernel)⟩, ml_in_1722, ml_se_48⟩))⟩) <| mc_0
theorem mw_252_1 : ∀ e ∈ mt_252_1, mx_Ok mx_MT mq_252 e.1 e.2 := 
  mc_1 (mk_p (ms_if_eq (off := (72)) (by decide +kernel) (by decide)) rfl) <|
  mc_1 (mk_p (ms_aload_n (k := 0) (by decide +kernel) rfl) rfl) <|
  mc_1 (mk_p (ms_iload_n (k := 3) (by decide +kernel) rfl) rfl) <|
  mc_1 (mk_p (ms_aload_n (k := 0) (by decide +kernel) rfl) rfl) <|
  mc_1 (mk_p (ms_get (idx := 11) (w := 1453) (host := none) mx_c12 (by decide) ml_f_LeagueOfficeModel_11 (by decide +kernel)) rfl) <|
  mc_1 (mk_c (k := mq_179) rfl ⟨mo_179, 80, 1372, none, ml_m_LeagueOfficeModel_80, Or.inr (Or.inr (Or.inl ⟨12, TX12, 78, by decide, rfl, rfl, (by decide +kernel), ⟨2, rfl, mx_npd (by decide +kernel)⟩, ml_in_1374, ml_se_32⟩))⟩) <|
  mc_1 (mk_p (ms_if_ge (off := (6)) (by decide +kernel) (by decide)) rfl) <| mc_0
theorem mw_252_2 : ∀ e ∈ mt_252_2, mx_Ok mx_MT mq_252 e.1 e.2 := 
  mc_1 (mk_p (ms_goto (off := (57)) (by decide +kernel) (by decide)) rfl) <|
  mc_1 (mk_p (ms_aload_n (k := 0) (by decide +kernel) rfl) rfl) <|
  mc_1 (mk_p (ms_get (idx := 37) (w := 1458) (host := none) mx_c12 (by decide) ml_f_LeagueOfficeModel_37 (by decide +kernel)) rfl) <|
  mc_1 (mk_p (ms_iload_n (k := 3) (by decide +kernel) rfl) rfl) <|
  mc_1 (mk_p (ms_ald (Or.inl ⟨rfl, by decide +kernel⟩)) rfl) <|
  mc_1 (mk_c (k := mq_174) rfl ⟨mo_174, 61, 1358, none, ml_m_LeagueOfficeModel_61, Or.inl ⟨rfl, (by decide +kernel), mx_npd (by decide +kernel), ml_st_1359⟩⟩) <|
  mc_1 (mk_p (ms_aload_n (k := 0) (by decide +kernel) rfl) rfl) <|
  mc_1 (mk_p (ms_get (idx := 37) (w := 1458) (host := none) mx_c12 (by decide) ml_f_LeagueOfficeModel_37 (by decide +kernel)) rfl) <| mc_0
theorem mw_252_3 : ∀ e ∈ mt_252_3, mx_Ok mx_MT mq_252 e.1 e.2 := 
  mc_1 (mk_p (ms_iload_n (k := 3) (by decide +kernel) rfl) rfl) <|
  mc_1 (mk_p (ms_ald (Or.inl ⟨rfl, by decide +kernel⟩)) rfl) <|
  mc_1 (mk_c (k := mq_175) rfl ⟨mo_175, 65, 1361, none, ml_m_LeagueOfficeModel_65, Or.inl ⟨rfl, (by decide +kernel), mx_npd (by decide +kernel), ml_st_1362⟩⟩) <|
  mc_1 (mk_p (ms_imul (by decide +kernel)) rfl) <|
  mc_1 (mk_p (ms_bipush (n := 100) (by decide +kernel) (by decide +kernel)) rfl) <|
  mc_1 (mk_p (ms_idiv (by decide +kernel)) rfl) <|
  mc_1 (mk_p (ms_istore (by decide +kernel) (by decide)) rfl) <|
  mc_1 (mk_p (ms_iload_n (k := 2) (by decide +kernel) rfl) rfl) <|
  mc_1 (mk_p (ms_aload_n (k := 0) (by decide +kernel) rfl) rfl) <|
  mc_1 (mk_p (ms_get (idx := 40) (w := 1459) (host := none) mx_c12 (by decide) ml_f_LeagueOfficeModel_40 (by decide +kernel)) rfl) <| mc_0
theorem mw_252_4 : ∀ e ∈ mt_252_4, mx_Ok mx_MT mq_252 e.1 e.2 := 
  mc_1 (mk_p (ms_iload_n (k := 3) (by decide +kernel) rfl) rfl) <|
  mc_1 (mk_p (ms_ald (Or.inl ⟨rfl, by decide +kernel⟩)) rfl) <|
  mc_1 (mk_p (ms_iload_n (k := 1) (by decide +kernel) rfl) rfl) <|
  mc_1 (mk_p (ms_icmp_ne (off := (8)) (by decide +kernel) (by decide)) rfl) <|
  mc_1 (mk_p (ms_iload (by decide +kernel)) rfl) <|
  mc_1 (mk_p (ms_goto (off := (15)) (by decide +kernel) (by decide)) rfl) <|
  mc_1 (mk_p (ms_aload_n (k := 0) (by decide +kernel) rfl) rfl) <|
  mc_1 (mk_p (ms_get (idx := 37) (w := 1458) (host := none) mx_c12 (by decide) ml_f_LeagueOfficeModel_37 (by decide +kernel)) rfl) <| mc_0
theorem mw_252_5 : ∀ e ∈ mt_252_5, mx_Ok mx_MT mq_252 e.1 e.2 := 
  mc_1 (mk_p (ms_iload_n (k := 3) (by decide +kernel) rfl) rfl) <|
  mc_1 (mk_p (ms_ald (Or.inl ⟨rfl, by decide +kernel⟩)) rfl) <|
  mc_1 (mk_c (k := mq_174) rfl ⟨mo_174, 61, 1358, none, ml_m_LeagueOfficeModel_61, Or.inl ⟨rfl, (by decide +kernel), mx_npd (by decide +kernel), ml_st_1359⟩⟩) <|
  mc_1 (mk_p (ms_iload (by decide +kernel)) rfl) <|
  mc_1 (mk_p (ms_isub (by decide +kernel)) rfl) <|
  mc_1 (mk_p (ms_iadd (by decide +kernel)) rfl) <|
  mc_1 (mk_p (ms_istore_n (k := 2) (by decide +kernel) rfl (by decide)) rfl) <|
  mc_1 (mk_p (ms_iinc (n := (1)) (by decide +kernel) (by decide +kernel) (by decide)) rfl) <|
  mc_1 (mk_p (ms_goto (off := (-89)) (by decide +kernel) (by decide)) rfl) <| mc_0
theorem mw_252_6 : ∀ e ∈ mt_252_6, mx_Ok mx_MT mq_252 e.1 e.2 := 
  mc_1 (mk_p (ms_iload_n (k := 2) (by decide +kernel) rfl) rfl) <|
  mc_1 (mk_r (Or.inl ⟨rfl, by decide +kernel, _, rfl, mf_0⟩) rfl) <| mc_0
theorem mw_252 : ∀ ch ∈ mt_252, ∀ e ∈ ch, mx_Ok mx_MT mq_252 e.1 e.2 := mc_2 mw_252_0 <| mc_2 mw_252_1 <| mc_2 mw_252_2 <| mc_2 mw_252_3 <| mc_2 mw_252_4 <| mc_2 mw_252_5 <| mc_2 mw_252_6 <| mc_3
/- 253 LeagueOfficeModel.coin(III)J -/
theorem mw_253_0 : ∀ e ∈ mt_253_0, mx_Ok mx_MT mq_253 e.1 e.2 := 
  mc_1 (mk_p (ms_iload_n (k := 1) (by decide +kernel) rfl) rfl) <|
  mc_1 (mk_c (k := mq_167) rfl ⟨mo_167, 17, 1325, none, ml_m_LeagueOfficeModel_17, Or.inl ⟨rfl, (by decide +kernel), mx_npd (by decide +kernel), ml_st_1326⟩⟩) <|
  mc_1 (mk_p (ms_if_eq (off := (32)) (by decide +kernel) (by decide)) rfl) <|
  mc_1 (mk_p (ms_iload_n (k := 2) (by decide +kernel) rfl) rfl) <|
  mc_1 (mk_p (ms_iconst (n := 0) (by decide +kernel) (by decide +kernel)) rfl) <|
  mc_1 (mk_p (ms_ldcw (idx := 450) 1905 (by decide +kernel) (by decide +kernel)) rfl) <|
  mc_1 (mk_c (k := mq_163) rfl ⟨mo_163, 7, 1318, none, ml_m_LeagueOfficeModel_7, Or.inl ⟨rfl, (by decide +kernel), mx_npd (by decide +kernel), ml_st_1319⟩⟩) <|
  mc_1 (mk_p (ms_if_eq (off := (21)) (by decide +kernel) (by decide)) rfl) <| mc_0
theorem mw_253_1 : ∀ e ∈ mt_253_1, mx_Ok mx_MT mq_253 e.1 e.2 := 
  mc_1 (mk_p (ms_aload_n (k := 0) (by decide +kernel) rfl) rfl) <|
  mc_1 (mk_p (ms_iload_n (k := 3) (by decide +kernel) rfl) rfl) <|
  mc_1 (mk_c (k := mq_166) rfl ⟨mo_166, 28, 1332, none, ml_m_LeagueOfficeModel_28, Or.inr (Or.inr (Or.inl ⟨12, TX12, 78, by decide, rfl, rfl, (by decide +kernel), ⟨1, rfl, mx_npd (by decide +kernel)⟩, ml_in_1334, ml_se_30⟩))⟩) <|
  mc_1 (mk_p (ms_if_eq (off := (13)) (by decide +kernel) (by decide)) rfl) <|
  mc_1 (mk_p (ms_aload_n (k := 0) (by decide +kernel) rfl) rfl) <|
  mc_1 (mk_p (ms_get (idx := 21) (w := 1455) (host := none) mx_c12 (by decide) ml_f_LeagueOfficeModel_21 (by decide +kernel)) rfl) <|
  mc_1 (mk_p (ms_iload_n (k := 3) (by decide +kernel) rfl) rfl) <|
  mc_1 (mk_p (ms_ald (Or.inl ⟨rfl, by decide +kernel⟩)) rfl) <| mc_0
theorem mw_253_2 : ∀ e ∈ mt_253_2, mx_Ok mx_MT mq_253 e.1 e.2 := 
  mc_1 (mk_p (ms_iload_n (k := 1) (by decide +kernel) rfl) rfl) <|
  mc_1 (mk_p (ms_icmp_eq (off := (7)) (by decide +kernel) (by decide)) rfl) <|
  mc_1 (mk_p (ms_ldc2 (idx := 374) 1746 (by decide +kernel) (by decide +kernel)) rfl) <|
  mc_1 (mk_r (Or.inr (Or.inl ⟨rfl, by decide +kernel, rfl⟩)) rfl) <|
  mc_1 (mk_p (ms_aload_n (k := 0) (by decide +kernel) rfl) rfl) <|
  mc_1 (mk_p (ms_iload_n (k := 1) (by decide +kernel) rfl) rfl) <|
  mc_1 (mk_p (ms_aload_n (k := 0) (by decide +kernel) rfl) rfl) <|
  mc_1 (mk_p (ms_get (idx := 11) (w := 1453) (host := none) mx_c12 (by decide) ml_f_LeagueOfficeModel_11 (by decide +kernel)) rfl) <|
  mc_1 (mk_c (k := mq_217) rfl ⟨mo_217, 382, 1767, none, ml_m_LeagueOfficeModel_382, Or.inr (Or.inr (Or.inl ⟨12, TX12, 78, by decide, rfl, rfl, (by decide +kernel), ⟨2, rfl, mx_npd (by decide +kernel)⟩, ml_in_1769, ml_se_56⟩))⟩) <| mc_0
theorem mw_253_3 : ∀ e ∈ mt_253_3, mx_Ok mx_MT mq_253 e.1 e.2 := 
  mc_1 (mk_p (ms_lconst (n := 0) (by decide +kernel) rfl) rfl) <|
  mc_1 (mk_p (ms_lstore (by decide +kernel) (by decide)) rfl) <|
  mc_1 (mk_p (ms_lconst (n := 0) (by decide +kernel) rfl) rfl) <|
  mc_1 (mk_p (ms_lstore (by decide +kernel) (by decide)) rfl) <|
  mc_1 (mk_p (ms_iconst (n := 0) (by decide +kernel) (by decide +kernel)) rfl) <|
  mc_1 (mk_p (ms_istore (by decide +kernel) (by decide)) rfl) <|
  mc_1 (mk_p (ms_iload (by decide +kernel)) rfl) <|
  mc_1 (mk_p (ms_aload_n (k := 0) (by decide +kernel) rfl) rfl) <|
  mc_1 (mk_p (ms_get (idx := 14) (w := 1454) (host := none) mx_c12 (by decide) ml_f_LeagueOfficeModel_14 (by decide +kernel)) rfl) <| mc_0
theorem mw_253_4 : ∀ e ∈ mt_253_4, mx_Ok mx_MT mq_253 e.1 e.2 := 
  mc_1 (mk_p (ms_icmp_ge (off := (41)) (by decide +kernel) (by decide)) rfl) <|
  mc_1 (mk_p (ms_aload_n (k := 0) (by decide +kernel) rfl) rfl) <|
  mc_1 (mk_p (ms_get (idx := 21) (w := 1455) (host := none) mx_c12 (by decide) ml_f_LeagueOfficeModel_21 (by decide +kernel)) rfl) <|
  mc_1 (mk_p (ms_iload (by decide +kernel)) rfl) <|
  mc_1 (mk_p (ms_ald (Or.inl ⟨rfl, by decide +kernel⟩)) rfl) <|
  mc_1 (mk_p (ms_iload_n (k := 1) (by decide +kernel) rfl) rfl) <|
  mc_1 (mk_p (ms_icmp_eq (off := (6)) (by decide +kernel) (by decide)) rfl) <|
  mc_1 (mk_p (ms_goto (off := (21)) (by decide +kernel) (by decide)) rfl) <| mc_0
theorem mw_253_5 : ∀ e ∈ mt_253_5, mx_Ok mx_MT mq_253 e.1 e.2 := 
  mc_1 (mk_p (ms_lload (by decide +kernel)) rfl) <|
  mc_1 (mk_p (ms_lconst (n := 1) (by decide +kernel) rfl) rfl) <|
  mc_1 (mk_p (ms_ladd (by decide +kernel)) rfl) <|
  mc_1 (mk_p (ms_lstore (by decide +kernel) (by decide)) rfl) <|
  mc_1 (mk_p (ms_lload (by decide +kernel)) rfl) <|
  mc_1 (mk_p (ms_aload_n (k := 0) (by decide +kernel) rfl) rfl) <|
  mc_1 (mk_p (ms_iload (by decide +kernel)) rfl) <|
  mc_1 (mk_c (k := mq_252) rfl ⟨mo_252, 451, 1906, none, ml_m_LeagueOfficeModel_451, Or.inr (Or.inr (Or.inl ⟨12, TX12, 78, by decide, rfl, rfl, (by decide +kernel), ⟨1, rfl, mx_npd (by decide +kernel)⟩, ml_in_1908, ml_se_72⟩))⟩) <|
  mc_1 (mk_p (ms_i2l (by decide +kernel)) rfl) <| mc_0
theorem mw_253_6 : ∀ e ∈ mt_253_6, mx_Ok mx_MT mq_253 e.1 e.2 := 
  mc_1 (mk_p (ms_ladd (by decide +kernel)) rfl) <|
  mc_1 (mk_p (ms_lstore (by decide +kernel) (by decide)) rfl) <|
  mc_1 (mk_p (ms_iinc (n := (1)) (by decide +kernel) (by decide +kernel) (by decide)) rfl) <|
  mc_1 (mk_p (ms_goto (off := (-44)) (by decide +kernel) (by decide)) rfl) <|
  mc_1 (mk_p (ms_iload_n (k := 2) (by decide +kernel) rfl) rfl) <|
  mc_1 (mk_p (ms_iconst (n := 3) (by decide +kernel) (by decide +kernel)) rfl) <|
  mc_1 (mk_p (ms_idiv (by decide +kernel)) rfl) <|
  mc_1 (mk_p (ms_i2l (by decide +kernel)) rfl) <|
  mc_1 (mk_p (ms_lstore (by decide +kernel) (by decide)) rfl) <|
  mc_1 (mk_p (ms_iload_n (k := 2) (by decide +kernel) rfl) rfl) <| mc_0
theorem mw_253_7 : ∀ e ∈ mt_253_7, mx_Ok mx_MT mq_253 e.1 e.2 := 
  mc_1 (mk_p (ms_i2l (by decide +kernel)) rfl) <|
  mc_1 (mk_p (ms_ldc2 (idx := 454) 1910 (by decide +kernel) (by decide +kernel)) rfl) <|
  mc_1 (mk_p (ms_lload (by decide +kernel)) rfl) <|
  mc_1 (mk_p (ms_lmul (by decide +kernel)) rfl) <|
  mc_1 (mk_p (ms_lsub (by decide +kernel)) rfl) <|
  mc_1 (mk_p (ms_lstore (by decide +kernel) (by decide)) rfl) <|
  mc_1 (mk_p (ms_lconst (n := 0) (by decide +kernel) rfl) rfl) <|
  mc_1 (mk_p (ms_lstore (by decide +kernel) (by decide)) rfl) <|
  mc_1 (mk_p (ms_lconst (n := 0) (by decide +kernel) rfl) rfl) <|
  mc_1 (mk_p (ms_lstore (by decide +kernel) (by decide)) rfl) <| mc_0
theorem mw_253_8 : ∀ e ∈ mt_253_8, mx_Ok mx_MT mq_253 e.1 e.2 := 
  mc_1 (mk_p (ms_iconst (n := 0) (by decide +kernel) (by decide +kernel)) rfl) <|
  mc_1 (mk_p (ms_istore (by decide +kernel) (by decide)) rfl) <|
  mc_1 (mk_p (ms_iload (by decide +kernel)) rfl) <|
  mc_1 (mk_p (ms_aload_n (k := 0) (by decide +kernel) rfl) rfl) <|
  mc_1 (mk_p (ms_get (idx := 14) (w := 1454) (host := none) mx_c12 (by decide) ml_f_LeagueOfficeModel_14 (by decide +kernel)) rfl) <|
  mc_1 (mk_p (ms_icmp_ge (off := (102)) (by decide +kernel) (by decide)) rfl) <|
  mc_1 (mk_p (ms_aload_n (k := 0) (by decide +kernel) rfl) rfl) <|
  mc_1 (mk_p (ms_get (idx := 21) (w := 1455) (host := none) mx_c12 (by decide) ml_f_LeagueOfficeModel_21 (by decide +kernel)) rfl) <| mc_0
theorem mw_253_9 : ∀ e ∈ mt_253_9, mx_Ok mx_MT mq_253 e.1 e.2 := 
  mc_1 (mk_p (ms_iload (by decide +kernel)) rfl) <|
  mc_1 (mk_p (ms_ald (Or.inl ⟨rfl, by decide +kernel⟩)) rfl) <|
  mc_1 (mk_p (ms_iload_n (k := 1) (by decide +kernel) rfl) rfl) <|
  mc_1 (mk_p (ms_icmp_eq (off := (6)) (by decide +kernel) (by decide)) rfl) <|
  mc_1 (mk_p (ms_goto (off := (82)) (by decide +kernel) (by decide)) rfl) <|
  mc_1 (mk_p (ms_lload (by decide +kernel)) rfl) <|
  mc_1 (mk_p (ms_lload (by decide +kernel)) rfl) <|
  mc_1 (mk_p (ms_ldiv (by decide +kernel)) rfl) <|
  mc_1 (mk_p (ms_lload (by decide +kernel)) rfl) <| mc_0
theorem mw_253_10 : ∀ e ∈ mt_253_10, mx_Ok mx_MT mq_253 e.1 e.2 := 
  mc_1 (mk_p (ms_lload (by decide +kernel)) rfl) <|
  mc_1 (mk_p (ms_aload_n (k := 0) (by decide +kernel) rfl) rfl) <|
  mc_1 (mk_p (ms_iload (by decide +kernel)) rfl) <|
  mc_1 (mk_c (k := mq_219) rfl ⟨mo_219, 385, 1771, none, ml_m_LeagueOfficeModel_385, Or.inr (Or.inr (Or.inl ⟨12, TX12, 78, by decide, rfl, rfl, (by decide +kernel), ⟨1, rfl, mx_npd (by decide +kernel)⟩, ml_in_1773, ml_se_57⟩))⟩) <|
  mc_1 (mk_p (ms_i2l (by decide +kernel)) rfl) <|
  mc_1 (mk_p (ms_lsub (by decide +kernel)) rfl) <|
  mc_1 (mk_p (ms_lmul (by decide +kernel)) rfl) <|
  mc_1 (mk_p (ms_lload (by decide +kernel)) rfl) <|
  mc_1 (mk_p (ms_lload (by decide +kernel)) rfl) <| mc_0
theorem mw_253_11 : ∀ e ∈ mt_253_11, mx_Ok mx_MT mq_253 e.1 e.2 := 
  mc_1 (mk_p (ms_lconst (n := 1) (by decide +kernel) rfl) rfl) <|
  mc_1 (mk_p (ms_ladd (by decide +kernel)) rfl) <|
  mc_1 (mk_p (ms_lmul (by decide +kernel)) rfl) <|
  mc_1 (mk_p (ms_ldc2 (idx := 454) 1910 (by decide +kernel) (by decide +kernel)) rfl) <|
  mc_1 (mk_p (ms_ldiv (by decide +kernel)) rfl) <|
  mc_1 (mk_p (ms_ldiv (by decide +kernel)) rfl) <|
  mc_1 (mk_p (ms_ladd (by decide +kernel)) rfl) <|
  mc_1 (mk_p (ms_lload (by decide +kernel)) rfl) <|
  mc_1 (mk_p (ms_lconst (n := 0) (by decide +kernel) rfl) rfl) <|
  mc_1 (mk_p (ms_lcmp (by decide +kernel)) rfl) <|
  mc_1 (mk_p (ms_if_ne (off := (11)) (by decide +kernel) (by decide)) rfl) <| mc_0
theorem mw_253_12 : ∀ e ∈ mt_253_12, mx_Ok mx_MT mq_253 e.1 e.2 := 
  mc_1 (mk_p (ms_lload (by decide +kernel)) rfl) <|
  mc_1 (mk_p (ms_lload (by decide +kernel)) rfl) <|
  mc_1 (mk_p (ms_ldiv (by decide +kernel)) rfl) <|
  mc_1 (mk_p (ms_goto (off := (16)) (by decide +kernel) (by decide)) rfl) <|
  mc_1 (mk_p (ms_lload (by decide +kernel)) rfl) <|
  mc_1 (mk_p (ms_aload_n (k := 0) (by decide +kernel) rfl) rfl) <|
  mc_1 (mk_p (ms_iload (by decide +kernel)) rfl) <|
  mc_1 (mk_c (k := mq_252) rfl ⟨mo_252, 451, 1906, none, ml_m_LeagueOfficeModel_451, Or.inr (Or.inr (Or.inl ⟨12, TX12, 78, by decide, rfl, rfl, (by decide +kernel), ⟨1, rfl, mx_npd (by decide +kernel)⟩, ml_in_1908, ml_se_72⟩))⟩) <| mc_0
theorem mw_253_13 : ∀ e ∈ mt_253_13, mx_Ok mx_MT mq_253 e.1 e.2 := 
  mc_1 (mk_p (ms_i2l (by decide +kernel)) rfl) <|
  mc_1 (mk_p (ms_lmul (by decide +kernel)) rfl) <|
  mc_1 (mk_p (ms_lload (by decide +kernel)) rfl) <|
  mc_1 (mk_p (ms_ldiv (by decide +kernel)) rfl) <|
  mc_1 (mk_p (ms_ladd (by decide +kernel)) rfl) <|
  mc_1 (mk_p (ms_lstore (by decide +kernel) (by decide)) rfl) <|
  mc_1 (mk_p (ms_lload (by decide +kernel)) rfl) <|
  mc_1 (mk_p (ms_lload (by decide +kernel)) rfl) <|
  mc_1 (mk_p (ms_ladd (by decide +kernel)) rfl) <|
  mc_1 (mk_p (ms_lstore (by decide +kernel) (by decide)) rfl) <|
  mc_1 (mk_p (ms_iload (by decide +kernel)) rfl) <| mc_0
theorem mw_253_14 : ∀ e ∈ mt_253_14, mx_Ok mx_MT mq_253 e.1 e.2 := 
  mc_1 (mk_p (ms_iload_n (k := 3) (by decide +kernel) rfl) rfl) <|
  mc_1 (mk_p (ms_icmp_ne (off := (7)) (by decide +kernel) (by decide)) rfl) <|
  mc_1 (mk_p (ms_lload (by decide +kernel)) rfl) <|
  mc_1 (mk_p (ms_lstore (by decide +kernel) (by decide)) rfl) <|
  mc_1 (mk_p (ms_iinc (n := (1)) (by decide +kernel) (by decide +kernel) (by decide)) rfl) <|
  mc_1 (mk_p (ms_goto (off := (-105)) (by decide +kernel) (by decide)) rfl) <|
  mc_1 (mk_p (ms_aload_n (k := 0) (by decide +kernel) rfl) rfl) <| mc_0
theorem mw_253_15 : ∀ e ∈ mt_253_15, mx_Ok mx_MT mq_253 e.1 e.2 := 
  mc_1 (mk_p (ms_iload_n (k := 3) (by decide +kernel) rfl) rfl) <|
  mc_1 (mk_c (k := mq_219) rfl ⟨mo_219, 385, 1771, none, ml_m_LeagueOfficeModel_385, Or.inr (Or.inr (Or.inl ⟨12, TX12, 78, by decide, rfl, rfl, (by decide +kernel), ⟨1, rfl, mx_npd (by decide +kernel)⟩, ml_in_1773, ml_se_57⟩))⟩) <|
  mc_1 (mk_p (ms_if_ne (off := (14)) (by decide +kernel) (by decide)) rfl) <|
  mc_1 (mk_p (ms_lload (by decide +kernel)) rfl) <|
  mc_1 (mk_p (ms_iload_n (k := 2) (by decide +kernel) rfl) rfl) <|
  mc_1 (mk_p (ms_i2l (by decide +kernel)) rfl) <|
  mc_1 (mk_p (ms_ladd (by decide +kernel)) rfl) <|
  mc_1 (mk_p (ms_lload (by decide +kernel)) rfl) <|
  mc_1 (mk_p (ms_lsub (by decide +kernel)) rfl) <|
  mc_1 (mk_p (ms_goto (off := (5)) (by decide +kernel) (by decide)) rfl) <| mc_0
theorem mw_253_16 : ∀ e ∈ mt_253_16, mx_Ok mx_MT mq_253 e.1 e.2 := 
  mc_1 (mk_p (ms_lload (by decide +kernel)) rfl) <|
  mc_1 (mk_r (Or.inr (Or.inl ⟨rfl, by decide +kernel, rfl⟩)) rfl) <| mc_0
theorem mw_253 : ∀ ch ∈ mt_253, ∀ e ∈ ch, mx_Ok mx_MT mq_253 e.1 e.2 := mc_2 mw_253_0 <| mc_2 mw_253_1 <| mc_2 mw_253_2 <| mc_2 mw_253_3 <| mc_2 mw_253_4 <| mc_2 mw_253_5 <| mc_2 mw_253_6 <| mc_2 mw_253_7 <| mc_2 mw_253_8 <| mc_2 mw_253_9 <| mc_2 mw_253_10 <| mc_2 mw_253_11 <| mc_2 mw_253_12 <| mc_2 mw_253_13 <| mc_2 mw_253_14 <| mc_2 mw_253_15 <| mc_2 mw_253_16 <| mc_3
/- 254 LeagueOfficeModel.hasMeeting(I)Z -/
theorem mw_254_0 : ∀ e ∈ mt_254_0, mx_Ok mx_MT mq_254 e.1 e.2 := 
  mc_1 (mk_p (ms_iconst (n := 0) (by decide +kernel) (by decide +kernel)) rfl) <|
  mc_1 (mk_p (ms_istore_n (k := 2) (by decide +kernel) rfl (by decide)) rfl) <|
  mc_1 (mk_p (ms_iload_n (k := 2) (by decide +kernel) rfl) rfl) <|
  mc_1 (mk_p (ms_aload_n (k := 0) (by decide +kernel) rfl) rfl) <|
  mc_1 (mk_p (ms_get (idx := 456) (w := 1523) (host := none) mx_c12 (by decide) ml_f_LeagueOfficeModel_456 (by decide +kernel)) rfl) <|
  mc_1 (mk_p (ms_icmp_ge (off := (31)) (by decide +kernel) (by decide)) rfl) <|
  mc_1 (mk_p (ms_aload_n (k := 0) (by decide +kernel) rfl) rfl) <|
  mc_1 (mk_p (ms_get (idx := 213) (w := 1524) (host := none) mx_c12 (by decide) ml_f_LeagueOfficeModel_213 (by decide +kernel)) rfl) <|
  mc_1 (mk_p (ms_iload_n (k := 2) (by decide +kernel) rfl) rfl) <|
  mc_1 (mk_p (ms_ald (Or.inl ⟨rfl, by decide +kernel⟩)) rfl) <| mc_0
theorem mw_254_1 : ∀ e ∈ mt_254_1, mx_Ok mx_MT mq_254 e.1 e.2 := 
  mc_1 (mk_p (ms_iload_n (k := 1) (by decide +kernel) rfl) rfl) <|
  mc_1 (mk_p (ms_icmp_eq (off := (13)) (by decide +kernel) (by decide)) rfl) <|
  mc_1 (mk_p (ms_aload_n (k := 0) (by decide +kernel) rfl) rfl) <|
  mc_1 (mk_p (ms_get (idx := 216) (w := 1525) (host := none) mx_c12 (by decide) ml_f_LeagueOfficeModel_216 (by decide +kernel)) rfl) <|
  mc_1 (mk_p (ms_iload_n (k := 2) (by decide +kernel) rfl) rfl) <|
  mc_1 (mk_p (ms_ald (Or.inl ⟨rfl, by decide +kernel⟩)) rfl) <|
  mc_1 (mk_p (ms_iload_n (k := 1) (by decide +kernel) rfl) rfl) <|
  mc_1 (mk_p (ms_icmp_ne (off := (5)) (by decide +kernel) (by decide)) rfl) <|
  mc_1 (mk_p (ms_iconst (n := 1) (by decide +kernel) (by decide +kernel)) rfl) <|
  mc_1 (mk_r (Or.inl ⟨rfl, by decide +kernel, _, rfl, mf_2⟩) rfl) <| mc_0
theorem mw_254_2 : ∀ e ∈ mt_254_2, mx_Ok mx_MT mq_254 e.1 e.2 := 
  mc_1 (mk_p (ms_iinc (n := (1)) (by decide +kernel) (by decide +kernel) (by decide)) rfl) <|
  mc_1 (mk_p (ms_goto (off := (-33)) (by decide +kernel) (by decide)) rfl) <|
  mc_1 (mk_p (ms_iconst (n := 0) (by decide +kernel) (by decide +kernel)) rfl) <|
  mc_1 (mk_r (Or.inl ⟨rfl, by decide +kernel, _, rfl, mf_2⟩) rfl) <| mc_0
theorem mw_254 : ∀ ch ∈ mt_254, ∀ e ∈ ch, mx_Ok mx_MT mq_254 e.1 e.2 := mc_2 mw_254_0 <| mc_2 mw_254_1 <| mc_2 mw_254_2 <| mc_3
/- 255 LeagueOfficeModel.meet(I)I -/
theorem mw_255_0 : ∀ e ∈ mt_255_0, mx_Ok mx_MT mq_255 e.1 e.2 := 
  mc_1 (mk_p (ms_iload_n (k := 1) (by decide +kernel) rfl) rfl) <|
  mc_1 (mk_p (ms_iconst (n := (-1)) (by decide +kernel) (by decide +kernel)) rfl) <|
  mc_1 (mk_p (ms_icmp_ne (off := (10)) (by decide +kernel) (by decide)) rfl) <|
  mc_1 (mk_p (ms_aload_n (k := 0) (by decide +kernel) rfl) rfl) <|
  mc_1 (mk_p (ms_iconst (n := 0) (by decide +kernel) (by decide +kernel)) rfl) <|
  mc_1 (mk_p (ms_put (idx := 456) (w := 1523) (host := none) mx_c12 (by decide) ml_f_LeagueOfficeModel_456 rfl rfl (by decide +kernel)) rfl) <|
  mc_1 (mk_p (ms_iconst (n := 0) (by decide +kernel) (by decide +kernel)) rfl) <|
  mc_1 (mk_r (Or.inl ⟨rfl, by decide +kernel, _, rfl, mf_0⟩) rfl) <|
  mc_1 (mk_p (ms_iload_n (k := 1) (by decide +kernel) rfl) rfl) <|
  mc_1 (mk_p (ms_if_lt (off := (36)) (by decide +kernel) (by decide)) rfl) <| mc_0
theorem mw_255_1 : ∀ e ∈ mt_255_1, mx_Ok mx_MT mq_255 e.1 e.2 := 
  mc_1 (mk_p (ms_aload_n (k := 0) (by decide +kernel) rfl) rfl) <|
  mc_1 (mk_p (ms_iload_n (k := 1) (by decide +kernel) rfl) rfl) <|
  mc_1 (mk_p (ms_bipush (n := 100) (by decide +kernel) (by decide +kernel)) rfl) <|
  mc_1 (mk_p (ms_idiv (by decide +kernel)) rfl) <|
  mc_1 (mk_c (k := mq_166) rfl ⟨mo_166, 28, 1332, none, ml_m_LeagueOfficeModel_28, Or.inr (Or.inr (Or.inl ⟨12, TX12, 78, by decide, rfl, rfl, (by decide +kernel), ⟨1, rfl, mx_npd (by decide +kernel)⟩, ml_in_1334, ml_se_30⟩))⟩) <|
  mc_1 (mk_p (ms_if_eq (off := (25)) (by decide +kernel) (by decide)) rfl) <|
  mc_1 (mk_p (ms_aload_n (k := 0) (by decide +kernel) rfl) rfl) <|
  mc_1 (mk_p (ms_iload_n (k := 1) (by decide +kernel) rfl) rfl) <|
  mc_1 (mk_p (ms_bipush (n := 100) (by decide +kernel) (by decide +kernel)) rfl) <|
  mc_1 (mk_p (ms_irem (by decide +kernel)) rfl) <| mc_0
theorem mw_255_2 : ∀ e ∈ mt_255_2, mx_Ok mx_MT mq_255 e.1 e.2 := 
  mc_1 (mk_c (k := mq_166) rfl ⟨mo_166, 28, 1332, none, ml_m_LeagueOfficeModel_28, Or.inr (Or.inr (Or.inl ⟨12, TX12, 78, by decide, rfl, rfl, (by decide +kernel), ⟨1, rfl, mx_npd (by decide +kernel)⟩, ml_in_1334, ml_se_30⟩))⟩) <|
  mc_1 (mk_p (ms_if_eq (off := (14)) (by decide +kernel) (by decide)) rfl) <|
  mc_1 (mk_p (ms_iload_n (k := 1) (by decide +kernel) rfl) rfl) <|
  mc_1 (mk_p (ms_bipush (n := 100) (by decide +kernel) (by decide +kernel)) rfl) <|
  mc_1 (mk_p (ms_idiv (by decide +kernel)) rfl) <|
  mc_1 (mk_p (ms_iload_n (k := 1) (by decide +kernel) rfl) rfl) <|
  mc_1 (mk_p (ms_bipush (n := 100) (by decide +kernel) (by decide +kernel)) rfl) <|
  mc_1 (mk_p (ms_irem (by decide +kernel)) rfl) <|
  mc_1 (mk_p (ms_icmp_ne (off := (6)) (by decide +kernel) (by decide)) rfl) <| mc_0
theorem mw_255_3 : ∀ e ∈ mt_255_3, mx_Ok mx_MT mq_255 e.1 e.2 := 
  mc_1 (mk_p (ms_bipush (n := (-2)) (by decide +kernel) (by decide +kernel)) rfl) <|
  mc_1 (mk_r (Or.inl ⟨rfl, by decide +kernel, _, rfl, mf_0⟩) rfl) <|
  mc_1 (mk_p (ms_aload_n (k := 0) (by decide +kernel) rfl) rfl) <|
  mc_1 (mk_p (ms_iload_n (k := 1) (by decide +kernel) rfl) rfl) <|
  mc_1 (mk_p (ms_bipush (n := 100) (by decide +kernel) (by decide +kernel)) rfl) <|
  mc_1 (mk_p (ms_idiv (by decide +kernel)) rfl) <|
  mc_1 (mk_c (k := mq_254) rfl ⟨mo_254, 459, 1915, none, ml_m_LeagueOfficeModel_459, Or.inr (Or.inr (Or.inl ⟨12, TX12, 78, by decide, rfl, rfl, (by decide +kernel), ⟨1, rfl, mx_npd (by decide +kernel)⟩, ml_in_1917, ml_se_73⟩))⟩) <|
  mc_1 (mk_p (ms_if_ne (off := (14)) (by decide +kernel) (by decide)) rfl) <|
  mc_1 (mk_p (ms_aload_n (k := 0) (by decide +kernel) rfl) rfl) <| mc_0
theorem mw_255_4 : ∀ e ∈ mt_255_4, mx_Ok mx_MT mq_255 e.1 e.2 := 
  mc_1 (mk_p (ms_iload_n (k := 1) (by decide +kernel) rfl) rfl) <|
  mc_1 (mk_p (ms_bipush (n := 100) (by decide +kernel) (by decide +kernel)) rfl) <|
  mc_1 (mk_p (ms_irem (by decide +kernel)) rfl) <|
  mc_1 (mk_c (k := mq_254) rfl ⟨mo_254, 459, 1915, none, ml_m_LeagueOfficeModel_459, Or.inr (Or.inr (Or.inl ⟨12, TX12, 78, by decide, rfl, rfl, (by decide +kernel), ⟨1, rfl, mx_npd (by decide +kernel)⟩, ml_in_1917, ml_se_73⟩))⟩) <|
  mc_1 (mk_p (ms_if_eq (off := (6)) (by decide +kernel) (by decide)) rfl) <|
  mc_1 (mk_p (ms_bipush (n := (-3)) (by decide +kernel) (by decide +kernel)) rfl) <|
  mc_1 (mk_r (Or.inl ⟨rfl, by decide +kernel, _, rfl, mf_0⟩) rfl) <|
  mc_1 (mk_p (ms_aload_n (k := 0) (by decide +kernel) rfl) rfl) <|
  mc_1 (mk_p (ms_get (idx := 213) (w := 1524) (host := none) mx_c12 (by decide) ml_f_LeagueOfficeModel_213 (by decide +kernel)) rfl) <| mc_0
theorem mw_255_5 : ∀ e ∈ mt_255_5, mx_Ok mx_MT mq_255 e.1 e.2 := 
  mc_1 (mk_p (ms_aload_n (k := 0) (by decide +kernel) rfl) rfl) <|
  mc_1 (mk_p (ms_get (idx := 456) (w := 1523) (host := none) mx_c12 (by decide) ml_f_LeagueOfficeModel_456 (by decide +kernel)) rfl) <|
  mc_1 (mk_p (ms_iload_n (k := 1) (by decide +kernel) rfl) rfl) <|
  mc_1 (mk_p (ms_bipush (n := 100) (by decide +kernel) (by decide +kernel)) rfl) <|
  mc_1 (mk_p (ms_idiv (by decide +kernel)) rfl) <|
  mc_1 (mk_p (ms_ast (Or.inl ⟨rfl, by decide +kernel⟩)) rfl) <|
  mc_1 (mk_p (ms_aload_n (k := 0) (by decide +kernel) rfl) rfl) <|
  mc_1 (mk_p (ms_get (idx := 216) (w := 1525) (host := none) mx_c12 (by decide) ml_f_LeagueOfficeModel_216 (by decide +kernel)) rfl) <|
  mc_1 (mk_p (ms_aload_n (k := 0) (by decide +kernel) rfl) rfl) <|
  mc_1 (mk_p (ms_get (idx := 456) (w := 1523) (host := none) mx_c12 (by decide) ml_f_LeagueOfficeModel_456 (by decide +kernel)) rfl) <| mc_0
theorem mw_255_6 : ∀ e ∈ mt_255_6, mx_Ok mx_MT mq_255 e.1 e.2 := 
  mc_1 (mk_p (ms_iload_n (k := 1) (by decide +kernel) rfl) rfl) <|
  mc_1 (mk_p (ms_bipush (n := 100) (by decide +kernel) (by decide +kernel)) rfl) <|
  mc_1 (mk_p (ms_irem (by decide +kernel)) rfl) <|
  mc_1 (mk_p (ms_ast (Or.inl ⟨rfl, by decide +kernel⟩)) rfl) <|
  mc_1 (mk_p (ms_aload_n (k := 0) (by decide +kernel) rfl) rfl) <|
  mc_1 (mk_p (ms_dup (by decide +kernel)) rfl) <|
  mc_1 (mk_p (ms_get (idx := 456) (w := 1523) (host := none) mx_c12 (by decide) ml_f_LeagueOfficeModel_456 (by decide +kernel)) rfl) <|
  mc_1 (mk_p (ms_iconst (n := 1) (by decide +kernel) (by decide +kernel)) rfl) <|
  mc_1 (mk_p (ms_iadd (by decide +kernel)) rfl) <|
  mc_1 (mk_p (ms_put (idx := 456) (w := 1523) (host := none) mx_c12 (by decide) ml_f_LeagueOfficeModel_456 rfl rfl (by decide +kernel)) rfl) <| mc_0
theorem mw_255_7 : ∀ e ∈ mt_255_7, mx_Ok mx_MT mq_255 e.1 e.2 := 
  mc_1 (mk_p (ms_aload_n (k := 0) (by decide +kernel) rfl) rfl) <|
  mc_1 (mk_p (ms_get (idx := 456) (w := 1523) (host := none) mx_c12 (by decide) ml_f_LeagueOfficeModel_456 (by decide +kernel)) rfl) <|
  mc_1 (mk_r (Or.inl ⟨rfl, by decide +kernel, _, rfl, mf_0⟩) rfl) <| mc_0
theorem mw_255 : ∀ ch ∈ mt_255, ∀ e ∈ ch, mx_Ok mx_MT mq_255 e.1 e.2 := mc_2 mw_255_0 <| mc_2 mw_255_1 <| mc_2 mw_255_2 <| mc_2 mw_255_3 <| mc_2 mw_255_4 <| mc_2 mw_255_5 <| mc_2 mw_255_6 <| mc_2 mw_255_7 <| mc_3
