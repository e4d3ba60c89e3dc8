/- 119 LeagueOffice.pass(I)I -/
theorem mw_119_0 : ∀ e ∈ mt_119_0, mx_Ok mx_MT mq_119 e.1 e.2 := 
  mc_1 (mk_p (ms_iload_n (k := 1) (by decide +kernel) rfl) rfl) <|
  mc_1 (mk_p (ms_iconst (n := 1) (by decide +kernel) (by decide +kernel)) rfl) <|
  mc_1 (mk_p (ms_icmp_lt (off := (9)) (by decide +kernel) (by decide)) rfl) <|
  mc_1 (mk_p (ms_iload_n (k := 1) (by decide +kernel) rfl) rfl) <|
  mc_1 (mk_p (ms_bipush (n := 60) (by decide +kernel) (by decide +kernel)) rfl) <|
  mc_1 (mk_p (ms_icmp_le (off := (6)) (by decide +kernel) (by decide)) rfl) <|
  mc_1 (mk_p (ms_bipush (n := (-2)) (by decide +kernel) (by decide +kernel)) rfl) <|
  mc_1 (mk_r (Or.inl ⟨rfl, by decide +kernel, _, rfl, mf_0⟩) rfl) <|
  mc_1 (mk_p (ms_aload_n (k := 0) (by decide +kernel) rfl) rfl) <|
  mc_1 (mk_p (ms_get (idx := 12) (w := 696) (host := none) mx_c11 (by decide) ml_f_LeagueOffice_12 (by decide +kernel)) rfl) <| mc_0
theorem mw_119_1 : ∀ e ∈ mt_119_1, mx_Ok mx_MT mq_119 e.1 e.2 := 
  mc_1 (mk_p (ms_get (idx := 114) (w := 131) (host := (some "LeagueOffice")) mx_c0 (by decide) ml_f_LeagueOffice_114 (by decide +kernel)) rfl) <|
  mc_1 (mk_p (ms_iload_n (k := 1) (by decide +kernel) rfl) rfl) <|
  mc_1 (mk_p (ms_iadd (by decide +kernel)) rfl) <|
  mc_1 (mk_p (ms_sipush (n := 400) (by decide +kernel) (by decide +kernel)) rfl) <|
  mc_1 (mk_p (ms_icmp_lt (off := (6)) (by decide +kernel) (by decide)) rfl) <|
  mc_1 (mk_p (ms_bipush (n := (-4)) (by decide +kernel) (by decide +kernel)) rfl) <|
  mc_1 (mk_r (Or.inl ⟨rfl, by decide +kernel, _, rfl, mf_0⟩) rfl) <| mc_0
theorem mw_119_2 : ∀ e ∈ mt_119_2, mx_Ok mx_MT mq_119 e.1 e.2 := 
  mc_1 (mk_p (ms_aload_n (k := 0) (by decide +kernel) rfl) rfl) <|
  mc_1 (mk_p (ms_get (idx := 12) (w := 696) (host := none) mx_c11 (by decide) ml_f_LeagueOffice_12 (by decide +kernel)) rfl) <|
  mc_1 (mk_p (ms_dup (by decide +kernel)) rfl) <|
  mc_1 (mk_p (ms_get (idx := 114) (w := 131) (host := (some "LeagueOffice")) mx_c0 (by decide) ml_f_LeagueOffice_114 (by decide +kernel)) rfl) <|
  mc_1 (mk_p (ms_iload_n (k := 1) (by decide +kernel) rfl) rfl) <|
  mc_1 (mk_p (ms_iadd (by decide +kernel)) rfl) <|
  mc_1 (mk_p (ms_put (idx := 114) (w := 131) (host := (some "LeagueOffice")) mx_c0 (by decide) ml_f_LeagueOffice_114 rfl rfl (by decide +kernel)) rfl) <|
  mc_1 (mk_p (ms_aload_n (k := 0) (by decide +kernel) rfl) rfl) <|
  mc_1 (mk_p (ms_get (idx := 12) (w := 696) (host := none) mx_c11 (by decide) ml_f_LeagueOffice_12 (by decide +kernel)) rfl) <| mc_0
theorem mw_119_3 : ∀ e ∈ mt_119_3, mx_Ok mx_MT mq_119 e.1 e.2 := 
  mc_1 (mk_p (ms_get (idx := 114) (w := 131) (host := (some "LeagueOffice")) mx_c0 (by decide) ml_f_LeagueOffice_114 (by decide +kernel)) rfl) <|
  mc_1 (mk_r (Or.inl ⟨rfl, by decide +kernel, _, rfl, mf_0⟩) rfl) <| mc_0
theorem mw_119 : ∀ ch ∈ mt_119, ∀ e ∈ ch, mx_Ok mx_MT mq_119 e.1 e.2 := mc_2 mw_119_0 <| mc_2 mw_119_1 <| mc_2 mw_119_2 <| mc_2 mw_119_3 <| mc_3
/- 120 LeagueOffice.club(II)I -/
theorem mw_120_0 : ∀ e ∈ mt_120_0, mx_Ok mx_MT mq_120 e.1 e.2 := 
  mc_1 (mk_p (ms_iload_n (k := 1) (by decide +kernel) rfl) rfl) <|
  mc_1 (mk_p (ms_iconst (n := 4) (by decide +kernel) (by decide +kernel)) rfl) <|
  mc_1 (mk_c (k := mq_160) rfl ⟨mo_160, 118, 736, none, ml_m_LeagueOffice_118, Or.inl ⟨rfl, (by decide +kernel), mx_npd (by decide +kernel), ml_st_737⟩⟩) <|
  mc_1 (mk_p (ms_if_eq (off := (12)) (by decide +kernel) (by decide)) rfl) <|
  mc_1 (mk_p (ms_iload_n (k := 2) (by decide +kernel) rfl) rfl) <|
  mc_1 (mk_p (ms_bipush (n := 8) (by decide +kernel) (by decide +kernel)) rfl) <|
  mc_1 (mk_c (k := mq_160) rfl ⟨mo_160, 118, 736, none, ml_m_LeagueOffice_118, Or.inl ⟨rfl, (by decide +kernel), mx_npd (by decide +kernel), ml_st_737⟩⟩) <|
  mc_1 (mk_p (ms_if_ne (off := (6)) (by decide +kernel) (by decide)) rfl) <| mc_0
theorem mw_120_1 : ∀ e ∈ mt_120_1, mx_Ok mx_MT mq_120 e.1 e.2 := 
  mc_1 (mk_p (ms_bipush (n := (-2)) (by decide +kernel) (by decide +kernel)) rfl) <|
  mc_1 (mk_r (Or.inl ⟨rfl, by decide +kernel, _, rfl, mf_0⟩) rfl) <|
  mc_1 (mk_p (ms_aload_n (k := 0) (by decide +kernel) rfl) rfl) <|
  mc_1 (mk_p (ms_get (idx := 12) (w := 696) (host := none) mx_c11 (by decide) ml_f_LeagueOffice_12 (by decide +kernel)) rfl) <|
  mc_1 (mk_p (ms_get (idx := 122) (w := 137) (host := (some "LeagueOffice")) mx_c0 (by decide) ml_f_LeagueOffice_122 (by decide +kernel)) rfl) <|
  mc_1 (mk_c (k := mq_66) rfl ⟨mo_66, 125, 739, none, ml_m_LeagueOffice_125, Or.inr (Or.inr (Or.inl ⟨6, TX6, 2, by decide, rfl, rfl, (by decide +kernel), ⟨0, rfl, mx_npd (by decide +kernel)⟩, ml_in_740, ml_se_741⟩))⟩) <|
  mc_1 (mk_p (ms_if_eq (off := (6)) (by decide +kernel) (by decide)) rfl) <| mc_0
theorem mw_120_2 : ∀ e ∈ mt_120_2, mx_Ok mx_MT mq_120 e.1 e.2 := 
  mc_1 (mk_p (ms_bipush (n := (-4)) (by decide +kernel) (by decide +kernel)) rfl) <|
  mc_1 (mk_r (Or.inl ⟨rfl, by decide +kernel, _, rfl, mf_0⟩) rfl) <|
  mc_1 (mk_p (ms_aload_n (k := 0) (by decide +kernel) rfl) rfl) <|
  mc_1 (mk_p (ms_get (idx := 12) (w := 696) (host := none) mx_c11 (by decide) ml_f_LeagueOffice_12 (by decide +kernel)) rfl) <|
  mc_1 (mk_p (ms_get (idx := 129) (w := 140) (host := (some "LeagueOffice")) mx_c0 (by decide) ml_f_LeagueOffice_129 (by decide +kernel)) rfl) <|
  mc_1 (mk_p (ms_iload_n (k := 2) (by decide +kernel) rfl) rfl) <|
  mc_1 (mk_c (k := mq_71) rfl ⟨mo_71, 105, 566, none, ml_m_LeagueOffice_105, Or.inr (Or.inr (Or.inl ⟨6, TX6, 2, by decide, rfl, rfl, (by decide +kernel), ⟨1, rfl, mx_npd (by decide +kernel)⟩, ml_in_567, ml_se_568⟩))⟩) <|
  mc_1 (mk_p (ms_pop (by decide +kernel)) rfl) <| mc_0
theorem mw_120_3 : ∀ e ∈ mt_120_3, mx_Ok mx_MT mq_120 e.1 e.2 := 
  mc_1 (mk_p (ms_aload_n (k := 0) (by decide +kernel) rfl) rfl) <|
  mc_1 (mk_p (ms_get (idx := 12) (w := 696) (host := none) mx_c11 (by decide) ml_f_LeagueOffice_12 (by decide +kernel)) rfl) <|
  mc_1 (mk_p (ms_get (idx := 122) (w := 137) (host := (some "LeagueOffice")) mx_c0 (by decide) ml_f_LeagueOffice_122 (by decide +kernel)) rfl) <|
  mc_1 (mk_p (ms_iload_n (k := 1) (by decide +kernel) rfl) rfl) <|
  mc_1 (mk_c (k := mq_71) rfl ⟨mo_71, 105, 566, none, ml_m_LeagueOffice_105, Or.inr (Or.inr (Or.inl ⟨6, TX6, 2, by decide, rfl, rfl, (by decide +kernel), ⟨1, rfl, mx_npd (by decide +kernel)⟩, ml_in_567, ml_se_568⟩))⟩) <|
  mc_1 (mk_p (ms_iconst (n := 1) (by decide +kernel) (by decide +kernel)) rfl) <|
  mc_1 (mk_p (ms_isub (by decide +kernel)) rfl) <|
  mc_1 (mk_r (Or.inl ⟨rfl, by decide +kernel, _, rfl, mf_0⟩) rfl) <| mc_0
theorem mw_120 : ∀ ch ∈ mt_120, ∀ e ∈ ch, mx_Ok mx_MT mq_120 e.1 e.2 := mc_2 mw_120_0 <| mc_2 mw_120_1 <| mc_2 mw_120_2 <| mc_2 mw_120_3 <| mc_3
/- 121 LeagueOffice.step(II)I -/
theorem mw_121_0 : ∀ e ∈ mt_121_0, mx_Ok mx_MT mq_121 e.1 e.2 := 
  mc_1 (mk_p (ms_aload_n (k := 0) (by decide +kernel) rfl) rfl) <|
  mc_1 (mk_p (ms_get (idx := 12) (w := 696) (host := none) mx_c11 (by decide) ml_f_LeagueOffice_12 (by decide +kernel)) rfl) <|
  mc_1 (mk_p (ms_iload_n (k := 1) (by decide +kernel) rfl) rfl) <|
  mc_1 (mk_c (k := mq_1) rfl ⟨mo_1, 132, 747, none, ml_m_LeagueOffice_132, Or.inr (Or.inr (Or.inl ⟨0, TX0, 12, by decide, rfl, rfl, (by decide +kernel), ⟨1, rfl, mx_npd (by decide +kernel)⟩, ml_in_748, ml_se_749⟩))⟩) <|
  mc_1 (mk_p (ms_if_eq (off := (11)) (by decide +kernel) (by decide)) rfl) <|
  mc_1 (mk_p (ms_iload_n (k := 2) (by decide +kernel) rfl) rfl) <|
  mc_1 (mk_p (ms_iconst (n := 4) (by decide +kernel) (by decide +kernel)) rfl) <|
  mc_1 (mk_c (k := mq_160) rfl ⟨mo_160, 118, 736, none, ml_m_LeagueOffice_118, Or.inl ⟨rfl, (by decide +kernel), mx_npd (by decide +kernel), ml_st_737⟩⟩) <| mc_0
theorem mw_121_1 : ∀ e ∈ mt_121_1, mx_Ok mx_MT mq_121 e.1 e.2 := 
  mc_1 (mk_p (ms_if_ne (off := (6)) (by decide +kernel) (by decide)) rfl) <|
  mc_1 (mk_p (ms_bipush (n := (-2)) (by decide +kernel) (by decide +kernel)) rfl) <|
  mc_1 (mk_r (Or.inl ⟨rfl, by decide +kernel, _, rfl, mf_0⟩) rfl) <|
  mc_1 (mk_p (ms_aload_n (k := 0) (by decide +kernel) rfl) rfl) <|
  mc_1 (mk_p (ms_get (idx := 12) (w := 696) (host := none) mx_c11 (by decide) ml_f_LeagueOffice_12 (by decide +kernel)) rfl) <|
  mc_1 (mk_p (ms_get (idx := 122) (w := 137) (host := (some "LeagueOffice")) mx_c0 (by decide) ml_f_LeagueOffice_122 (by decide +kernel)) rfl) <|
  mc_1 (mk_p (ms_iload_n (k := 1) (by decide +kernel) rfl) rfl) <|
  mc_1 (mk_c (k := mq_68) rfl ⟨mo_68, 136, 755, none, ml_m_LeagueOffice_136, Or.inr (Or.inr (Or.inl ⟨6, TX6, 2, by decide, rfl, rfl, (by decide +kernel), ⟨1, rfl, mx_npd (by decide +kernel)⟩, ml_in_591, ml_se_592⟩))⟩) <| mc_0
theorem mw_121_2 : ∀ e ∈ mt_121_2, mx_Ok mx_MT mq_121 e.1 e.2 := 
  mc_1 (mk_p (ms_istore_n (k := 3) (by decide +kernel) rfl (by decide)) rfl) <|
  mc_1 (mk_p (ms_aload_n (k := 0) (by decide +kernel) rfl) rfl) <|
  mc_1 (mk_p (ms_get (idx := 12) (w := 696) (host := none) mx_c11 (by decide) ml_f_LeagueOffice_12 (by decide +kernel)) rfl) <|
  mc_1 (mk_p (ms_get (idx := 122) (w := 137) (host := (some "LeagueOffice")) mx_c0 (by decide) ml_f_LeagueOffice_122 (by decide +kernel)) rfl) <|
  mc_1 (mk_p (ms_iload_n (k := 1) (by decide +kernel) rfl) rfl) <|
  mc_1 (mk_p (ms_iload_n (k := 2) (by decide +kernel) rfl) rfl) <|
  mc_1 (mk_c (k := mq_69) rfl ⟨mo_69, 139, 756, none, ml_m_LeagueOffice_139, Or.inr (Or.inr (Or.inl ⟨6, TX6, 2, by decide, rfl, rfl, (by decide +kernel), ⟨2, rfl, mx_npd (by decide +kernel)⟩, ml_in_665, ml_se_666⟩))⟩) <|
  mc_1 (mk_p (ms_iload_n (k := 3) (by decide +kernel) rfl) rfl) <|
  mc_1 (mk_r (Or.inl ⟨rfl, by decide +kernel, _, rfl, mf_0⟩) rfl) <| mc_0
theorem mw_121 : ∀ ch ∈ mt_121, ∀ e ∈ ch, mx_Ok mx_MT mq_121 e.1 e.2 := mc_2 mw_121_0 <| mc_2 mw_121_1 <| mc_2 mw_121_2 <| mc_3
/- 122 LeagueOffice.game(IIII)I -/
theorem mw_122_0 : ∀ e ∈ mt_122_0, mx_Ok mx_MT mq_122 e.1 e.2 := 
  mc_1 (mk_p (ms_iload_n (k := 1) (by decide +kernel) rfl) rfl) <|
  mc_1 (mk_p (ms_bipush (n := 6) (by decide +kernel) (by decide +kernel)) rfl) <|
  mc_1 (mk_c (k := mq_160) rfl ⟨mo_160, 118, 736, none, ml_m_LeagueOffice_118, Or.inl ⟨rfl, (by decide +kernel), mx_npd (by decide +kernel), ml_st_737⟩⟩) <|
  mc_1 (mk_p (ms_if_eq (off := (25)) (by decide +kernel) (by decide)) rfl) <|
  mc_1 (mk_p (ms_aload_n (k := 0) (by decide +kernel) rfl) rfl) <|
  mc_1 (mk_p (ms_get (idx := 12) (w := 696) (host := none) mx_c11 (by decide) ml_f_LeagueOffice_12 (by decide +kernel)) rfl) <|
  mc_1 (mk_p (ms_iload_n (k := 2) (by decide +kernel) rfl) rfl) <|
  mc_1 (mk_c (k := mq_1) rfl ⟨mo_1, 132, 747, none, ml_m_LeagueOffice_132, Or.inr (Or.inr (Or.inl ⟨0, TX0, 12, by decide, rfl, rfl, (by decide +kernel), ⟨1, rfl, mx_npd (by decide +kernel)⟩, ml_in_748, ml_se_749⟩))⟩) <| mc_0
theorem mw_122_1 : ∀ e ∈ mt_122_1, mx_Ok mx_MT mq_122 e.1 e.2 := 
  mc_1 (mk_p (ms_if_eq (off := (14)) (by decide +kernel) (by decide)) rfl) <|
  mc_1 (mk_p (ms_aload_n (k := 0) (by decide +kernel) rfl) rfl) <|
  mc_1 (mk_p (ms_get (idx := 12) (w := 696) (host := none) mx_c11 (by decide) ml_f_LeagueOffice_12 (by decide +kernel)) rfl) <|
  mc_1 (mk_p (ms_iload_n (k := 3) (by decide +kernel) rfl) rfl) <|
  mc_1 (mk_c (k := mq_1) rfl ⟨mo_1, 132, 747, none, ml_m_LeagueOffice_132, Or.inr (Or.inr (Or.inl ⟨0, TX0, 12, by decide, rfl, rfl, (by decide +kernel), ⟨1, rfl, mx_npd (by decide +kernel)⟩, ml_in_748, ml_se_749⟩))⟩) <|
  mc_1 (mk_p (ms_if_ne (off := (6)) (by decide +kernel) (by decide)) rfl) <|
  mc_1 (mk_p (ms_bipush (n := (-2)) (by decide +kernel) (by decide +kernel)) rfl) <| mc_0
theorem mw_122_2 : ∀ e ∈ mt_122_2, mx_Ok mx_MT mq_122 e.1 e.2 := 
  mc_1 (mk_r (Or.inl ⟨rfl, by decide +kernel, _, rfl, mf_0⟩) rfl) <|
  mc_1 (mk_p (ms_iload_n (k := 2) (by decide +kernel) rfl) rfl) <|
  mc_1 (mk_p (ms_iload_n (k := 3) (by decide +kernel) rfl) rfl) <|
  mc_1 (mk_p (ms_icmp_eq (off := (14)) (by decide +kernel) (by decide)) rfl) <|
  mc_1 (mk_p (ms_iload (by decide +kernel)) rfl) <|
  mc_1 (mk_p (ms_sipush (n := 400) (by decide +kernel) (by decide +kernel)) rfl) <|
  mc_1 (mk_c (k := mq_160) rfl ⟨mo_160, 118, 736, none, ml_m_LeagueOffice_118, Or.inl ⟨rfl, (by decide +kernel), mx_npd (by decide +kernel), ml_st_737⟩⟩) <|
  mc_1 (mk_p (ms_if_ne (off := (6)) (by decide +kernel) (by decide)) rfl) <| mc_0
theorem mw_122_3 : ∀ e ∈ mt_122_3, mx_Ok mx_MT mq_122 e.1 e.2 := 
  mc_1 (mk_p (ms_bipush (n := (-2)) (by decide +kernel) (by decide +kernel)) rfl) <|
  mc_1 (mk_r (Or.inl ⟨rfl, by decide +kernel, _, rfl, mf_0⟩) rfl) <|
  mc_1 (mk_p (ms_aload_n (k := 0) (by decide +kernel) rfl) rfl) <|
  mc_1 (mk_p (ms_get (idx := 12) (w := 696) (host := none) mx_c11 (by decide) ml_f_LeagueOffice_12 (by decide +kernel)) rfl) <|
  mc_1 (mk_p (ms_get (idx := 143) (w := 147) (host := (some "LeagueOffice")) mx_c0 (by decide) ml_f_LeagueOffice_143 (by decide +kernel)) rfl) <|
  mc_1 (mk_c (k := mq_66) rfl ⟨mo_66, 125, 739, none, ml_m_LeagueOffice_125, Or.inr (Or.inr (Or.inl ⟨6, TX6, 2, by decide, rfl, rfl, (by decide +kernel), ⟨0, rfl, mx_npd (by decide +kernel)⟩, ml_in_740, ml_se_741⟩))⟩) <|
  mc_1 (mk_p (ms_if_eq (off := (6)) (by decide +kernel) (by decide)) rfl) <| mc_0
theorem mw_122_4 : ∀ e ∈ mt_122_4, mx_Ok mx_MT mq_122 e.1 e.2 := 
  mc_1 (mk_p (ms_bipush (n := (-4)) (by decide +kernel) (by decide +kernel)) rfl) <|
  mc_1 (mk_r (Or.inl ⟨rfl, by decide +kernel, _, rfl, mf_0⟩) rfl) <|
  mc_1 (mk_p (ms_aload_n (k := 0) (by decide +kernel) rfl) rfl) <|
  mc_1 (mk_p (ms_get (idx := 12) (w := 696) (host := none) mx_c11 (by decide) ml_f_LeagueOffice_12 (by decide +kernel)) rfl) <|
  mc_1 (mk_p (ms_iload_n (k := 1) (by decide +kernel) rfl) rfl) <|
  mc_1 (mk_p (ms_iload_n (k := 2) (by decide +kernel) rfl) rfl) <|
  mc_1 (mk_p (ms_iload_n (k := 3) (by decide +kernel) rfl) rfl) <|
  mc_1 (mk_p (ms_iload (by decide +kernel)) rfl) <|
  mc_1 (mk_c (k := mq_9) rfl ⟨mo_9, 146, 761, none, ml_m_LeagueOffice_146, Or.inr (Or.inr (Or.inl ⟨0, TX0, 12, by decide, rfl, rfl, (by decide +kernel), ⟨4, rfl, mx_npd (by decide +kernel)⟩, ml_in_762, ml_se_763⟩))⟩) <| mc_0
theorem mw_122_5 : ∀ e ∈ mt_122_5, mx_Ok mx_MT mq_122 e.1 e.2 := 
  mc_1 (mk_r (Or.inl ⟨rfl, by decide +kernel, _, rfl, mf_0⟩) rfl) <| mc_0
theorem mw_122 : ∀ ch ∈ mt_122, ∀ e ∈ ch, mx_Ok mx_MT mq_122 e.1 e.2 := mc_2 mw_122_0 <| mc_2 mw_122_1 <| mc_2 mw_122_2 <| mc_2 mw_122_3 <| mc_2 mw_122_4 <| mc_2 mw_122_5 <| mc_3
/- 123 LeagueOffice.gameTold(II)I -/
theorem mw_123_0 : ∀ e ∈ mt_123_0, mx_Ok mx_MT mq_123 e.1 e.2 := 
  mc_1 (mk_p (ms_aload_n (k := 0) (by decide +kernel) rfl) rfl) <|
  mc_1 (mk_p (ms_get (idx := 12) (w := 696) (host := none) mx_c11 (by decide) ml_f_LeagueOffice_12 (by decide +kernel)) rfl) <|
  mc_1 (mk_p (ms_iload_n (k := 1) (by decide +kernel) rfl) rfl) <|
  mc_1 (mk_c (k := mq_2) rfl ⟨mo_2, 150, 779, none, ml_m_LeagueOffice_150, Or.inr (Or.inr (Or.inl ⟨0, TX0, 12, by decide, rfl, rfl, (by decide +kernel), ⟨1, rfl, mx_npd (by decide +kernel)⟩, ml_in_780, ml_se_781⟩))⟩) <|
  mc_1 (mk_p (ms_if_ne (off := (6)) (by decide +kernel) (by decide)) rfl) <|
  mc_1 (mk_p (ms_bipush (n := (-2)) (by decide +kernel) (by decide +kernel)) rfl) <|
  mc_1 (mk_r (Or.inl ⟨rfl, by decide +kernel, _, rfl, mf_0⟩) rfl) <|
  mc_1 (mk_p (ms_aload_n (k := 0) (by decide +kernel) rfl) rfl) <|
  mc_1 (mk_p (ms_get (idx := 12) (w := 696) (host := none) mx_c11 (by decide) ml_f_LeagueOffice_12 (by decide +kernel)) rfl) <| mc_0
theorem mw_123_1 : ∀ e ∈ mt_123_1, mx_Ok mx_MT mq_123 e.1 e.2 := 
  mc_1 (mk_p (ms_get (idx := 143) (w := 147) (host := (some "LeagueOffice")) mx_c0 (by decide) ml_f_LeagueOffice_143 (by decide +kernel)) rfl) <|
  mc_1 (mk_p (ms_iload_n (k := 1) (by decide +kernel) rfl) rfl) <|
  mc_1 (mk_c (k := mq_68) rfl ⟨mo_68, 136, 755, none, ml_m_LeagueOffice_136, Or.inr (Or.inr (Or.inl ⟨6, TX6, 2, by decide, rfl, rfl, (by decide +kernel), ⟨1, rfl, mx_npd (by decide +kernel)⟩, ml_in_591, ml_se_592⟩))⟩) <|
  mc_1 (mk_p (ms_istore_n (k := 3) (by decide +kernel) rfl (by decide)) rfl) <|
  mc_1 (mk_p (ms_iload_n (k := 2) (by decide +kernel) rfl) rfl) <|
  mc_1 (mk_p (ms_tsw (dflt := (115)) (lo := (0)) (hi := (7)) (offs := #[45, 47, 59, 71, 83, 91, 99, 107]) (len := 45) (by decide +kernel) (by decide +kernel) (by decide +kernel) (by decide +kernel) (by decide +kernel)) rfl) <| mc_0
theorem mw_123_2 : ∀ e ∈ mt_123_2, mx_Ok mx_MT mq_123 e.1 e.2 := mc_0
theorem mw_123_3 : ∀ e ∈ mt_123_3, mx_Ok mx_MT mq_123 e.1 e.2 := mc_0
theorem mw_123_4 : ∀ e ∈ mt_123_4, mx_Ok mx_MT mq_123 e.1 e.2 := 
  mc_1 (mk_p (ms_iload_n (k := 3) (by decide +kernel) rfl) rfl) <|
  mc_1 (mk_r (Or.inl ⟨rfl, by decide +kernel, _, rfl, mf_0⟩) rfl) <|
  mc_1 (mk_p (ms_aload_n (k := 0) (by decide +kernel) rfl) rfl) <|
  mc_1 (mk_p (ms_get (idx := 12) (w := 696) (host := none) mx_c11 (by decide) ml_f_LeagueOffice_12 (by decide +kernel)) rfl) <|
  mc_1 (mk_p (ms_get (idx := 153) (w := 155) (host := (some "LeagueOffice")) mx_c0 (by decide) ml_f_LeagueOffice_153 (by decide +kernel)) rfl) <| mc_0
theorem mw_123_5 : ∀ e ∈ mt_123_5, mx_Ok mx_MT mq_123 e.1 e.2 := 
  mc_1 (mk_p (ms_iload_n (k := 1) (by decide +kernel) rfl) rfl) <|
  mc_1 (mk_c (k := mq_68) rfl ⟨mo_68, 136, 755, none, ml_m_LeagueOffice_136, Or.inr (Or.inr (Or.inl ⟨6, TX6, 2, by decide, rfl, rfl, (by decide +kernel), ⟨1, rfl, mx_npd (by decide +kernel)⟩, ml_in_591, ml_se_592⟩))⟩) <|
  mc_1 (mk_r (Or.inl ⟨rfl, by decide +kernel, _, rfl, mf_0⟩) rfl) <|
  mc_1 (mk_p (ms_aload_n (k := 0) (by decide +kernel) rfl) rfl) <|
  mc_1 (mk_p (ms_get (idx := 12) (w := 696) (host := none) mx_c11 (by decide) ml_f_LeagueOffice_12 (by decide +kernel)) rfl) <|
  mc_1 (mk_p (ms_get (idx := 156) (w := 162) (host := (some "LeagueOffice")) mx_c0 (by decide) ml_f_LeagueOffice_156 (by decide +kernel)) rfl) <|
  mc_1 (mk_p (ms_iload_n (k := 1) (by decide +kernel) rfl) rfl) <|
  mc_1 (mk_c (k := mq_68) rfl ⟨mo_68, 136, 755, none, ml_m_LeagueOffice_136, Or.inr (Or.inr (Or.inl ⟨6, TX6, 2, by decide, rfl, rfl, (by decide +kernel), ⟨1, rfl, mx_npd (by decide +kernel)⟩, ml_in_591, ml_se_592⟩))⟩) <| mc_0
theorem mw_123_6 : ∀ e ∈ mt_123_6, mx_Ok mx_MT mq_123 e.1 e.2 := 
  mc_1 (mk_r (Or.inl ⟨rfl, by decide +kernel, _, rfl, mf_0⟩) rfl) <|
  mc_1 (mk_p (ms_aload_n (k := 0) (by decide +kernel) rfl) rfl) <|
  mc_1 (mk_p (ms_get (idx := 12) (w := 696) (host := none) mx_c11 (by decide) ml_f_LeagueOffice_12 (by decide +kernel)) rfl) <|
  mc_1 (mk_p (ms_get (idx := 159) (w := 168) (host := (some "LeagueOffice")) mx_c0 (by decide) ml_f_LeagueOffice_159 (by decide +kernel)) rfl) <|
  mc_1 (mk_p (ms_iload_n (k := 1) (by decide +kernel) rfl) rfl) <|
  mc_1 (mk_c (k := mq_68) rfl ⟨mo_68, 136, 755, none, ml_m_LeagueOffice_136, Or.inr (Or.inr (Or.inl ⟨6, TX6, 2, by decide, rfl, rfl, (by decide +kernel), ⟨1, rfl, mx_npd (by decide +kernel)⟩, ml_in_591, ml_se_592⟩))⟩) <|
  mc_1 (mk_r (Or.inl ⟨rfl, by decide +kernel, _, rfl, mf_0⟩) rfl) <|
  mc_1 (mk_p (ms_gets (q := ("LeagueOffice", "COUNTS", "[I", .ref 1000)) (idx := 162) (w := 783) (host := none) rfl ml_f_LeagueOffice_162 (by decide +kernel)) rfl) <| mc_0
theorem mw_123_7 : ∀ e ∈ mt_123_7, mx_Ok mx_MT mq_123 e.1 e.2 := 
  mc_1 (mk_p (ms_iload_n (k := 3) (by decide +kernel) rfl) rfl) <|
  mc_1 (mk_c (k := mq_161) rfl ⟨mo_161, 166, 785, none, ml_m_LeagueOffice_166, Or.inl ⟨rfl, (by decide +kernel), mx_npd (by decide +kernel), ml_st_786⟩⟩) <|
  mc_1 (mk_r (Or.inl ⟨rfl, by decide +kernel, _, rfl, mf_0⟩) rfl) <|
  mc_1 (mk_p (ms_gets (q := ("LeagueOffice", "SERVES", "[I", .ref 1001)) (idx := 170) (w := 788) (host := none) rfl ml_f_LeagueOffice_170 (by decide +kernel)) rfl) <|
  mc_1 (mk_p (ms_iload_n (k := 3) (by decide +kernel) rfl) rfl) <|
  mc_1 (mk_c (k := mq_161) rfl ⟨mo_161, 166, 785, none, ml_m_LeagueOffice_166, Or.inl ⟨rfl, (by decide +kernel), mx_npd (by decide +kernel), ml_st_786⟩⟩) <|
  mc_1 (mk_r (Or.inl ⟨rfl, by decide +kernel, _, rfl, mf_0⟩) rfl) <|
  mc_1 (mk_p (ms_gets (q := ("LeagueOffice", "GATES", "[I", .ref 1002)) (idx := 173) (w := 790) (host := none) rfl ml_f_LeagueOffice_173 (by decide +kernel)) rfl) <| mc_0
theorem mw_123_8 : ∀ e ∈ mt_123_8, mx_Ok mx_MT mq_123 e.1 e.2 := 
  mc_1 (mk_p (ms_iload_n (k := 3) (by decide +kernel) rfl) rfl) <|
  mc_1 (mk_c (k := mq_161) rfl ⟨mo_161, 166, 785, none, ml_m_LeagueOffice_166, Or.inl ⟨rfl, (by decide +kernel), mx_npd (by decide +kernel), ml_st_786⟩⟩) <|
  mc_1 (mk_r (Or.inl ⟨rfl, by decide +kernel, _, rfl, mf_0⟩) rfl) <|
  mc_1 (mk_p (ms_gets (q := ("LeagueOffice", "HOME_PARTS", "[I", .ref 1003)) (idx := 176) (w := 792) (host := none) rfl ml_f_LeagueOffice_176 (by decide +kernel)) rfl) <|
  mc_1 (mk_p (ms_iload_n (k := 3) (by decide +kernel) rfl) rfl) <|
  mc_1 (mk_c (k := mq_161) rfl ⟨mo_161, 166, 785, none, ml_m_LeagueOffice_166, Or.inl ⟨rfl, (by decide +kernel), mx_npd (by decide +kernel), ml_st_786⟩⟩) <|
  mc_1 (mk_r (Or.inl ⟨rfl, by decide +kernel, _, rfl, mf_0⟩) rfl) <|
  mc_1 (mk_p (ms_bipush (n := (-2)) (by decide +kernel) (by decide +kernel)) rfl) <| mc_0
theorem mw_123_9 : ∀ e ∈ mt_123_9, mx_Ok mx_MT mq_123 e.1 e.2 := 
  mc_1 (mk_r (Or.inl ⟨rfl, by decide +kernel, _, rfl, mf_0⟩) rfl) <| mc_0
theorem mw_123 : ∀ ch ∈ mt_123, ∀ e ∈ ch, mx_Ok mx_MT mq_123 e.1 e.2 := mc_2 mw_123_0 <| mc_2 mw_123_1 <| mc_2 mw_123_2 <| mc_2 mw_123_3 <| mc_2 mw_123_4 <| mc_2 mw_123_5 <| mc_2 mw_123_6 <| mc_2 mw_123_7 <| mc_2 mw_123_8 <| mc_2 mw_123_9 <| mc_3
/- 124 LeagueOffice.result(III)I -/
theorem mw_124_0 : ∀ e ∈ mt_124_0, mx_Ok mx_MT mq_124 e.1 e.2 := 
  mc_1 (mk_p (ms_aload_n (k := 0) (by decide +kernel) rfl) rfl) <|
  mc_1 (mk_p (ms_iload_n (k := 1) (by decide +kernel) rfl) rfl) <|
  mc_1 (mk_p (ms_iload_n (k := 2) (by decide +kernel) rfl) rfl) <|
  mc_1 (mk_p (ms_iload_n (k := 3) (by decide +kernel) rfl) rfl) <|
  mc_1 (mk_c (k := mq_159) rfl ⟨mo_159, 179, 798, none, ml_m_LeagueOffice_179, Or.inr (Or.inr (Or.inl ⟨11, TX11, 10, by decide, rfl, rfl, (by decide +kernel), ⟨3, rfl, mx_npd (by decide +kernel)⟩, ml_in_800, ml_se_13⟩))⟩) <|
  mc_1 (mk_r (Or.inl ⟨rfl, by decide +kernel, _, rfl, mf_0⟩) rfl) <| mc_0
theorem mw_124 : ∀ ch ∈ mt_124, ∀ e ∈ ch, mx_Ok mx_MT mq_124 e.1 e.2 := mc_2 mw_124_0 <| mc_3
/- 125 LeagueOffice.known(II)I -/
theorem mw_125_0 : ∀ e ∈ mt_125_0, mx_Ok mx_MT mq_125 e.1 e.2 := 
  mc_1 (mk_p (ms_aload_n (k := 0) (by decide +kernel) rfl) rfl) <|
  mc_1 (mk_p (ms_get (idx := 12) (w := 696) (host := none) mx_c11 (by decide) ml_f_LeagueOffice_12 (by decide +kernel)) rfl) <|
  mc_1 (mk_p (ms_iload_n (k := 1) (by decide +kernel) rfl) rfl) <|
  mc_1 (mk_c (k := mq_2) rfl ⟨mo_2, 150, 779, none, ml_m_LeagueOffice_150, Or.inr (Or.inr (Or.inl ⟨0, TX0, 12, by decide, rfl, rfl, (by decide +kernel), ⟨1, rfl, mx_npd (by decide +kernel)⟩, ml_in_780, ml_se_781⟩))⟩) <|
  mc_1 (mk_p (ms_if_eq (off := (14)) (by decide +kernel) (by decide)) rfl) <|
  mc_1 (mk_p (ms_aload_n (k := 0) (by decide +kernel) rfl) rfl) <|
  mc_1 (mk_p (ms_get (idx := 12) (w := 696) (host := none) mx_c11 (by decide) ml_f_LeagueOffice_12 (by decide +kernel)) rfl) <|
  mc_1 (mk_p (ms_iload_n (k := 2) (by decide +kernel) rfl) rfl) <| mc_0
theorem mw_125_1 : ∀ e ∈ mt_125_1, mx_Ok mx_MT mq_125 e.1 e.2 := 
  mc_1 (mk_c (k := mq_3) rfl ⟨mo_3, 183, 810, none, ml_m_LeagueOffice_183, Or.inr (Or.inr (Or.inl ⟨0, TX0, 12, by decide, rfl, rfl, (by decide +kernel), ⟨1, rfl, mx_npd (by decide +kernel)⟩, ml_in_811, ml_se_812⟩))⟩) <|
  mc_1 (mk_p (ms_if_ne (off := (6)) (by decide +kernel) (by decide)) rfl) <|
  mc_1 (mk_p (ms_bipush (n := (-2)) (by decide +kernel) (by decide +kernel)) rfl) <|
  mc_1 (mk_r (Or.inl ⟨rfl, by decide +kernel, _, rfl, mf_0⟩) rfl) <|
  mc_1 (mk_p (ms_aload_n (k := 0) (by decide +kernel) rfl) rfl) <|
  mc_1 (mk_p (ms_get (idx := 12) (w := 696) (host := none) mx_c11 (by decide) ml_f_LeagueOffice_12 (by decide +kernel)) rfl) <|
  mc_1 (mk_p (ms_iload_n (k := 2) (by decide +kernel) rfl) rfl) <|
  mc_1 (mk_c (k := mq_11) rfl ⟨mo_11, 186, 814, none, ml_m_LeagueOffice_186, Or.inr (Or.inr (Or.inl ⟨0, TX0, 12, by decide, rfl, rfl, (by decide +kernel), ⟨1, rfl, mx_npd (by decide +kernel)⟩, ml_in_815, ml_se_816⟩))⟩) <| mc_0
theorem mw_125_2 : ∀ e ∈ mt_125_2, mx_Ok mx_MT mq_125 e.1 e.2 := 
  mc_1 (mk_p (ms_aload_n (k := 0) (by decide +kernel) rfl) rfl) <|
  mc_1 (mk_p (ms_get (idx := 12) (w := 696) (host := none) mx_c11 (by decide) ml_f_LeagueOffice_12 (by decide +kernel)) rfl) <|
  mc_1 (mk_p (ms_get (idx := 190) (w := 181) (host := (some "LeagueOffice")) mx_c0 (by decide) ml_f_LeagueOffice_190 (by decide +kernel)) rfl) <|
  mc_1 (mk_p (ms_iload_n (k := 1) (by decide +kernel) rfl) rfl) <|
  mc_1 (mk_c (k := mq_68) rfl ⟨mo_68, 136, 755, none, ml_m_LeagueOffice_136, Or.inr (Or.inr (Or.inl ⟨6, TX6, 2, by decide, rfl, rfl, (by decide +kernel), ⟨1, rfl, mx_npd (by decide +kernel)⟩, ml_in_591, ml_se_592⟩))⟩) <|
  mc_1 (mk_r (Or.inl ⟨rfl, by decide +kernel, _, rfl, mf_0⟩) rfl) <| mc_0
theorem mw_125 : ∀ ch ∈ mt_125, ∀ e ∈ ch, mx_Ok mx_MT mq_125 e.1 e.2 := mc_2 mw_125_0 <| mc_2 mw_125_1 <| mc_2 mw_125_2 <| mc_3
/- 126 LeagueOffice.feed(IJ)I -/
theorem mw_126_0 : ∀ e ∈ mt_126_0, mx_Ok mx_MT mq_126 e.1 e.2 := 
  mc_1 (mk_p (ms_iload_n (k := 1) (by decide +kernel) rfl) rfl) <|
  mc_1 (mk_p (ms_iconst (n := 1) (by decide +kernel) (by decide +kernel)) rfl) <|
  mc_1 (mk_p (ms_icmp_lt (off := (9)) (by decide +kernel) (by decide)) rfl) <|
  mc_1 (mk_p (ms_iload_n (k := 1) (by decide +kernel) rfl) rfl) <|
  mc_1 (mk_p (ms_bipush (n := 8) (by decide +kernel) (by decide +kernel)) rfl) <|
  mc_1 (mk_p (ms_icmp_le (off := (6)) (by decide +kernel) (by decide)) rfl) <|
  mc_1 (mk_p (ms_bipush (n := (-2)) (by decide +kernel) (by decide +kernel)) rfl) <|
  mc_1 (mk_r (Or.inl ⟨rfl, by decide +kernel, _, rfl, mf_0⟩) rfl) <|
  mc_1 (mk_p (ms_aload_n (k := 0) (by decide +kernel) rfl) rfl) <|
  mc_1 (mk_p (ms_get (idx := 28) (w := 698) (host := none) mx_c11 (by decide) ml_f_LeagueOffice_28 (by decide +kernel)) rfl) <| mc_0
theorem mw_126_1 : ∀ e ∈ mt_126_1, mx_Ok mx_MT mq_126 e.1 e.2 := 
  mc_1 (mk_p (ms_get (idx := 97) (w := 254) (host := (some "LeagueOffice")) mx_c5 (by decide) ml_f_LeagueOffice_97 (by decide +kernel)) rfl) <|
  mc_1 (mk_c (k := mq_65) rfl ⟨mo_65, 193, 823, none, ml_m_LeagueOffice_193, Or.inr (Or.inr (Or.inl ⟨6, TX6, 2, by decide, rfl, rfl, (by decide +kernel), ⟨0, rfl, mx_npd (by decide +kernel)⟩, ml_in_587, ml_se_588⟩))⟩) <|
  mc_1 (mk_p (ms_iload_n (k := 1) (by decide +kernel) rfl) rfl) <|
  mc_1 (mk_p (ms_iadd (by decide +kernel)) rfl) <|
  mc_1 (mk_p (ms_sipush (n := 160) (by decide +kernel) (by decide +kernel)) rfl) <|
  mc_1 (mk_p (ms_icmp_le (off := (6)) (by decide +kernel) (by decide)) rfl) <| mc_0
theorem mw_126_2 : ∀ e ∈ mt_126_2, mx_Ok mx_MT mq_126 e.1 e.2 := 
  mc_1 (mk_p (ms_bipush (n := (-4)) (by decide +kernel) (by decide +kernel)) rfl) <|
  mc_1 (mk_r (Or.inl ⟨rfl, by decide +kernel, _, rfl, mf_0⟩) rfl) <|
  mc_1 (mk_p (ms_iconst (n := 0) (by decide +kernel) (by decide +kernel)) rfl) <|
  mc_1 (mk_p (ms_istore (by decide +kernel) (by decide)) rfl) <|
  mc_1 (mk_p (ms_iload (by decide +kernel)) rfl) <|
  mc_1 (mk_p (ms_iload_n (k := 1) (by decide +kernel) rfl) rfl) <|
  mc_1 (mk_p (ms_icmp_ge (off := (32)) (by decide +kernel) (by decide)) rfl) <|
  mc_1 (mk_p (ms_aload_n (k := 0) (by decide +kernel) rfl) rfl) <|
  mc_1 (mk_p (ms_get (idx := 28) (w := 698) (host := none) mx_c11 (by decide) ml_f_LeagueOffice_28 (by decide +kernel)) rfl) <| mc_0
theorem mw_126_3 : ∀ e ∈ mt_126_3, mx_Ok mx_MT mq_126 e.1 e.2 := 
  mc_1 (mk_p (ms_get (idx := 97) (w := 254) (host := (some "LeagueOffice")) mx_c5 (by decide) ml_f_LeagueOffice_97 (by decide +kernel)) rfl) <|
  mc_1 (mk_p (ms_lload_n (k := 2) (by decide +kernel) rfl) rfl) <|
  mc_1 (mk_p (ms_bipush (n := 8) (by decide +kernel) (by decide +kernel)) rfl) <|
  mc_1 (mk_p (ms_iload (by decide +kernel)) rfl) <|
  mc_1 (mk_p (ms_imul (by decide +kernel)) rfl) <|
  mc_1 (mk_p (ms_lshr (by decide +kernel)) rfl) <|
  mc_1 (mk_p (ms_l2i (by decide +kernel)) rfl) <|
  mc_1 (mk_p (ms_sipush (n := 255) (by decide +kernel) (by decide +kernel)) rfl) <|
  mc_1 (mk_p (ms_iand (by decide +kernel)) rfl) <|
  mc_1 (mk_c (k := mq_71) rfl ⟨mo_71, 105, 566, none, ml_m_LeagueOffice_105, Or.inr (Or.inr (Or.inl ⟨6, TX6, 2, by decide, rfl, rfl, (by decide +kernel), ⟨1, rfl, mx_npd (by decide +kernel)⟩, ml_in_567, ml_se_568⟩))⟩) <| mc_0
theorem mw_126_4 : ∀ e ∈ mt_126_4, mx_Ok mx_MT mq_126 e.1 e.2 := 
  mc_1 (mk_p (ms_pop (by decide +kernel)) rfl) <|
  mc_1 (mk_p (ms_iinc (n := (1)) (by decide +kernel) (by decide +kernel) (by decide)) rfl) <|
  mc_1 (mk_p (ms_goto (off := (-32)) (by decide +kernel) (by decide)) rfl) <|
  mc_1 (mk_p (ms_aload_n (k := 0) (by decide +kernel) rfl) rfl) <|
  mc_1 (mk_p (ms_get (idx := 28) (w := 698) (host := none) mx_c11 (by decide) ml_f_LeagueOffice_28 (by decide +kernel)) rfl) <|
  mc_1 (mk_p (ms_get (idx := 97) (w := 254) (host := (some "LeagueOffice")) mx_c5 (by decide) ml_f_LeagueOffice_97 (by decide +kernel)) rfl) <| mc_0
theorem mw_126_5 : ∀ e ∈ mt_126_5, mx_Ok mx_MT mq_126 e.1 e.2 := 
  mc_1 (mk_c (k := mq_65) rfl ⟨mo_65, 193, 823, none, ml_m_LeagueOffice_193, Or.inr (Or.inr (Or.inl ⟨6, TX6, 2, by decide, rfl, rfl, (by decide +kernel), ⟨0, rfl, mx_npd (by decide +kernel)⟩, ml_in_587, ml_se_588⟩))⟩) <|
  mc_1 (mk_r (Or.inl ⟨rfl, by decide +kernel, _, rfl, mf_0⟩) rfl) <| mc_0
theorem mw_126 : ∀ ch ∈ mt_126, ∀ e ∈ ch, mx_Ok mx_MT mq_126 e.1 e.2 := mc_2 mw_126_0 <| mc_2 mw_126_1 <| mc_2 mw_126_2 <| mc_2 mw_126_3 <| mc_2 mw_126_4 <| mc_2 mw_126_5 <| mc_3
/- 127 LeagueOffice.text()I -/
theorem mw_127_0 : ∀ e ∈ mt_127_0, mx_Ok mx_MT mq_127 e.1 e.2 := 
  mc_1 (mk_p (ms_aload_n (k := 0) (by decide +kernel) rfl) rfl) <|
  mc_1 (mk_p (ms_get (idx := 19) (w := 697) (host := none) mx_c11 (by decide) ml_f_LeagueOffice_19 (by decide +kernel)) rfl) <|
  mc_1 (mk_p (ms_get (idx := 196) (w := 217) (host := (some "LeagueOffice")) mx_c10 (by decide) ml_f_LeagueOffice_196 (by decide +kernel)) rfl) <|
  mc_1 (mk_p (ms_bipush (n := 6) (by decide +kernel) (by decide +kernel)) rfl) <|
  mc_1 (mk_p (ms_icmp_lt (off := (6)) (by decide +kernel) (by decide)) rfl) <|
  mc_1 (mk_p (ms_bipush (n := (-4)) (by decide +kernel) (by decide +kernel)) rfl) <|
  mc_1 (mk_r (Or.inl ⟨rfl, by decide +kernel, _, rfl, mf_0⟩) rfl) <|
  mc_1 (mk_p (ms_aload_n (k := 0) (by decide +kernel) rfl) rfl) <| mc_0
theorem mw_127_1 : ∀ e ∈ mt_127_1, mx_Ok mx_MT mq_127 e.1 e.2 := 
  mc_1 (mk_p (ms_get (idx := 28) (w := 698) (host := none) mx_c11 (by decide) ml_f_LeagueOffice_28 (by decide +kernel)) rfl) <|
  mc_1 (mk_c (k := mq_45) rfl ⟨mo_45, 111, 570, none, ml_m_LeagueOffice_111, Or.inr (Or.inr (Or.inl ⟨5, TX5, 6, by decide, rfl, rfl, (by decide +kernel), ⟨0, rfl, mx_npd (by decide +kernel)⟩, ml_in_571, ml_se_572⟩))⟩) <|
  mc_1 (mk_p (ms_istore_n (k := 1) (by decide +kernel) rfl (by decide)) rfl) <|
  mc_1 (mk_p (ms_iload_n (k := 1) (by decide +kernel) rfl) rfl) <|
  mc_1 (mk_p (ms_if_lt (off := (10)) (by decide +kernel) (by decide)) rfl) <|
  mc_1 (mk_p (ms_bipush (n := (-100)) (by decide +kernel) (by decide +kernel)) rfl) <|
  mc_1 (mk_p (ms_iload_n (k := 1) (by decide +kernel) rfl) rfl) <|
  mc_1 (mk_p (ms_isub (by decide +kernel)) rfl) <|
  mc_1 (mk_p (ms_goto (off := (12)) (by decide +kernel) (by decide)) rfl) <| mc_0
theorem mw_127_2 : ∀ e ∈ mt_127_2, mx_Ok mx_MT mq_127 e.1 e.2 := 
  mc_1 (mk_p (ms_aload_n (k := 0) (by decide +kernel) rfl) rfl) <|
  mc_1 (mk_p (ms_get (idx := 19) (w := 697) (host := none) mx_c11 (by decide) ml_f_LeagueOffice_19 (by decide +kernel)) rfl) <|
  mc_1 (mk_p (ms_get (idx := 196) (w := 217) (host := (some "LeagueOffice")) mx_c10 (by decide) ml_f_LeagueOffice_196 (by decide +kernel)) rfl) <|
  mc_1 (mk_p (ms_iconst (n := 1) (by decide +kernel) (by decide +kernel)) rfl) <|
  mc_1 (mk_p (ms_isub (by decide +kernel)) rfl) <|
  mc_1 (mk_r (Or.inl ⟨rfl, by decide +kernel, _, rfl, mf_0⟩) rfl) <| mc_0
theorem mw_127 : ∀ ch ∈ mt_127, ∀ e ∈ ch, mx_Ok mx_MT mq_127 e.1 e.2 := mc_2 mw_127_0 <| mc_2 mw_127_1 <| mc_2 mw_127_2 <| mc_3
/- 128 LeagueOffice.rule(II)I -/
theorem mw_128_0 : ∀ e ∈ mt_128_0, mx_Ok mx_MT mq_128 e.1 e.2 := 
  mc_1 (mk_p (ms_iload_n (k := 1) (by decide +kernel) rfl) rfl) <|
  mc_1 (mk_p (ms_aload_n (k := 0) (by decide +kernel) rfl) rfl) <|
  mc_1 (mk_p (ms_get (idx := 19) (w := 697) (host := none) mx_c11 (by decide) ml_f_LeagueOffice_19 (by decide +kernel)) rfl) <|
  mc_1 (mk_p (ms_get (idx := 196) (w := 217) (host := (some "LeagueOffice")) mx_c10 (by decide) ml_f_LeagueOffice_196 (by decide +kernel)) rfl) <|
  mc_1 (mk_c (k := mq_160) rfl ⟨mo_160, 118, 736, none, ml_m_LeagueOffice_118, Or.inl ⟨rfl, (by decide +kernel), mx_npd (by decide +kernel), ml_st_737⟩⟩) <|
  mc_1 (mk_p (ms_if_eq (off := (13)) (by decide +kernel) (by decide)) rfl) <|
  mc_1 (mk_p (ms_iload_n (k := 2) (by decide +kernel) rfl) rfl) <|
  mc_1 (mk_p (ms_sipush (n := 400) (by decide +kernel) (by decide +kernel)) rfl) <| mc_0
theorem mw_128_1 : ∀ e ∈ mt_128_1, mx_Ok mx_MT mq_128 e.1 e.2 := 
  mc_1 (mk_c (k := mq_160) rfl ⟨mo_160, 118, 736, none, ml_m_LeagueOffice_118, Or.inl ⟨rfl, (by decide +kernel), mx_npd (by decide +kernel), ml_st_737⟩⟩) <|
  mc_1 (mk_p (ms_if_ne (off := (6)) (by decide +kernel) (by decide)) rfl) <|
  mc_1 (mk_p (ms_bipush (n := (-2)) (by decide +kernel) (by decide +kernel)) rfl) <|
  mc_1 (mk_r (Or.inl ⟨rfl, by decide +kernel, _, rfl, mf_0⟩) rfl) <|
  mc_1 (mk_p (ms_aload_n (k := 0) (by decide +kernel) rfl) rfl) <|
  mc_1 (mk_p (ms_get (idx := 19) (w := 697) (host := none) mx_c11 (by decide) ml_f_LeagueOffice_19 (by decide +kernel)) rfl) <|
  mc_1 (mk_p (ms_get (idx := 198) (w := 224) (host := (some "LeagueOffice")) mx_c10 (by decide) ml_f_LeagueOffice_198 (by decide +kernel)) rfl) <| mc_0
theorem mw_128_2 : ∀ e ∈ mt_128_2, mx_Ok mx_MT mq_128 e.1 e.2 := 
  mc_1 (mk_c (k := mq_66) rfl ⟨mo_66, 125, 739, none, ml_m_LeagueOffice_125, Or.inr (Or.inr (Or.inl ⟨6, TX6, 2, by decide, rfl, rfl, (by decide +kernel), ⟨0, rfl, mx_npd (by decide +kernel)⟩, ml_in_740, ml_se_741⟩))⟩) <|
  mc_1 (mk_p (ms_if_eq (off := (6)) (by decide +kernel) (by decide)) rfl) <|
  mc_1 (mk_p (ms_bipush (n := (-4)) (by decide +kernel) (by decide +kernel)) rfl) <|
  mc_1 (mk_r (Or.inl ⟨rfl, by decide +kernel, _, rfl, mf_0⟩) rfl) <|
  mc_1 (mk_p (ms_aload_n (k := 0) (by decide +kernel) rfl) rfl) <|
  mc_1 (mk_p (ms_get (idx := 19) (w := 697) (host := none) mx_c11 (by decide) ml_f_LeagueOffice_19 (by decide +kernel)) rfl) <|
  mc_1 (mk_p (ms_get (idx := 198) (w := 224) (host := (some "LeagueOffice")) mx_c10 (by decide) ml_f_LeagueOffice_198 (by decide +kernel)) rfl) <| mc_0
theorem mw_128_3 : ∀ e ∈ mt_128_3, mx_Ok mx_MT mq_128 e.1 e.2 := 
  mc_1 (mk_p (ms_iload_n (k := 1) (by decide +kernel) rfl) rfl) <|
  mc_1 (mk_c (k := mq_71) rfl ⟨mo_71, 105, 566, none, ml_m_LeagueOffice_105, Or.inr (Or.inr (Or.inl ⟨6, TX6, 2, by decide, rfl, rfl, (by decide +kernel), ⟨1, rfl, mx_npd (by decide +kernel)⟩, ml_in_567, ml_se_568⟩))⟩) <|
  mc_1 (mk_p (ms_pop (by decide +kernel)) rfl) <|
  mc_1 (mk_p (ms_aload_n (k := 0) (by decide +kernel) rfl) rfl) <|
  mc_1 (mk_p (ms_get (idx := 19) (w := 697) (host := none) mx_c11 (by decide) ml_f_LeagueOffice_19 (by decide +kernel)) rfl) <|
  mc_1 (mk_p (ms_get (idx := 201) (w := 226) (host := (some "LeagueOffice")) mx_c10 (by decide) ml_f_LeagueOffice_201 (by decide +kernel)) rfl) <|
  mc_1 (mk_p (ms_iload_n (k := 2) (by decide +kernel) rfl) rfl) <|
  mc_1 (mk_c (k := mq_71) rfl ⟨mo_71, 105, 566, none, ml_m_LeagueOffice_105, Or.inr (Or.inr (Or.inl ⟨6, TX6, 2, by decide, rfl, rfl, (by decide +kernel), ⟨1, rfl, mx_npd (by decide +kernel)⟩, ml_in_567, ml_se_568⟩))⟩) <| mc_0
theorem mw_128_4 : ∀ e ∈ mt_128_4, mx_Ok mx_MT mq_128 e.1 e.2 := 
  mc_1 (mk_r (Or.inl ⟨rfl, by decide +kernel, _, rfl, mf_0⟩) rfl) <| mc_0
theorem mw_128 : ∀ ch ∈ mt_128, ∀ e ∈ ch, mx_Ok mx_MT mq_128 e.1 e.2 := mc_2 mw_128_0 <| mc_2 mw_128_1 <| mc_2 mw_128_2 <| mc_2 mw_128_3 <| mc_2 mw_128_4 <| mc_3
/- 129 LeagueOffice.ruleOf(I)I -/
theorem mw_129_0 : ∀ e ∈ mt_129_0, mx_Ok mx_MT mq_129 e.1 e.2 := 
  mc_1 (mk_p (ms_iload_n (k := 1) (by decide +kernel) rfl) rfl) <|
  mc_1 (mk_p (ms_sipush (n := 400) (by decide +kernel) (by decide +kernel)) rfl) <|
  mc_1 (mk_c (k := mq_160) rfl ⟨mo_160, 118, 736, none, ml_m_LeagueOffice_118, Or.inl ⟨rfl, (by decide +kernel), mx_npd (by decide +kernel), ml_st_737⟩⟩) <|
  mc_1 (mk_p (ms_if_eq (off := (14)) (by decide +kernel) (by decide)) rfl) <|
  mc_1 (mk_p (ms_aload_n (k := 0) (by decide +kernel) rfl) rfl) <|
  mc_1 (mk_p (ms_get (idx := 19) (w := 697) (host := none) mx_c11 (by decide) ml_f_LeagueOffice_19 (by decide +kernel)) rfl) <|
  mc_1 (mk_p (ms_iload_n (k := 1) (by decide +kernel) rfl) rfl) <|
  mc_1 (mk_c (k := mq_112) rfl ⟨mo_112, 204, 836, none, ml_m_LeagueOffice_204, Or.inr (Or.inr (Or.inl ⟨10, TX10, 8, by decide, rfl, rfl, (by decide +kernel), ⟨1, rfl, mx_npd (by decide +kernel)⟩, ml_in_837, ml_se_838⟩))⟩) <| mc_0
theorem mw_129_1 : ∀ e ∈ mt_129_1, mx_Ok mx_MT mq_129 e.1 e.2 := 
  mc_1 (mk_p (ms_goto (off := (5)) (by decide +kernel) (by decide)) rfl) <|
  mc_1 (mk_p (ms_bipush (n := (-2)) (by decide +kernel) (by decide +kernel)) rfl) <|
  mc_1 (mk_r (Or.inl ⟨rfl, by decide +kernel, _, rfl, mf_0⟩) rfl) <| mc_0
theorem mw_129 : ∀ ch ∈ mt_129, ∀ e ∈ ch, mx_Ok mx_MT mq_129 e.1 e.2 := mc_2 mw_129_0 <| mc_2 mw_129_1 <| mc_3
/- 130 LeagueOffice.take(III)I -/
theorem mw_130_0 : ∀ e ∈ mt_130_0, mx_Ok mx_MT mq_130 e.1 e.2 := 
  mc_1 (mk_p (ms_aload_n (k := 0) (by decide +kernel) rfl) rfl) <|
  mc_1 (mk_p (ms_get (idx := 12) (w := 696) (host := none) mx_c11 (by decide) ml_f_LeagueOffice_12 (by decide +kernel)) rfl) <|
  mc_1 (mk_p (ms_iload_n (k := 1) (by decide +kernel) rfl) rfl) <|
  mc_1 (mk_c (k := mq_1) rfl ⟨mo_1, 132, 747, none, ml_m_LeagueOffice_132, Or.inr (Or.inr (Or.inl ⟨0, TX0, 12, by decide, rfl, rfl, (by decide +kernel), ⟨1, rfl, mx_npd (by decide +kernel)⟩, ml_in_748, ml_se_749⟩))⟩) <|
  mc_1 (mk_p (ms_if_eq (off := (24)) (by decide +kernel) (by decide)) rfl) <|
  mc_1 (mk_p (ms_iload_n (k := 2) (by decide +kernel) rfl) rfl) <|
  mc_1 (mk_p (ms_iconst (n := 1) (by decide +kernel) (by decide +kernel)) rfl) <|
  mc_1 (mk_p (ms_icmp_lt (off := (19)) (by decide +kernel) (by decide)) rfl) <| mc_0
theorem mw_130_1 : ∀ e ∈ mt_130_1, mx_Ok mx_MT mq_130 e.1 e.2 := 
  mc_1 (mk_p (ms_iload_n (k := 2) (by decide +kernel) rfl) rfl) <|
  mc_1 (mk_p (ms_bipush (n := 99) (by decide +kernel) (by decide +kernel)) rfl) <|
  mc_1 (mk_p (ms_icmp_gt (off := (13)) (by decide +kernel) (by decide)) rfl) <|
  mc_1 (mk_p (ms_iload_n (k := 3) (by decide +kernel) rfl) rfl) <|
  mc_1 (mk_p (ms_sipush (n := 400) (by decide +kernel) (by decide +kernel)) rfl) <|
  mc_1 (mk_c (k := mq_160) rfl ⟨mo_160, 118, 736, none, ml_m_LeagueOffice_118, Or.inl ⟨rfl, (by decide +kernel), mx_npd (by decide +kernel), ml_st_737⟩⟩) <|
  mc_1 (mk_p (ms_if_ne (off := (6)) (by decide +kernel) (by decide)) rfl) <| mc_0
theorem mw_130_2 : ∀ e ∈ mt_130_2, mx_Ok mx_MT mq_130 e.1 e.2 := 
  mc_1 (mk_p (ms_bipush (n := (-2)) (by decide +kernel) (by decide +kernel)) rfl) <|
  mc_1 (mk_r (Or.inl ⟨rfl, by decide +kernel, _, rfl, mf_0⟩) rfl) <|
  mc_1 (mk_p (ms_aload_n (k := 0) (by decide +kernel) rfl) rfl) <|
  mc_1 (mk_p (ms_get (idx := 37) (w := 699) (host := none) mx_c11 (by decide) ml_f_LeagueOffice_37 (by decide +kernel)) rfl) <|
  mc_1 (mk_p (ms_get (idx := 207) (w := 283) (host := (some "LeagueOffice")) mx_c9 (by decide) ml_f_LeagueOffice_207 (by decide +kernel)) rfl) <|
  mc_1 (mk_c (k := mq_66) rfl ⟨mo_66, 125, 739, none, ml_m_LeagueOffice_125, Or.inr (Or.inr (Or.inl ⟨6, TX6, 2, by decide, rfl, rfl, (by decide +kernel), ⟨0, rfl, mx_npd (by decide +kernel)⟩, ml_in_740, ml_se_741⟩))⟩) <|
  mc_1 (mk_p (ms_if_eq (off := (6)) (by decide +kernel) (by decide)) rfl) <| mc_0
theorem mw_130_3 : ∀ e ∈ mt_130_3, mx_Ok mx_MT mq_130 e.1 e.2 := 
  mc_1 (mk_p (ms_bipush (n := (-4)) (by decide +kernel) (by decide +kernel)) rfl) <|
  mc_1 (mk_r (Or.inl ⟨rfl, by decide +kernel, _, rfl, mf_0⟩) rfl) <|
  mc_1 (mk_p (ms_aload_n (k := 0) (by decide +kernel) rfl) rfl) <|
  mc_1 (mk_p (ms_get (idx := 37) (w := 699) (host := none) mx_c11 (by decide) ml_f_LeagueOffice_37 (by decide +kernel)) rfl) <|
  mc_1 (mk_p (ms_get (idx := 207) (w := 283) (host := (some "LeagueOffice")) mx_c9 (by decide) ml_f_LeagueOffice_207 (by decide +kernel)) rfl) <|
  mc_1 (mk_p (ms_iload_n (k := 1) (by decide +kernel) rfl) rfl) <|
  mc_1 (mk_c (k := mq_71) rfl ⟨mo_71, 105, 566, none, ml_m_LeagueOffice_105, Or.inr (Or.inr (Or.inl ⟨6, TX6, 2, by decide, rfl, rfl, (by decide +kernel), ⟨1, rfl, mx_npd (by decide +kernel)⟩, ml_in_567, ml_se_568⟩))⟩) <|
  mc_1 (mk_p (ms_pop (by decide +kernel)) rfl) <|
  mc_1 (mk_p (ms_aload_n (k := 0) (by decide +kernel) rfl) rfl) <| mc_0
theorem mw_130_4 : ∀ e ∈ mt_130_4, mx_Ok mx_MT mq_130 e.1 e.2 := 
  mc_1 (mk_p (ms_get (idx := 37) (w := 699) (host := none) mx_c11 (by decide) ml_f_LeagueOffice_37 (by decide +kernel)) rfl) <|
  mc_1 (mk_p (ms_get (idx := 210) (w := 285) (host := (some "LeagueOffice")) mx_c9 (by decide) ml_f_LeagueOffice_210 (by decide +kernel)) rfl) <|
  mc_1 (mk_p (ms_iload_n (k := 2) (by decide +kernel) rfl) rfl) <|
  mc_1 (mk_c (k := mq_71) rfl ⟨mo_71, 105, 566, none, ml_m_LeagueOffice_105, Or.inr (Or.inr (Or.inl ⟨6, TX6, 2, by decide, rfl, rfl, (by decide +kernel), ⟨1, rfl, mx_npd (by decide +kernel)⟩, ml_in_567, ml_se_568⟩))⟩) <|
  mc_1 (mk_p (ms_pop (by decide +kernel)) rfl) <|
  mc_1 (mk_p (ms_aload_n (k := 0) (by decide +kernel) rfl) rfl) <|
  mc_1 (mk_p (ms_get (idx := 37) (w := 699) (host := none) mx_c11 (by decide) ml_f_LeagueOffice_37 (by decide +kernel)) rfl) <|
  mc_1 (mk_p (ms_get (idx := 213) (w := 287) (host := (some "LeagueOffice")) mx_c9 (by decide) ml_f_LeagueOffice_213 (by decide +kernel)) rfl) <| mc_0
theorem mw_130_5 : ∀ e ∈ mt_130_5, mx_Ok mx_MT mq_130 e.1 e.2 := 
  mc_1 (mk_p (ms_iload_n (k := 3) (by decide +kernel) rfl) rfl) <|
  mc_1 (mk_c (k := mq_71) rfl ⟨mo_71, 105, 566, none, ml_m_LeagueOffice_105, Or.inr (Or.inr (Or.inl ⟨6, TX6, 2, by decide, rfl, rfl, (by decide +kernel), ⟨1, rfl, mx_npd (by decide +kernel)⟩, ml_in_567, ml_se_568⟩))⟩) <|
  mc_1 (mk_r (Or.inl ⟨rfl, by decide +kernel, _, rfl, mf_0⟩) rfl) <| mc_0
theorem mw_130 : ∀ ch ∈ mt_130, ∀ e ∈ ch, mx_Ok mx_MT mq_130 e.1 e.2 := mc_2 mw_130_0 <| mc_2 mw_130_1 <| mc_2 mw_130_2 <| mc_2 mw_130_3 <| mc_2 mw_130_4 <| mc_2 mw_130_5 <| mc_3
/- 131 LeagueOffice.points(II)J -/
theorem mw_131_0 : ∀ e ∈ mt_131_0, mx_Ok mx_MT mq_131 e.1 e.2 := 
  mc_1 (mk_p (ms_aload_n (k := 0) (by decide +kernel) rfl) rfl) <|
  mc_1 (mk_p (ms_get (idx := 12) (w := 696) (host := none) mx_c11 (by decide) ml_f_LeagueOffice_12 (by decide +kernel)) rfl) <|
  mc_1 (mk_p (ms_iload_n (k := 1) (by decide +kernel) rfl) rfl) <|
  mc_1 (mk_c (k := mq_1) rfl ⟨mo_1, 132, 747, none, ml_m_LeagueOffice_132, Or.inr (Or.inr (Or.inl ⟨0, TX0, 12, by decide, rfl, rfl, (by decide +kernel), ⟨1, rfl, mx_npd (by decide +kernel)⟩, ml_in_748, ml_se_749⟩))⟩) <|
  mc_1 (mk_p (ms_if_eq (off := (14)) (by decide +kernel) (by decide)) rfl) <|
  mc_1 (mk_p (ms_aload_n (k := 0) (by decide +kernel) rfl) rfl) <|
  mc_1 (mk_p (ms_get (idx := 12) (w := 696) (host := none) mx_c11 (by decide) ml_f_LeagueOffice_12 (by decide +kernel)) rfl) <|
  mc_1 (mk_p (ms_iload_n (k := 2) (by decide +kernel) rfl) rfl) <| mc_0
theorem mw_131_1 : ∀ e ∈ mt_131_1, mx_Ok mx_MT mq_131 e.1 e.2 := 
  mc_1 (mk_c (k := mq_3) rfl ⟨mo_3, 183, 810, none, ml_m_LeagueOffice_183, Or.inr (Or.inr (Or.inl ⟨0, TX0, 12, by decide, rfl, rfl, (by decide +kernel), ⟨1, rfl, mx_npd (by decide +kernel)⟩, ml_in_811, ml_se_812⟩))⟩) <|
  mc_1 (mk_p (ms_if_ne (off := (7)) (by decide +kernel) (by decide)) rfl) <|
  mc_1 (mk_p (ms_ldc2 (idx := 216) 848 (by decide +kernel) (by decide +kernel)) rfl) <|
  mc_1 (mk_r (Or.inr (Or.inl ⟨rfl, by decide +kernel, rfl⟩)) rfl) <|
  mc_1 (mk_p (ms_aload_n (k := 0) (by decide +kernel) rfl) rfl) <|
  mc_1 (mk_p (ms_get (idx := 37) (w := 699) (host := none) mx_c11 (by decide) ml_f_LeagueOffice_37 (by decide +kernel)) rfl) <|
  mc_1 (mk_p (ms_iload_n (k := 2) (by decide +kernel) rfl) rfl) <|
  mc_1 (mk_c (k := mq_98) rfl ⟨mo_98, 218, 849, none, ml_m_LeagueOffice_218, Or.inr (Or.inr (Or.inl ⟨9, TX9, 12, by decide, rfl, rfl, (by decide +kernel), ⟨1, rfl, mx_npd (by decide +kernel)⟩, ml_in_850, ml_se_851⟩))⟩) <| mc_0
theorem mw_131_2 : ∀ e ∈ mt_131_2, mx_Ok mx_MT mq_131 e.1 e.2 := 
  mc_1 (mk_p (ms_aload_n (k := 0) (by decide +kernel) rfl) rfl) <|
  mc_1 (mk_p (ms_get (idx := 37) (w := 699) (host := none) mx_c11 (by decide) ml_f_LeagueOffice_37 (by decide +kernel)) rfl) <|
  mc_1 (mk_p (ms_iload_n (k := 1) (by decide +kernel) rfl) rfl) <|
  mc_1 (mk_c (k := mq_102) rfl ⟨mo_102, 221, 916, none, ml_m_LeagueOffice_221, Or.inr (Or.inr (Or.inl ⟨9, TX9, 12, by decide, rfl, rfl, (by decide +kernel), ⟨1, rfl, mx_npd (by decide +kernel)⟩, ml_in_917, ml_se_918⟩))⟩) <|
  mc_1 (mk_r (Or.inr (Or.inl ⟨rfl, by decide +kernel, rfl⟩)) rfl) <| mc_0
theorem mw_131 : ∀ ch ∈ mt_131, ∀ e ∈ ch, mx_Ok mx_MT mq_131 e.1 e.2 := mc_2 mw_131_0 <| mc_2 mw_131_1 <| mc_2 mw_131_2 <| mc_3
/- 132 LeagueOffice.like(II)J -/
theorem mw_132_0 : ∀ e ∈ mt_132_0, mx_Ok mx_MT mq_132 e.1 e.2 := 
  mc_1 (mk_p (ms_aload_n (k := 0) (by decide +kernel) rfl) rfl) <|
  mc_1 (mk_p (ms_get (idx := 12) (w := 696) (host := none) mx_c11 (by decide) ml_f_LeagueOffice_12 (by decide +kernel)) rfl) <|
  mc_1 (mk_p (ms_iload_n (k := 1) (by decide +kernel) rfl) rfl) <|
  mc_1 (mk_c (k := mq_1) rfl ⟨mo_1, 132, 747, none, ml_m_LeagueOffice_132, Or.inr (Or.inr (Or.inl ⟨0, TX0, 12, by decide, rfl, rfl, (by decide +kernel), ⟨1, rfl, mx_npd (by decide +kernel)⟩, ml_in_748, ml_se_749⟩))⟩) <|
  mc_1 (mk_p (ms_if_eq (off := (14)) (by decide +kernel) (by decide)) rfl) <|
  mc_1 (mk_p (ms_aload_n (k := 0) (by decide +kernel) rfl) rfl) <|
  mc_1 (mk_p (ms_get (idx := 12) (w := 696) (host := none) mx_c11 (by decide) ml_f_LeagueOffice_12 (by decide +kernel)) rfl) <|
  mc_1 (mk_p (ms_iload_n (k := 2) (by decide +kernel) rfl) rfl) <| mc_0
theorem mw_132_1 : ∀ e ∈ mt_132_1, mx_Ok mx_MT mq_132 e.1 e.2 := 
  mc_1 (mk_c (k := mq_3) rfl ⟨mo_3, 183, 810, none, ml_m_LeagueOffice_183, Or.inr (Or.inr (Or.inl ⟨0, TX0, 12, by decide, rfl, rfl, (by decide +kernel), ⟨1, rfl, mx_npd (by decide +kernel)⟩, ml_in_811, ml_se_812⟩))⟩) <|
  mc_1 (mk_p (ms_if_ne (off := (7)) (by decide +kernel) (by decide)) rfl) <|
  mc_1 (mk_p (ms_ldc2 (idx := 216) 848 (by decide +kernel) (by decide +kernel)) rfl) <|
  mc_1 (mk_r (Or.inr (Or.inl ⟨rfl, by decide +kernel, rfl⟩)) rfl) <|
  mc_1 (mk_p (ms_aload_n (k := 0) (by decide +kernel) rfl) rfl) <|
  mc_1 (mk_p (ms_get (idx := 37) (w := 699) (host := none) mx_c11 (by decide) ml_f_LeagueOffice_37 (by decide +kernel)) rfl) <|
  mc_1 (mk_p (ms_iload_n (k := 2) (by decide +kernel) rfl) rfl) <|
  mc_1 (mk_c (k := mq_98) rfl ⟨mo_98, 218, 849, none, ml_m_LeagueOffice_218, Or.inr (Or.inr (Or.inl ⟨9, TX9, 12, by decide, rfl, rfl, (by decide +kernel), ⟨1, rfl, mx_npd (by decide +kernel)⟩, ml_in_850, ml_se_851⟩))⟩) <| mc_0
theorem mw_132_2 : ∀ e ∈ mt_132_2, mx_Ok mx_MT mq_132 e.1 e.2 := 
  mc_1 (mk_p (ms_aload_n (k := 0) (by decide +kernel) rfl) rfl) <|
  mc_1 (mk_p (ms_get (idx := 37) (w := 699) (host := none) mx_c11 (by decide) ml_f_LeagueOffice_37 (by decide +kernel)) rfl) <|
  mc_1 (mk_p (ms_iload_n (k := 1) (by decide +kernel) rfl) rfl) <|
  mc_1 (mk_c (k := mq_103) rfl ⟨mo_103, 225, 924, none, ml_m_LeagueOffice_225, Or.inr (Or.inr (Or.inl ⟨9, TX9, 12, by decide, rfl, rfl, (by decide +kernel), ⟨1, rfl, mx_npd (by decide +kernel)⟩, ml_in_925, ml_se_926⟩))⟩) <|
  mc_1 (mk_p (ms_i2l (by decide +kernel)) rfl) <|
  mc_1 (mk_r (Or.inr (Or.inl ⟨rfl, by decide +kernel, rfl⟩)) rfl) <| mc_0
theorem mw_132 : ∀ ch ∈ mt_132, ∀ e ∈ ch, mx_Ok mx_MT mq_132 e.1 e.2 := mc_2 mw_132_0 <| mc_2 mw_132_1 <| mc_2 mw_132_2 <| mc_3
/- 133 LeagueOffice.table(III)I -/
theorem mw_133_0 : ∀ e ∈ mt_133_0, mx_Ok mx_MT mq_133 e.1 e.2 := 
  mc_1 (mk_p (ms_iload_n (k := 1) (by decide +kernel) rfl) rfl) <|
  mc_1 (mk_p (ms_iconst (n := 4) (by decide +kernel) (by decide +kernel)) rfl) <|
  mc_1 (mk_c (k := mq_160) rfl ⟨mo_160, 118, 736, none, ml_m_LeagueOffice_118, Or.inl ⟨rfl, (by decide +kernel), mx_npd (by decide +kernel), ml_st_737⟩⟩) <|
  mc_1 (mk_p (ms_if_eq (off := (14)) (by decide +kernel) (by decide)) rfl) <|
  mc_1 (mk_p (ms_aload_n (k := 0) (by decide +kernel) rfl) rfl) <|
  mc_1 (mk_p (ms_get (idx := 12) (w := 696) (host := none) mx_c11 (by decide) ml_f_LeagueOffice_12 (by decide +kernel)) rfl) <|
  mc_1 (mk_p (ms_iload_n (k := 2) (by decide +kernel) rfl) rfl) <|
  mc_1 (mk_c (k := mq_3) rfl ⟨mo_3, 183, 810, none, ml_m_LeagueOffice_183, Or.inr (Or.inr (Or.inl ⟨0, TX0, 12, by decide, rfl, rfl, (by decide +kernel), ⟨1, rfl, mx_npd (by decide +kernel)⟩, ml_in_811, ml_se_812⟩))⟩) <| mc_0
theorem mw_133_1 : ∀ e ∈ mt_133_1, mx_Ok mx_MT mq_133 e.1 e.2 := 
  mc_1 (mk_p (ms_if_ne (off := (6)) (by decide +kernel) (by decide)) rfl) <|
  mc_1 (mk_p (ms_bipush (n := (-2)) (by decide +kernel) (by decide +kernel)) rfl) <|
  mc_1 (mk_r (Or.inl ⟨rfl, by decide +kernel, _, rfl, mf_0⟩) rfl) <|
  mc_1 (mk_p (ms_aload_n (k := 0) (by decide +kernel) rfl) rfl) <|
  mc_1 (mk_p (ms_get (idx := 37) (w := 699) (host := none) mx_c11 (by decide) ml_f_LeagueOffice_37 (by decide +kernel)) rfl) <|
  mc_1 (mk_p (ms_iload_n (k := 2) (by decide +kernel) rfl) rfl) <|
  mc_1 (mk_c (k := mq_98) rfl ⟨mo_98, 218, 849, none, ml_m_LeagueOffice_218, Or.inr (Or.inr (Or.inl ⟨9, TX9, 12, by decide, rfl, rfl, (by decide +kernel), ⟨1, rfl, mx_npd (by decide +kernel)⟩, ml_in_850, ml_se_851⟩))⟩) <|
  mc_1 (mk_p (ms_aload_n (k := 0) (by decide +kernel) rfl) rfl) <|
  mc_1 (mk_p (ms_get (idx := 37) (w := 699) (host := none) mx_c11 (by decide) ml_f_LeagueOffice_37 (by decide +kernel)) rfl) <| mc_0
theorem mw_133_2 : ∀ e ∈ mt_133_2, mx_Ok mx_MT mq_133 e.1 e.2 := 
  mc_1 (mk_p (ms_iload_n (k := 1) (by decide +kernel) rfl) rfl) <|
  mc_1 (mk_p (ms_iload_n (k := 3) (by decide +kernel) rfl) rfl) <|
  mc_1 (mk_c (k := mq_105) rfl ⟨mo_105, 228, 936, none, ml_m_LeagueOffice_228, Or.inr (Or.inr (Or.inl ⟨9, TX9, 12, by decide, rfl, rfl, (by decide +kernel), ⟨2, rfl, mx_npd (by decide +kernel)⟩, ml_in_937, ml_se_938⟩))⟩) <|
  mc_1 (mk_r (Or.inl ⟨rfl, by decide +kernel, _, rfl, mf_0⟩) rfl) <| mc_0
theorem mw_133 : ∀ ch ∈ mt_133, ∀ e ∈ ch, mx_Ok mx_MT mq_133 e.1 e.2 := mc_2 mw_133_0 <| mc_2 mw_133_1 <| mc_2 mw_133_2 <| mc_3
/- 134 LeagueOffice.place(II)I -/
theorem mw_134_0 : ∀ e ∈ mt_134_0, mx_Ok mx_MT mq_134 e.1 e.2 := 
  mc_1 (mk_p (ms_aload_n (k := 0) (by decide +kernel) rfl) rfl) <|
  mc_1 (mk_p (ms_get (idx := 12) (w := 696) (host := none) mx_c11 (by decide) ml_f_LeagueOffice_12 (by decide +kernel)) rfl) <|
  mc_1 (mk_p (ms_iload_n (k := 1) (by decide +kernel) rfl) rfl) <|
  mc_1 (mk_c (k := mq_1) rfl ⟨mo_1, 132, 747, none, ml_m_LeagueOffice_132, Or.inr (Or.inr (Or.inl ⟨0, TX0, 12, by decide, rfl, rfl, (by decide +kernel), ⟨1, rfl, mx_npd (by decide +kernel)⟩, ml_in_748, ml_se_749⟩))⟩) <|
  mc_1 (mk_p (ms_if_eq (off := (14)) (by decide +kernel) (by decide)) rfl) <|
  mc_1 (mk_p (ms_aload_n (k := 0) (by decide +kernel) rfl) rfl) <|
  mc_1 (mk_p (ms_get (idx := 12) (w := 696) (host := none) mx_c11 (by decide) ml_f_LeagueOffice_12 (by decide +kernel)) rfl) <|
  mc_1 (mk_p (ms_iload_n (k := 2) (by decide +kernel) rfl) rfl) <| mc_0
theorem mw_134_1 : ∀ e ∈ mt_134_1, mx_Ok mx_MT mq_134 e.1 e.2 := 
  mc_1 (mk_c (k := mq_3) rfl ⟨mo_3, 183, 810, none, ml_m_LeagueOffice_183, Or.inr (Or.inr (Or.inl ⟨0, TX0, 12, by decide, rfl, rfl, (by decide +kernel), ⟨1, rfl, mx_npd (by decide +kernel)⟩, ml_in_811, ml_se_812⟩))⟩) <|
  mc_1 (mk_p (ms_if_ne (off := (6)) (by decide +kernel) (by decide)) rfl) <|
  mc_1 (mk_p (ms_bipush (n := (-2)) (by decide +kernel) (by decide +kernel)) rfl) <|
  mc_1 (mk_r (Or.inl ⟨rfl, by decide +kernel, _, rfl, mf_0⟩) rfl) <|
  mc_1 (mk_p (ms_aload_n (k := 0) (by decide +kernel) rfl) rfl) <|
  mc_1 (mk_p (ms_get (idx := 37) (w := 699) (host := none) mx_c11 (by decide) ml_f_LeagueOffice_37 (by decide +kernel)) rfl) <|
  mc_1 (mk_p (ms_iload_n (k := 2) (by decide +kernel) rfl) rfl) <|
  mc_1 (mk_c (k := mq_98) rfl ⟨mo_98, 218, 849, none, ml_m_LeagueOffice_218, Or.inr (Or.inr (Or.inl ⟨9, TX9, 12, by decide, rfl, rfl, (by decide +kernel), ⟨1, rfl, mx_npd (by decide +kernel)⟩, ml_in_850, ml_se_851⟩))⟩) <| mc_0
theorem mw_134_2 : ∀ e ∈ mt_134_2, mx_Ok mx_MT mq_134 e.1 e.2 := 
  mc_1 (mk_p (ms_aload_n (k := 0) (by decide +kernel) rfl) rfl) <|
  mc_1 (mk_p (ms_get (idx := 37) (w := 699) (host := none) mx_c11 (by decide) ml_f_LeagueOffice_37 (by decide +kernel)) rfl) <|
  mc_1 (mk_p (ms_iload_n (k := 1) (by decide +kernel) rfl) rfl) <|
  mc_1 (mk_c (k := mq_104) rfl ⟨mo_104, 232, 950, none, ml_m_LeagueOffice_232, Or.inr (Or.inr (Or.inl ⟨9, TX9, 12, by decide, rfl, rfl, (by decide +kernel), ⟨1, rfl, mx_npd (by decide +kernel)⟩, ml_in_941, ml_se_942⟩))⟩) <|
  mc_1 (mk_r (Or.inl ⟨rfl, by decide +kernel, _, rfl, mf_0⟩) rfl) <| mc_0
theorem mw_134 : ∀ ch ∈ mt_134, ∀ e ∈ ch, mx_Ok mx_MT mq_134 e.1 e.2 := mc_2 mw_134_0 <| mc_2 mw_134_1 <| mc_2 mw_134_2 <| mc_3
/- 135 LeagueOffice.player()I -/
theorem mw_135_0 : ∀ e ∈ mt_135_0, mx_Ok mx_MT mq_135 e.1 e.2 := 
  mc_1 (mk_p (ms_aload_n (k := 0) (by decide +kernel) rfl) rfl) <|
  mc_1 (mk_p (ms_get (idx := 44) (w := 700) (host := none) mx_c11 (by decide) ml_f_LeagueOffice_44 (by decide +kernel)) rfl) <|
  mc_1 (mk_p (ms_get (idx := 235) (w := 332) (host := (some "LeagueOffice")) mx_c8 (by decide) ml_f_LeagueOffice_235 (by decide +kernel)) rfl) <|
  mc_1 (mk_p (ms_bipush (n := 20) (by decide +kernel) (by decide +kernel)) rfl) <|
  mc_1 (mk_p (ms_icmp_lt (off := (6)) (by decide +kernel) (by decide)) rfl) <|
  mc_1 (mk_p (ms_bipush (n := (-4)) (by decide +kernel) (by decide +kernel)) rfl) <|
  mc_1 (mk_r (Or.inl ⟨rfl, by decide +kernel, _, rfl, mf_0⟩) rfl) <|
  mc_1 (mk_p (ms_aload_n (k := 0) (by decide +kernel) rfl) rfl) <| mc_0
theorem mw_135_1 : ∀ e ∈ mt_135_1, mx_Ok mx_MT mq_135 e.1 e.2 := 
  mc_1 (mk_p (ms_get (idx := 44) (w := 700) (host := none) mx_c11 (by decide) ml_f_LeagueOffice_44 (by decide +kernel)) rfl) <|
  mc_1 (mk_p (ms_dup (by decide +kernel)) rfl) <|
  mc_1 (mk_p (ms_get (idx := 235) (w := 332) (host := (some "LeagueOffice")) mx_c8 (by decide) ml_f_LeagueOffice_235 (by decide +kernel)) rfl) <|
  mc_1 (mk_p (ms_iconst (n := 1) (by decide +kernel) (by decide +kernel)) rfl) <|
  mc_1 (mk_p (ms_iadd (by decide +kernel)) rfl) <|
  mc_1 (mk_p (ms_put (idx := 235) (w := 332) (host := (some "LeagueOffice")) mx_c8 (by decide) ml_f_LeagueOffice_235 rfl rfl (by decide +kernel)) rfl) <|
  mc_1 (mk_p (ms_aload_n (k := 0) (by decide +kernel) rfl) rfl) <|
  mc_1 (mk_p (ms_get (idx := 44) (w := 700) (host := none) mx_c11 (by decide) ml_f_LeagueOffice_44 (by decide +kernel)) rfl) <| mc_0
theorem mw_135_2 : ∀ e ∈ mt_135_2, mx_Ok mx_MT mq_135 e.1 e.2 := 
  mc_1 (mk_p (ms_get (idx := 235) (w := 332) (host := (some "LeagueOffice")) mx_c8 (by decide) ml_f_LeagueOffice_235 (by decide +kernel)) rfl) <|
  mc_1 (mk_p (ms_iconst (n := 1) (by decide +kernel) (by decide +kernel)) rfl) <|
  mc_1 (mk_p (ms_isub (by decide +kernel)) rfl) <|
  mc_1 (mk_r (Or.inl ⟨rfl, by decide +kernel, _, rfl, mf_0⟩) rfl) <| mc_0
theorem mw_135 : ∀ ch ∈ mt_135, ∀ e ∈ ch, mx_Ok mx_MT mq_135 e.1 e.2 := mc_2 mw_135_0 <| mc_2 mw_135_1 <| mc_2 mw_135_2 <| mc_3
/- 136 LeagueOffice.register(III)I -/
theorem mw_136_0 : ∀ e ∈ mt_136_0, mx_Ok mx_MT mq_136 e.1 e.2 := 
  mc_1 (mk_p (ms_aload_n (k := 0) (by decide +kernel) rfl) rfl) <|
  mc_1 (mk_p (ms_get (idx := 44) (w := 700) (host := none) mx_c11 (by decide) ml_f_LeagueOffice_44 (by decide +kernel)) rfl) <|
  mc_1 (mk_p (ms_iload_n (k := 1) (by decide +kernel) rfl) rfl) <|
  mc_1 (mk_c (k := mq_87) rfl ⟨mo_87, 238, 959, none, ml_m_LeagueOffice_238, Or.inr (Or.inr (Or.inl ⟨8, TX8, 14, by decide, rfl, rfl, (by decide +kernel), ⟨1, rfl, mx_npd (by decide +kernel)⟩, ml_in_960, ml_se_961⟩))⟩) <|
  mc_1 (mk_p (ms_if_eq (off := (24)) (by decide +kernel) (by decide)) rfl) <|
  mc_1 (mk_p (ms_aload_n (k := 0) (by decide +kernel) rfl) rfl) <|
  mc_1 (mk_p (ms_get (idx := 12) (w := 696) (host := none) mx_c11 (by decide) ml_f_LeagueOffice_12 (by decide +kernel)) rfl) <|
  mc_1 (mk_p (ms_iload_n (k := 2) (by decide +kernel) rfl) rfl) <| mc_0
theorem mw_136_1 : ∀ e ∈ mt_136_1, mx_Ok mx_MT mq_136 e.1 e.2 := 
  mc_1 (mk_c (k := mq_1) rfl ⟨mo_1, 132, 747, none, ml_m_LeagueOffice_132, Or.inr (Or.inr (Or.inl ⟨0, TX0, 12, by decide, rfl, rfl, (by decide +kernel), ⟨1, rfl, mx_npd (by decide +kernel)⟩, ml_in_748, ml_se_749⟩))⟩) <|
  mc_1 (mk_p (ms_if_eq (off := (13)) (by decide +kernel) (by decide)) rfl) <|
  mc_1 (mk_p (ms_iload_n (k := 3) (by decide +kernel) rfl) rfl) <|
  mc_1 (mk_p (ms_sipush (n := 400) (by decide +kernel) (by decide +kernel)) rfl) <|
  mc_1 (mk_c (k := mq_160) rfl ⟨mo_160, 118, 736, none, ml_m_LeagueOffice_118, Or.inl ⟨rfl, (by decide +kernel), mx_npd (by decide +kernel), ml_st_737⟩⟩) <|
  mc_1 (mk_p (ms_if_ne (off := (6)) (by decide +kernel) (by decide)) rfl) <| mc_0
theorem mw_136_2 : ∀ e ∈ mt_136_2, mx_Ok mx_MT mq_136 e.1 e.2 := 
  mc_1 (mk_p (ms_bipush (n := (-2)) (by decide +kernel) (by decide +kernel)) rfl) <|
  mc_1 (mk_r (Or.inl ⟨rfl, by decide +kernel, _, rfl, mf_0⟩) rfl) <|
  mc_1 (mk_p (ms_aload_n (k := 0) (by decide +kernel) rfl) rfl) <|
  mc_1 (mk_p (ms_get (idx := 44) (w := 700) (host := none) mx_c11 (by decide) ml_f_LeagueOffice_44 (by decide +kernel)) rfl) <|
  mc_1 (mk_p (ms_get (idx := 241) (w := 334) (host := (some "LeagueOffice")) mx_c8 (by decide) ml_f_LeagueOffice_241 (by decide +kernel)) rfl) <|
  mc_1 (mk_c (k := mq_66) rfl ⟨mo_66, 125, 739, none, ml_m_LeagueOffice_125, Or.inr (Or.inr (Or.inl ⟨6, TX6, 2, by decide, rfl, rfl, (by decide +kernel), ⟨0, rfl, mx_npd (by decide +kernel)⟩, ml_in_740, ml_se_741⟩))⟩) <|
  mc_1 (mk_p (ms_if_eq (off := (6)) (by decide +kernel) (by decide)) rfl) <| mc_0
theorem mw_136_3 : ∀ e ∈ mt_136_3, mx_Ok mx_MT mq_136 e.1 e.2 := 
  mc_1 (mk_p (ms_bipush (n := (-4)) (by decide +kernel) (by decide +kernel)) rfl) <|
  mc_1 (mk_r (Or.inl ⟨rfl, by decide +kernel, _, rfl, mf_0⟩) rfl) <|
  mc_1 (mk_p (ms_aload_n (k := 0) (by decide +kernel) rfl) rfl) <|
  mc_1 (mk_p (ms_get (idx := 44) (w := 700) (host := none) mx_c11 (by decide) ml_f_LeagueOffice_44 (by decide +kernel)) rfl) <|
  mc_1 (mk_p (ms_get (idx := 241) (w := 334) (host := (some "LeagueOffice")) mx_c8 (by decide) ml_f_LeagueOffice_241 (by decide +kernel)) rfl) <|
  mc_1 (mk_p (ms_iload_n (k := 1) (by decide +kernel) rfl) rfl) <|
  mc_1 (mk_c (k := mq_71) rfl ⟨mo_71, 105, 566, none, ml_m_LeagueOffice_105, Or.inr (Or.inr (Or.inl ⟨6, TX6, 2, by decide, rfl, rfl, (by decide +kernel), ⟨1, rfl, mx_npd (by decide +kernel)⟩, ml_in_567, ml_se_568⟩))⟩) <|
  mc_1 (mk_p (ms_pop (by decide +kernel)) rfl) <|
  mc_1 (mk_p (ms_aload_n (k := 0) (by decide +kernel) rfl) rfl) <| mc_0
theorem mw_136_4 : ∀ e ∈ mt_136_4, mx_Ok mx_MT mq_136 e.1 e.2 := 
  mc_1 (mk_p (ms_get (idx := 44) (w := 700) (host := none) mx_c11 (by decide) ml_f_LeagueOffice_44 (by decide +kernel)) rfl) <|
  mc_1 (mk_p (ms_get (idx := 244) (w := 336) (host := (some "LeagueOffice")) mx_c8 (by decide) ml_f_LeagueOffice_244 (by decide +kernel)) rfl) <|
  mc_1 (mk_p (ms_iload_n (k := 2) (by decide +kernel) rfl) rfl) <|
  mc_1 (mk_c (k := mq_71) rfl ⟨mo_71, 105, 566, none, ml_m_LeagueOffice_105, Or.inr (Or.inr (Or.inl ⟨6, TX6, 2, by decide, rfl, rfl, (by decide +kernel), ⟨1, rfl, mx_npd (by decide +kernel)⟩, ml_in_567, ml_se_568⟩))⟩) <|
  mc_1 (mk_p (ms_pop (by decide +kernel)) rfl) <|
  mc_1 (mk_p (ms_aload_n (k := 0) (by decide +kernel) rfl) rfl) <|
  mc_1 (mk_p (ms_get (idx := 44) (w := 700) (host := none) mx_c11 (by decide) ml_f_LeagueOffice_44 (by decide +kernel)) rfl) <|
  mc_1 (mk_p (ms_get (idx := 247) (w := 338) (host := (some "LeagueOffice")) mx_c8 (by decide) ml_f_LeagueOffice_247 (by decide +kernel)) rfl) <| mc_0
theorem mw_136_5 : ∀ e ∈ mt_136_5, mx_Ok mx_MT mq_136 e.1 e.2 := 
  mc_1 (mk_p (ms_iload_n (k := 3) (by decide +kernel) rfl) rfl) <|
  mc_1 (mk_c (k := mq_71) rfl ⟨mo_71, 105, 566, none, ml_m_LeagueOffice_105, Or.inr (Or.inr (Or.inl ⟨6, TX6, 2, by decide, rfl, rfl, (by decide +kernel), ⟨1, rfl, mx_npd (by decide +kernel)⟩, ml_in_567, ml_se_568⟩))⟩) <|
  mc_1 (mk_r (Or.inl ⟨rfl, by decide +kernel, _, rfl, mf_0⟩) rfl) <| mc_0
theorem mw_136 : ∀ ch ∈ mt_136, ∀ e ∈ ch, mx_Ok mx_MT mq_136 e.1 e.2 := mc_2 mw_136_0 <| mc_2 mw_136_1 <| mc_2 mw_136_2 <| mc_2 mw_136_3 <| mc_2 mw_136_4 <| mc_2 mw_136_5 <| mc_3
/- 137 LeagueOffice.clubOf(II)I -/
theorem mw_137_0 : ∀ e ∈ mt_137_0, mx_Ok mx_MT mq_137 e.1 e.2 := 
  mc_1 (mk_p (ms_aload_n (k := 0) (by decide +kernel) rfl) rfl) <|
  mc_1 (mk_p (ms_get (idx := 44) (w := 700) (host := none) mx_c11 (by decide) ml_f_LeagueOffice_44 (by decide +kernel)) rfl) <|
  mc_1 (mk_p (ms_iload_n (k := 1) (by decide +kernel) rfl) rfl) <|
  mc_1 (mk_c (k := mq_87) rfl ⟨mo_87, 238, 959, none, ml_m_LeagueOffice_238, Or.inr (Or.inr (Or.inl ⟨8, TX8, 14, by decide, rfl, rfl, (by decide +kernel), ⟨1, rfl, mx_npd (by decide +kernel)⟩, ml_in_960, ml_se_961⟩))⟩) <|
  mc_1 (mk_p (ms_if_eq (off := (13)) (by decide +kernel) (by decide)) rfl) <|
  mc_1 (mk_p (ms_iload_n (k := 2) (by decide +kernel) rfl) rfl) <|
  mc_1 (mk_p (ms_sipush (n := 400) (by decide +kernel) (by decide +kernel)) rfl) <|
  mc_1 (mk_c (k := mq_160) rfl ⟨mo_160, 118, 736, none, ml_m_LeagueOffice_118, Or.inl ⟨rfl, (by decide +kernel), mx_npd (by decide +kernel), ml_st_737⟩⟩) <| mc_0
theorem mw_137_1 : ∀ e ∈ mt_137_1, mx_Ok mx_MT mq_137 e.1 e.2 := 
  mc_1 (mk_p (ms_if_ne (off := (6)) (by decide +kernel) (by decide)) rfl) <|
  mc_1 (mk_p (ms_bipush (n := (-2)) (by decide +kernel) (by decide +kernel)) rfl) <|
  mc_1 (mk_r (Or.inl ⟨rfl, by decide +kernel, _, rfl, mf_0⟩) rfl) <|
  mc_1 (mk_p (ms_aload_n (k := 0) (by decide +kernel) rfl) rfl) <|
  mc_1 (mk_p (ms_get (idx := 44) (w := 700) (host := none) mx_c11 (by decide) ml_f_LeagueOffice_44 (by decide +kernel)) rfl) <|
  mc_1 (mk_p (ms_iload_n (k := 1) (by decide +kernel) rfl) rfl) <|
  mc_1 (mk_p (ms_iload_n (k := 2) (by decide +kernel) rfl) rfl) <|
  mc_1 (mk_c (k := mq_88) rfl ⟨mo_88, 250, 967, none, ml_m_LeagueOffice_250, Or.inr (Or.inr (Or.inl ⟨8, TX8, 14, by decide, rfl, rfl, (by decide +kernel), ⟨2, rfl, mx_npd (by decide +kernel)⟩, ml_in_968, ml_se_969⟩))⟩) <| mc_0
theorem mw_137_2 : ∀ e ∈ mt_137_2, mx_Ok mx_MT mq_137 e.1 e.2 := 
  mc_1 (mk_r (Or.inl ⟨rfl, by decide +kernel, _, rfl, mf_0⟩) rfl) <| mc_0
theorem mw_137 : ∀ ch ∈ mt_137, ∀ e ∈ ch, mx_Ok mx_MT mq_137 e.1 e.2 := mc_2 mw_137_0 <| mc_2 mw_137_1 <| mc_2 mw_137_2 <| mc_3
/- 138 LeagueOffice.card(III)I -/
theorem mw_138_0 : ∀ e ∈ mt_138_0, mx_Ok mx_MT mq_138 e.1 e.2 := 
  mc_1 (mk_p (ms_aload_n (k := 0) (by decide +kernel) rfl) rfl) <|
  mc_1 (mk_p (ms_get (idx := 44) (w := 700) (host := none) mx_c11 (by decide) ml_f_LeagueOffice_44 (by decide +kernel)) rfl) <|
  mc_1 (mk_p (ms_iload_n (k := 1) (by decide +kernel) rfl) rfl) <|
  mc_1 (mk_c (k := mq_87) rfl ⟨mo_87, 238, 959, none, ml_m_LeagueOffice_238, Or.inr (Or.inr (Or.inl ⟨8, TX8, 14, by decide, rfl, rfl, (by decide +kernel), ⟨1, rfl, mx_npd (by decide +kernel)⟩, ml_in_960, ml_se_961⟩))⟩) <|
  mc_1 (mk_p (ms_if_eq (off := (24)) (by decide +kernel) (by decide)) rfl) <|
  mc_1 (mk_p (ms_aload_n (k := 0) (by decide +kernel) rfl) rfl) <|
  mc_1 (mk_p (ms_get (idx := 12) (w := 696) (host := none) mx_c11 (by decide) ml_f_LeagueOffice_12 (by decide +kernel)) rfl) <|
  mc_1 (mk_p (ms_iload_n (k := 2) (by decide +kernel) rfl) rfl) <| mc_0
theorem mw_138_1 : ∀ e ∈ mt_138_1, mx_Ok mx_MT mq_138 e.1 e.2 := 
  mc_1 (mk_c (k := mq_2) rfl ⟨mo_2, 150, 779, none, ml_m_LeagueOffice_150, Or.inr (Or.inr (Or.inl ⟨0, TX0, 12, by decide, rfl, rfl, (by decide +kernel), ⟨1, rfl, mx_npd (by decide +kernel)⟩, ml_in_780, ml_se_781⟩))⟩) <|
  mc_1 (mk_p (ms_if_eq (off := (13)) (by decide +kernel) (by decide)) rfl) <|
  mc_1 (mk_p (ms_iload_n (k := 3) (by decide +kernel) rfl) rfl) <|
  mc_1 (mk_p (ms_iconst (n := 1) (by decide +kernel) (by decide +kernel)) rfl) <|
  mc_1 (mk_p (ms_icmp_lt (off := (8)) (by decide +kernel) (by decide)) rfl) <|
  mc_1 (mk_p (ms_iload_n (k := 3) (by decide +kernel) rfl) rfl) <|
  mc_1 (mk_p (ms_iconst (n := 2) (by decide +kernel) (by decide +kernel)) rfl) <|
  mc_1 (mk_p (ms_icmp_le (off := (6)) (by decide +kernel) (by decide)) rfl) <| mc_0
theorem mw_138_2 : ∀ e ∈ mt_138_2, mx_Ok mx_MT mq_138 e.1 e.2 := 
  mc_1 (mk_p (ms_bipush (n := (-2)) (by decide +kernel) (by decide +kernel)) rfl) <|
  mc_1 (mk_r (Or.inl ⟨rfl, by decide +kernel, _, rfl, mf_0⟩) rfl) <|
  mc_1 (mk_p (ms_aload_n (k := 0) (by decide +kernel) rfl) rfl) <|
  mc_1 (mk_p (ms_get (idx := 44) (w := 700) (host := none) mx_c11 (by decide) ml_f_LeagueOffice_44 (by decide +kernel)) rfl) <|
  mc_1 (mk_p (ms_get (idx := 253) (w := 340) (host := (some "LeagueOffice")) mx_c8 (by decide) ml_f_LeagueOffice_253 (by decide +kernel)) rfl) <|
  mc_1 (mk_c (k := mq_66) rfl ⟨mo_66, 125, 739, none, ml_m_LeagueOffice_125, Or.inr (Or.inr (Or.inl ⟨6, TX6, 2, by decide, rfl, rfl, (by decide +kernel), ⟨0, rfl, mx_npd (by decide +kernel)⟩, ml_in_740, ml_se_741⟩))⟩) <|
  mc_1 (mk_p (ms_if_eq (off := (6)) (by decide +kernel) (by decide)) rfl) <| mc_0
theorem mw_138_3 : ∀ e ∈ mt_138_3, mx_Ok mx_MT mq_138 e.1 e.2 := 
  mc_1 (mk_p (ms_bipush (n := (-4)) (by decide +kernel) (by decide +kernel)) rfl) <|
  mc_1 (mk_r (Or.inl ⟨rfl, by decide +kernel, _, rfl, mf_0⟩) rfl) <|
  mc_1 (mk_p (ms_aload_n (k := 0) (by decide +kernel) rfl) rfl) <|
  mc_1 (mk_p (ms_get (idx := 44) (w := 700) (host := none) mx_c11 (by decide) ml_f_LeagueOffice_44 (by decide +kernel)) rfl) <|
  mc_1 (mk_p (ms_get (idx := 256) (w := 342) (host := (some "LeagueOffice")) mx_c8 (by decide) ml_f_LeagueOffice_256 (by decide +kernel)) rfl) <|
  mc_1 (mk_p (ms_iload_n (k := 2) (by decide +kernel) rfl) rfl) <|
  mc_1 (mk_c (k := mq_71) rfl ⟨mo_71, 105, 566, none, ml_m_LeagueOffice_105, Or.inr (Or.inr (Or.inl ⟨6, TX6, 2, by decide, rfl, rfl, (by decide +kernel), ⟨1, rfl, mx_npd (by decide +kernel)⟩, ml_in_567, ml_se_568⟩))⟩) <|
  mc_1 (mk_p (ms_pop (by decide +kernel)) rfl) <|
  mc_1 (mk_p (ms_aload_n (k := 0) (by decide +kernel) rfl) rfl) <| mc_0
theorem mw_138_4 : ∀ e ∈ mt_138_4, mx_Ok mx_MT mq_138 e.1 e.2 := 
  mc_1 (mk_p (ms_get (idx := 44) (w := 700) (host := none) mx_c11 (by decide) ml_f_LeagueOffice_44 (by decide +kernel)) rfl) <|
  mc_1 (mk_p (ms_get (idx := 259) (w := 344) (host := (some "LeagueOffice")) mx_c8 (by decide) ml_f_LeagueOffice_259 (by decide +kernel)) rfl) <|
  mc_1 (mk_p (ms_iload_n (k := 3) (by decide +kernel) rfl) rfl) <|
  mc_1 (mk_c (k := mq_71) rfl ⟨mo_71, 105, 566, none, ml_m_LeagueOffice_105, Or.inr (Or.inr (Or.inl ⟨6, TX6, 2, by decide, rfl, rfl, (by decide +kernel), ⟨1, rfl, mx_npd (by decide +kernel)⟩, ml_in_567, ml_se_568⟩))⟩) <|
  mc_1 (mk_p (ms_pop (by decide +kernel)) rfl) <|
  mc_1 (mk_p (ms_aload_n (k := 0) (by decide +kernel) rfl) rfl) <|
  mc_1 (mk_p (ms_get (idx := 44) (w := 700) (host := none) mx_c11 (by decide) ml_f_LeagueOffice_44 (by decide +kernel)) rfl) <|
  mc_1 (mk_p (ms_get (idx := 253) (w := 340) (host := (some "LeagueOffice")) mx_c8 (by decide) ml_f_LeagueOffice_253 (by decide +kernel)) rfl) <| mc_0
theorem mw_138_5 : ∀ e ∈ mt_138_5, mx_Ok mx_MT mq_138 e.1 e.2 := 
  mc_1 (mk_p (ms_iload_n (k := 1) (by decide +kernel) rfl) rfl) <|
  mc_1 (mk_c (k := mq_71) rfl ⟨mo_71, 105, 566, none, ml_m_LeagueOffice_105, Or.inr (Or.inr (Or.inl ⟨6, TX6, 2, by decide, rfl, rfl, (by decide +kernel), ⟨1, rfl, mx_npd (by decide +kernel)⟩, ml_in_567, ml_se_568⟩))⟩) <|
  mc_1 (mk_p (ms_iconst (n := 1) (by decide +kernel) (by decide +kernel)) rfl) <|
  mc_1 (mk_p (ms_isub (by decide +kernel)) rfl) <|
  mc_1 (mk_r (Or.inl ⟨rfl, by decide +kernel, _, rfl, mf_0⟩) rfl) <| mc_0
theorem mw_138 : ∀ ch ∈ mt_138, ∀ e ∈ ch, mx_Ok mx_MT mq_138 e.1 e.2 := mc_2 mw_138_0 <| mc_2 mw_138_1 <| mc_2 mw_138_2 <| mc_2 mw_138_3 <| mc_2 mw_138_4 <| mc_2 mw_138_5 <| mc_3
/- 139 LeagueOffice.bans(I)I -/
theorem mw_139_0 : ∀ e ∈ mt_139_0, mx_Ok mx_MT mq_139 e.1 e.2 := 
  mc_1 (mk_p (ms_aload_n (k := 0) (by decide +kernel) rfl) rfl) <|
  mc_1 (mk_p (ms_get (idx := 44) (w := 700) (host := none) mx_c11 (by decide) ml_f_LeagueOffice_44 (by decide +kernel)) rfl) <|
  mc_1 (mk_p (ms_get (idx := 253) (w := 340) (host := (some "LeagueOffice")) mx_c8 (by decide) ml_f_LeagueOffice_253 (by decide +kernel)) rfl) <|
  mc_1 (mk_p (ms_iload_n (k := 1) (by decide +kernel) rfl) rfl) <|
  mc_1 (mk_c (k := mq_67) rfl ⟨mo_67, 262, 981, none, ml_m_LeagueOffice_262, Or.inr (Or.inr (Or.inl ⟨6, TX6, 2, by decide, rfl, rfl, (by decide +kernel), ⟨1, rfl, mx_npd (by decide +kernel)⟩, ml_in_752, ml_se_753⟩))⟩) <|
  mc_1 (mk_p (ms_if_eq (off := (22)) (by decide +kernel) (by decide)) rfl) <|
  mc_1 (mk_p (ms_aload_n (k := 0) (by decide +kernel) rfl) rfl) <|
  mc_1 (mk_p (ms_get (idx := 44) (w := 700) (host := none) mx_c11 (by decide) ml_f_LeagueOffice_44 (by decide +kernel)) rfl) <| mc_0
theorem mw_139_1 : ∀ e ∈ mt_139_1, mx_Ok mx_MT mq_139 e.1 e.2 := 
  mc_1 (mk_p (ms_iload_n (k := 1) (by decide +kernel) rfl) rfl) <|
  mc_1 (mk_p (ms_aload_n (k := 0) (by decide +kernel) rfl) rfl) <|
  mc_1 (mk_p (ms_get (idx := 44) (w := 700) (host := none) mx_c11 (by decide) ml_f_LeagueOffice_44 (by decide +kernel)) rfl) <|
  mc_1 (mk_p (ms_iload_n (k := 1) (by decide +kernel) rfl) rfl) <|
  mc_1 (mk_c (k := mq_89) rfl ⟨mo_89, 265, 982, none, ml_m_LeagueOffice_265, Or.inr (Or.inr (Or.inl ⟨8, TX8, 14, by decide, rfl, rfl, (by decide +kernel), ⟨1, rfl, mx_npd (by decide +kernel)⟩, ml_in_983, ml_se_984⟩))⟩) <|
  mc_1 (mk_c (k := mq_90) rfl ⟨mo_90, 268, 986, none, ml_m_LeagueOffice_268, Or.inr (Or.inr (Or.inl ⟨8, TX8, 14, by decide, rfl, rfl, (by decide +kernel), ⟨2, rfl, mx_npd (by decide +kernel)⟩, ml_in_987, ml_se_988⟩))⟩) <|
  mc_1 (mk_p (ms_goto (off := (5)) (by decide +kernel) (by decide)) rfl) <| mc_0
theorem mw_139_2 : ∀ e ∈ mt_139_2, mx_Ok mx_MT mq_139 e.1 e.2 := 
  mc_1 (mk_p (ms_bipush (n := (-2)) (by decide +kernel) (by decide +kernel)) rfl) <|
  mc_1 (mk_r (Or.inl ⟨rfl, by decide +kernel, _, rfl, mf_0⟩) rfl) <| mc_0
theorem mw_139 : ∀ ch ∈ mt_139, ∀ e ∈ ch, mx_Ok mx_MT mq_139 e.1 e.2 := mc_2 mw_139_0 <| mc_2 mw_139_1 <| mc_2 mw_139_2 <| mc_3
/- 140 LeagueOffice.banned(II)I -/
theorem mw_140_0 : ∀ e ∈ mt_140_0, mx_Ok mx_MT mq_140 e.1 e.2 := 
  mc_1 (mk_p (ms_aload_n (k := 0) (by decide +kernel) rfl) rfl) <|
  mc_1 (mk_p (ms_get (idx := 44) (w := 700) (host := none) mx_c11 (by decide) ml_f_LeagueOffice_44 (by decide +kernel)) rfl) <|
  mc_1 (mk_p (ms_get (idx := 253) (w := 340) (host := (some "LeagueOffice")) mx_c8 (by decide) ml_f_LeagueOffice_253 (by decide +kernel)) rfl) <|
  mc_1 (mk_p (ms_iload_n (k := 1) (by decide +kernel) rfl) rfl) <|
  mc_1 (mk_c (k := mq_67) rfl ⟨mo_67, 262, 981, none, ml_m_LeagueOffice_262, Or.inr (Or.inr (Or.inl ⟨6, TX6, 2, by decide, rfl, rfl, (by decide +kernel), ⟨1, rfl, mx_npd (by decide +kernel)⟩, ml_in_752, ml_se_753⟩))⟩) <|
  mc_1 (mk_p (ms_if_eq (off := (15)) (by decide +kernel) (by decide)) rfl) <|
  mc_1 (mk_p (ms_aload_n (k := 0) (by decide +kernel) rfl) rfl) <|
  mc_1 (mk_p (ms_get (idx := 44) (w := 700) (host := none) mx_c11 (by decide) ml_f_LeagueOffice_44 (by decide +kernel)) rfl) <| mc_0
theorem mw_140_1 : ∀ e ∈ mt_140_1, mx_Ok mx_MT mq_140 e.1 e.2 := 
  mc_1 (mk_p (ms_iload_n (k := 1) (by decide +kernel) rfl) rfl) <|
  mc_1 (mk_p (ms_iload_n (k := 2) (by decide +kernel) rfl) rfl) <|
  mc_1 (mk_c (k := mq_93) rfl ⟨mo_93, 271, 1002, none, ml_m_LeagueOffice_271, Or.inr (Or.inr (Or.inl ⟨8, TX8, 14, by decide, rfl, rfl, (by decide +kernel), ⟨2, rfl, mx_npd (by decide +kernel)⟩, ml_in_1003, ml_se_1004⟩))⟩) <|
  mc_1 (mk_p (ms_goto (off := (5)) (by decide +kernel) (by decide)) rfl) <|
  mc_1 (mk_p (ms_bipush (n := (-2)) (by decide +kernel) (by decide +kernel)) rfl) <|
  mc_1 (mk_r (Or.inl ⟨rfl, by decide +kernel, _, rfl, mf_0⟩) rfl) <| mc_0
theorem mw_140 : ∀ ch ∈ mt_140, ∀ e ∈ ch, mx_Ok mx_MT mq_140 e.1 e.2 := mc_2 mw_140_0 <| mc_2 mw_140_1 <| mc_3
/- 141 LeagueOffice.may(II)I -/
theorem mw_141_0 : ∀ e ∈ mt_141_0, mx_Ok mx_MT mq_141 e.1 e.2 := 
  mc_1 (mk_p (ms_aload_n (k := 0) (by decide +kernel) rfl) rfl) <|
  mc_1 (mk_p (ms_get (idx := 44) (w := 700) (host := none) mx_c11 (by decide) ml_f_LeagueOffice_44 (by decide +kernel)) rfl) <|
  mc_1 (mk_p (ms_iload_n (k := 1) (by decide +kernel) rfl) rfl) <|
  mc_1 (mk_c (k := mq_87) rfl ⟨mo_87, 238, 959, none, ml_m_LeagueOffice_238, Or.inr (Or.inr (Or.inl ⟨8, TX8, 14, by decide, rfl, rfl, (by decide +kernel), ⟨1, rfl, mx_npd (by decide +kernel)⟩, ml_in_960, ml_se_961⟩))⟩) <|
  mc_1 (mk_p (ms_if_eq (off := (14)) (by decide +kernel) (by decide)) rfl) <|
  mc_1 (mk_p (ms_aload_n (k := 0) (by decide +kernel) rfl) rfl) <|
  mc_1 (mk_p (ms_get (idx := 12) (w := 696) (host := none) mx_c11 (by decide) ml_f_LeagueOffice_12 (by decide +kernel)) rfl) <|
  mc_1 (mk_p (ms_iload_n (k := 2) (by decide +kernel) rfl) rfl) <| mc_0
theorem mw_141_1 : ∀ e ∈ mt_141_1, mx_Ok mx_MT mq_141 e.1 e.2 := 
  mc_1 (mk_c (k := mq_2) rfl ⟨mo_2, 150, 779, none, ml_m_LeagueOffice_150, Or.inr (Or.inr (Or.inl ⟨0, TX0, 12, by decide, rfl, rfl, (by decide +kernel), ⟨1, rfl, mx_npd (by decide +kernel)⟩, ml_in_780, ml_se_781⟩))⟩) <|
  mc_1 (mk_p (ms_if_ne (off := (6)) (by decide +kernel) (by decide)) rfl) <|
  mc_1 (mk_p (ms_bipush (n := (-2)) (by decide +kernel) (by decide +kernel)) rfl) <|
  mc_1 (mk_r (Or.inl ⟨rfl, by decide +kernel, _, rfl, mf_0⟩) rfl) <|
  mc_1 (mk_p (ms_aload_n (k := 0) (by decide +kernel) rfl) rfl) <|
  mc_1 (mk_p (ms_get (idx := 44) (w := 700) (host := none) mx_c11 (by decide) ml_f_LeagueOffice_44 (by decide +kernel)) rfl) <|
  mc_1 (mk_p (ms_iload_n (k := 1) (by decide +kernel) rfl) rfl) <|
  mc_1 (mk_c (k := mq_91) rfl ⟨mo_91, 274, 1031, none, ml_m_LeagueOffice_274, Or.inr (Or.inr (Or.inl ⟨8, TX8, 14, by decide, rfl, rfl, (by decide +kernel), ⟨1, rfl, mx_npd (by decide +kernel)⟩, ml_in_1007, ml_se_1008⟩))⟩) <| mc_0
theorem mw_141_2 : ∀ e ∈ mt_141_2, mx_Ok mx_MT mq_141 e.1 e.2 := 
  mc_1 (mk_p (ms_aload_n (k := 0) (by decide +kernel) rfl) rfl) <|
  mc_1 (mk_p (ms_get (idx := 44) (w := 700) (host := none) mx_c11 (by decide) ml_f_LeagueOffice_44 (by decide +kernel)) rfl) <|
  mc_1 (mk_p (ms_iload_n (k := 1) (by decide +kernel) rfl) rfl) <|
  mc_1 (mk_p (ms_iload_n (k := 2) (by decide +kernel) rfl) rfl) <|
  mc_1 (mk_c (k := mq_94) rfl ⟨mo_94, 277, 1032, none, ml_m_LeagueOffice_277, Or.inr (Or.inr (Or.inl ⟨8, TX8, 14, by decide, rfl, rfl, (by decide +kernel), ⟨2, rfl, mx_npd (by decide +kernel)⟩, ml_in_1033, ml_se_1034⟩))⟩) <|
  mc_1 (mk_p (ms_if_eq (off := (7)) (by decide +kernel) (by decide)) rfl) <|
  mc_1 (mk_p (ms_iconst (n := 1) (by decide +kernel) (by decide +kernel)) rfl) <|
  mc_1 (mk_p (ms_goto (off := (4)) (by decide +kernel) (by decide)) rfl) <| mc_0
theorem mw_141_3 : ∀ e ∈ mt_141_3, mx_Ok mx_MT mq_141 e.1 e.2 := 
  mc_1 (mk_p (ms_iconst (n := 0) (by decide +kernel) (by decide +kernel)) rfl) <|
  mc_1 (mk_r (Or.inl ⟨rfl, by decide +kernel, _, rfl, mf_0⟩) rfl) <| mc_0
theorem mw_141 : ∀ ch ∈ mt_141, ∀ e ∈ ch, mx_Ok mx_MT mq_141 e.1 e.2 := mc_2 mw_141_0 <| mc_2 mw_141_1 <| mc_2 mw_141_2 <| mc_2 mw_141_3 <| mc_3
/- 142 LeagueOffice.played(II)I -/
theorem mw_142_0 : ∀ e ∈ mt_142_0, mx_Ok mx_MT mq_142 e.1 e.2 := 
  mc_1 (mk_p (ms_aload_n (k := 0) (by decide +kernel) rfl) rfl) <|
  mc_1 (mk_p (ms_get (idx := 44) (w := 700) (host := none) mx_c11 (by decide) ml_f_LeagueOffice_44 (by decide +kernel)) rfl) <|
  mc_1 (mk_p (ms_iload_n (k := 1) (by decide +kernel) rfl) rfl) <|
  mc_1 (mk_c (k := mq_87) rfl ⟨mo_87, 238, 959, none, ml_m_LeagueOffice_238, Or.inr (Or.inr (Or.inl ⟨8, TX8, 14, by decide, rfl, rfl, (by decide +kernel), ⟨1, rfl, mx_npd (by decide +kernel)⟩, ml_in_960, ml_se_961⟩))⟩) <|
  mc_1 (mk_p (ms_if_eq (off := (14)) (by decide +kernel) (by decide)) rfl) <|
  mc_1 (mk_p (ms_aload_n (k := 0) (by decide +kernel) rfl) rfl) <|
  mc_1 (mk_p (ms_get (idx := 12) (w := 696) (host := none) mx_c11 (by decide) ml_f_LeagueOffice_12 (by decide +kernel)) rfl) <|
  mc_1 (mk_p (ms_iload_n (k := 2) (by decide +kernel) rfl) rfl) <| mc_0
theorem mw_142_1 : ∀ e ∈ mt_142_1, mx_Ok mx_MT mq_142 e.1 e.2 := 
  mc_1 (mk_c (k := mq_2) rfl ⟨mo_2, 150, 779, none, ml_m_LeagueOffice_150, Or.inr (Or.inr (Or.inl ⟨0, TX0, 12, by decide, rfl, rfl, (by decide +kernel), ⟨1, rfl, mx_npd (by decide +kernel)⟩, ml_in_780, ml_se_781⟩))⟩) <|
  mc_1 (mk_p (ms_if_ne (off := (6)) (by decide +kernel) (by decide)) rfl) <|
  mc_1 (mk_p (ms_bipush (n := (-2)) (by decide +kernel) (by decide +kernel)) rfl) <|
  mc_1 (mk_r (Or.inl ⟨rfl, by decide +kernel, _, rfl, mf_0⟩) rfl) <|
  mc_1 (mk_p (ms_aload_n (k := 0) (by decide +kernel) rfl) rfl) <|
  mc_1 (mk_p (ms_get (idx := 44) (w := 700) (host := none) mx_c11 (by decide) ml_f_LeagueOffice_44 (by decide +kernel)) rfl) <|
  mc_1 (mk_p (ms_iload_n (k := 1) (by decide +kernel) rfl) rfl) <|
  mc_1 (mk_p (ms_iload_n (k := 2) (by decide +kernel) rfl) rfl) <|
  mc_1 (mk_c (k := mq_95) rfl ⟨mo_95, 280, 1040, none, ml_m_LeagueOffice_280, Or.inr (Or.inr (Or.inl ⟨8, TX8, 14, by decide, rfl, rfl, (by decide +kernel), ⟨2, rfl, mx_npd (by decide +kernel)⟩, ml_in_1041, ml_se_1042⟩))⟩) <| mc_0
theorem mw_142_2 : ∀ e ∈ mt_142_2, mx_Ok mx_MT mq_142 e.1 e.2 := 
  mc_1 (mk_p (ms_if_eq (off := (6)) (by decide +kernel) (by decide)) rfl) <|
  mc_1 (mk_p (ms_bipush (n := (-3)) (by decide +kernel) (by decide +kernel)) rfl) <|
  mc_1 (mk_r (Or.inl ⟨rfl, by decide +kernel, _, rfl, mf_0⟩) rfl) <|
  mc_1 (mk_p (ms_aload_n (k := 0) (by decide +kernel) rfl) rfl) <|
  mc_1 (mk_p (ms_get (idx := 44) (w := 700) (host := none) mx_c11 (by decide) ml_f_LeagueOffice_44 (by decide +kernel)) rfl) <|
  mc_1 (mk_p (ms_get (idx := 283) (w := 346) (host := (some "LeagueOffice")) mx_c8 (by decide) ml_f_LeagueOffice_283 (by decide +kernel)) rfl) <|
  mc_1 (mk_c (k := mq_66) rfl ⟨mo_66, 125, 739, none, ml_m_LeagueOffice_125, Or.inr (Or.inr (Or.inl ⟨6, TX6, 2, by decide, rfl, rfl, (by decide +kernel), ⟨0, rfl, mx_npd (by decide +kernel)⟩, ml_in_740, ml_se_741⟩))⟩) <| mc_0
theorem mw_142_3 : ∀ e ∈ mt_142_3, mx_Ok mx_MT mq_142 e.1 e.2 := 
  mc_1 (mk_p (ms_if_eq (off := (6)) (by decide +kernel) (by decide)) rfl) <|
  mc_1 (mk_p (ms_bipush (n := (-4)) (by decide +kernel) (by decide +kernel)) rfl) <|
  mc_1 (mk_r (Or.inl ⟨rfl, by decide +kernel, _, rfl, mf_0⟩) rfl) <|
  mc_1 (mk_p (ms_aload_n (k := 0) (by decide +kernel) rfl) rfl) <|
  mc_1 (mk_p (ms_get (idx := 44) (w := 700) (host := none) mx_c11 (by decide) ml_f_LeagueOffice_44 (by decide +kernel)) rfl) <|
  mc_1 (mk_p (ms_get (idx := 286) (w := 348) (host := (some "LeagueOffice")) mx_c8 (by decide) ml_f_LeagueOffice_286 (by decide +kernel)) rfl) <|
  mc_1 (mk_p (ms_iload_n (k := 2) (by decide +kernel) rfl) rfl) <| mc_0
theorem mw_142_4 : ∀ e ∈ mt_142_4, mx_Ok mx_MT mq_142 e.1 e.2 := 
  mc_1 (mk_c (k := mq_71) rfl ⟨mo_71, 105, 566, none, ml_m_LeagueOffice_105, Or.inr (Or.inr (Or.inl ⟨6, TX6, 2, by decide, rfl, rfl, (by decide +kernel), ⟨1, rfl, mx_npd (by decide +kernel)⟩, ml_in_567, ml_se_568⟩))⟩) <|
  mc_1 (mk_p (ms_pop (by decide +kernel)) rfl) <|
  mc_1 (mk_p (ms_aload_n (k := 0) (by decide +kernel) rfl) rfl) <|
  mc_1 (mk_p (ms_get (idx := 44) (w := 700) (host := none) mx_c11 (by decide) ml_f_LeagueOffice_44 (by decide +kernel)) rfl) <|
  mc_1 (mk_p (ms_get (idx := 283) (w := 346) (host := (some "LeagueOffice")) mx_c8 (by decide) ml_f_LeagueOffice_283 (by decide +kernel)) rfl) <|
  mc_1 (mk_p (ms_iload_n (k := 1) (by decide +kernel) rfl) rfl) <|
  mc_1 (mk_c (k := mq_71) rfl ⟨mo_71, 105, 566, none, ml_m_LeagueOffice_105, Or.inr (Or.inr (Or.inl ⟨6, TX6, 2, by decide, rfl, rfl, (by decide +kernel), ⟨1, rfl, mx_npd (by decide +kernel)⟩, ml_in_567, ml_se_568⟩))⟩) <|
  mc_1 (mk_r (Or.inl ⟨rfl, by decide +kernel, _, rfl, mf_0⟩) rfl) <| mc_0
theorem mw_142 : ∀ ch ∈ mt_142, ∀ e ∈ ch, mx_Ok mx_MT mq_142 e.1 e.2 := mc_2 mw_142_0 <| mc_2 mw_142_1 <| mc_2 mw_142_2 <| mc_2 mw_142_3 <| mc_2 mw_142_4 <| mc_3
/- 143 LeagueOffice.wrong(I)I -/
theorem mw_143_0 : ∀ e ∈ mt_143_0, mx_Ok mx_MT mq_143 e.1 e.2 := 
  mc_1 (mk_p (ms_aload_n (k := 0) (by decide +kernel) rfl) rfl) <|
  mc_1 (mk_p (ms_get (idx := 44) (w := 700) (host := none) mx_c11 (by decide) ml_f_LeagueOffice_44 (by decide +kernel)) rfl) <|
  mc_1 (mk_c (k := mq_96) rfl ⟨mo_96, 289, 1048, none, ml_m_LeagueOffice_289, Or.inr (Or.inr (Or.inl ⟨8, TX8, 14, by decide, rfl, rfl, (by decide +kernel), ⟨0, rfl, mx_npd (by decide +kernel)⟩, ml_in_1049, ml_se_1050⟩))⟩) <|
  mc_1 (mk_p (ms_iload_n (k := 1) (by decide +kernel) rfl) rfl) <|
  mc_1 (mk_p (ms_iconst (n := (-1)) (by decide +kernel) (by decide +kernel)) rfl) <|
  mc_1 (mk_p (ms_icmp_ne (off := (14)) (by decide +kernel) (by decide)) rfl) <|
  mc_1 (mk_p (ms_aload_n (k := 0) (by decide +kernel) rfl) rfl) <|
  mc_1 (mk_p (ms_get (idx := 44) (w := 700) (host := none) mx_c11 (by decide) ml_f_LeagueOffice_44 (by decide +kernel)) rfl) <| mc_0
theorem mw_143_1 : ∀ e ∈ mt_143_1, mx_Ok mx_MT mq_143 e.1 e.2 := 
  mc_1 (mk_p (ms_get (idx := 292) (w := 352) (host := (some "LeagueOffice")) mx_c8 (by decide) ml_f_LeagueOffice_292 (by decide +kernel)) rfl) <|
  mc_1 (mk_c (k := mq_65) rfl ⟨mo_65, 193, 823, none, ml_m_LeagueOffice_193, Or.inr (Or.inr (Or.inl ⟨6, TX6, 2, by decide, rfl, rfl, (by decide +kernel), ⟨0, rfl, mx_npd (by decide +kernel)⟩, ml_in_587, ml_se_588⟩))⟩) <|
  mc_1 (mk_r (Or.inl ⟨rfl, by decide +kernel, _, rfl, mf_0⟩) rfl) <|
  mc_1 (mk_p (ms_aload_n (k := 0) (by decide +kernel) rfl) rfl) <|
  mc_1 (mk_p (ms_get (idx := 44) (w := 700) (host := none) mx_c11 (by decide) ml_f_LeagueOffice_44 (by decide +kernel)) rfl) <|
  mc_1 (mk_p (ms_get (idx := 292) (w := 352) (host := (some "LeagueOffice")) mx_c8 (by decide) ml_f_LeagueOffice_292 (by decide +kernel)) rfl) <|
  mc_1 (mk_p (ms_iload_n (k := 1) (by decide +kernel) rfl) rfl) <|
  mc_1 (mk_c (k := mq_67) rfl ⟨mo_67, 262, 981, none, ml_m_LeagueOffice_262, Or.inr (Or.inr (Or.inl ⟨6, TX6, 2, by decide, rfl, rfl, (by decide +kernel), ⟨1, rfl, mx_npd (by decide +kernel)⟩, ml_in_752, ml_se_753⟩))⟩) <| mc_0
theorem mw_143_2 : ∀ e ∈ mt_143_2, mx_Ok mx_MT mq_143 e.1 e.2 := 
  mc_1 (mk_p (ms_if_eq (off := (17)) (by decide +kernel) (by decide)) rfl) <|
  mc_1 (mk_p (ms_aload_n (k := 0) (by decide +kernel) rfl) rfl) <|
  mc_1 (mk_p (ms_get (idx := 44) (w := 700) (host := none) mx_c11 (by decide) ml_f_LeagueOffice_44 (by decide +kernel)) rfl) <|
  mc_1 (mk_p (ms_get (idx := 292) (w := 352) (host := (some "LeagueOffice")) mx_c8 (by decide) ml_f_LeagueOffice_292 (by decide +kernel)) rfl) <|
  mc_1 (mk_p (ms_iload_n (k := 1) (by decide +kernel) rfl) rfl) <|
  mc_1 (mk_c (k := mq_68) rfl ⟨mo_68, 136, 755, none, ml_m_LeagueOffice_136, Or.inr (Or.inr (Or.inl ⟨6, TX6, 2, by decide, rfl, rfl, (by decide +kernel), ⟨1, rfl, mx_npd (by decide +kernel)⟩, ml_in_591, ml_se_592⟩))⟩) <| mc_0
theorem mw_143_3 : ∀ e ∈ mt_143_3, mx_Ok mx_MT mq_143 e.1 e.2 := 
  mc_1 (mk_p (ms_goto (off := (4)) (by decide +kernel) (by decide)) rfl) <|
  mc_1 (mk_p (ms_iconst (n := (-1)) (by decide +kernel) (by decide +kernel)) rfl) <|
  mc_1 (mk_r (Or.inl ⟨rfl, by decide +kernel, _, rfl, mf_0⟩) rfl) <| mc_0
theorem mw_143 : ∀ ch ∈ mt_143, ∀ e ∈ ch, mx_Ok mx_MT mq_143 e.1 e.2 := mc_2 mw_143_0 <| mc_2 mw_143_1 <| mc_2 mw_143_2 <| mc_2 mw_143_3 <| mc_3
/- 144 LeagueOffice.fail(I)I -/
theorem mw_144_0 : ∀ e ∈ mt_144_0, mx_Ok mx_MT mq_144 e.1 e.2 := 
  mc_1 (mk_p (ms_aload_n (k := 0) (by decide +kernel) rfl) rfl) <|
  mc_1 (mk_p (ms_get (idx := 12) (w := 696) (host := none) mx_c11 (by decide) ml_f_LeagueOffice_12 (by decide +kernel)) rfl) <|
  mc_1 (mk_p (ms_iload_n (k := 1) (by decide +kernel) rfl) rfl) <|
  mc_1 (mk_c (k := mq_1) rfl ⟨mo_1, 132, 747, none, ml_m_LeagueOffice_132, Or.inr (Or.inr (Or.inl ⟨0, TX0, 12, by decide, rfl, rfl, (by decide +kernel), ⟨1, rfl, mx_npd (by decide +kernel)⟩, ml_in_748, ml_se_749⟩))⟩) <|
  mc_1 (mk_p (ms_if_ne (off := (6)) (by decide +kernel) (by decide)) rfl) <|
  mc_1 (mk_p (ms_bipush (n := (-2)) (by decide +kernel) (by decide +kernel)) rfl) <|
  mc_1 (mk_r (Or.inl ⟨rfl, by decide +kernel, _, rfl, mf_0⟩) rfl) <|
  mc_1 (mk_p (ms_aload_n (k := 0) (by decide +kernel) rfl) rfl) <|
  mc_1 (mk_p (ms_get (idx := 53) (w := 701) (host := none) mx_c11 (by decide) ml_f_LeagueOffice_53 (by decide +kernel)) rfl) <| mc_0
theorem mw_144_1 : ∀ e ∈ mt_144_1, mx_Ok mx_MT mq_144 e.1 e.2 := 
  mc_1 (mk_p (ms_iload_n (k := 1) (by decide +kernel) rfl) rfl) <|
  mc_1 (mk_c (k := mq_25) rfl ⟨mo_25, 295, 1059, none, ml_m_LeagueOffice_295, Or.inr (Or.inr (Or.inl ⟨2, TX2, 7, by decide, rfl, rfl, (by decide +kernel), ⟨1, rfl, mx_npd (by decide +kernel)⟩, ml_in_1060, ml_se_1061⟩))⟩) <|
  mc_1 (mk_p (ms_if_eq (off := (8)) (by decide +kernel) (by decide)) rfl) <|
  mc_1 (mk_p (ms_bipush (n := (-3)) (by decide +kernel) (by decide +kernel)) rfl) <|
  mc_1 (mk_p (ms_goto (off := (11)) (by decide +kernel) (by decide)) rfl) <|
  mc_1 (mk_p (ms_aload_n (k := 0) (by decide +kernel) rfl) rfl) <|
  mc_1 (mk_p (ms_get (idx := 53) (w := 701) (host := none) mx_c11 (by decide) ml_f_LeagueOffice_53 (by decide +kernel)) rfl) <| mc_0
theorem mw_144_2 : ∀ e ∈ mt_144_2, mx_Ok mx_MT mq_144 e.1 e.2 := 
  mc_1 (mk_p (ms_iload_n (k := 1) (by decide +kernel) rfl) rfl) <|
  mc_1 (mk_c (k := mq_26) rfl ⟨mo_26, 298, 1064, none, ml_m_LeagueOffice_298, Or.inr (Or.inr (Or.inl ⟨2, TX2, 7, by decide, rfl, rfl, (by decide +kernel), ⟨1, rfl, mx_npd (by decide +kernel)⟩, ml_in_1065, ml_se_1066⟩))⟩) <|
  mc_1 (mk_r (Or.inl ⟨rfl, by decide +kernel, _, rfl, mf_0⟩) rfl) <| mc_0
theorem mw_144 : ∀ ch ∈ mt_144, ∀ e ∈ ch, mx_Ok mx_MT mq_144 e.1 e.2 := mc_2 mw_144_0 <| mc_2 mw_144_1 <| mc_2 mw_144_2 <| mc_3
/- 145 LeagueOffice.undo(I)I -/
theorem mw_145_0 : ∀ e ∈ mt_145_0, mx_Ok mx_MT mq_145 e.1 e.2 := 
  mc_1 (mk_p (ms_aload_n (k := 0) (by decide +kernel) rfl) rfl) <|
  mc_1 (mk_p (ms_get (idx := 12) (w := 696) (host := none) mx_c11 (by decide) ml_f_LeagueOffice_12 (by decide +kernel)) rfl) <|
  mc_1 (mk_p (ms_iload_n (k := 1) (by decide +kernel) rfl) rfl) <|
  mc_1 (mk_c (k := mq_1) rfl ⟨mo_1, 132, 747, none, ml_m_LeagueOffice_132, Or.inr (Or.inr (Or.inl ⟨0, TX0, 12, by decide, rfl, rfl, (by decide +kernel), ⟨1, rfl, mx_npd (by decide +kernel)⟩, ml_in_748, ml_se_749⟩))⟩) <|
  mc_1 (mk_p (ms_if_ne (off := (6)) (by decide +kernel) (by decide)) rfl) <|
  mc_1 (mk_p (ms_bipush (n := (-2)) (by decide +kernel) (by decide +kernel)) rfl) <|
  mc_1 (mk_r (Or.inl ⟨rfl, by decide +kernel, _, rfl, mf_0⟩) rfl) <|
  mc_1 (mk_p (ms_aload_n (k := 0) (by decide +kernel) rfl) rfl) <|
  mc_1 (mk_p (ms_get (idx := 53) (w := 701) (host := none) mx_c11 (by decide) ml_f_LeagueOffice_53 (by decide +kernel)) rfl) <| mc_0
theorem mw_145_1 : ∀ e ∈ mt_145_1, mx_Ok mx_MT mq_145 e.1 e.2 := 
  mc_1 (mk_p (ms_iload_n (k := 1) (by decide +kernel) rfl) rfl) <|
  mc_1 (mk_c (k := mq_31) rfl ⟨mo_31, 301, 1089, none, ml_m_LeagueOffice_301, Or.inr (Or.inr (Or.inl ⟨2, TX2, 7, by decide, rfl, rfl, (by decide +kernel), ⟨1, rfl, mx_npd (by decide +kernel)⟩, ml_in_1090, ml_se_1091⟩))⟩) <|
  mc_1 (mk_p (ms_if_eq (off := (14)) (by decide +kernel) (by decide)) rfl) <|
  mc_1 (mk_p (ms_aload_n (k := 0) (by decide +kernel) rfl) rfl) <|
  mc_1 (mk_p (ms_get (idx := 53) (w := 701) (host := none) mx_c11 (by decide) ml_f_LeagueOffice_53 (by decide +kernel)) rfl) <|
  mc_1 (mk_p (ms_iload_n (k := 1) (by decide +kernel) rfl) rfl) <|
  mc_1 (mk_c (k := mq_32) rfl ⟨mo_32, 304, 1098, none, ml_m_LeagueOffice_304, Or.inr (Or.inr (Or.inl ⟨2, TX2, 7, by decide, rfl, rfl, (by decide +kernel), ⟨1, rfl, mx_npd (by decide +kernel)⟩, ml_in_1099, ml_se_1100⟩))⟩) <| mc_0
theorem mw_145_2 : ∀ e ∈ mt_145_2, mx_Ok mx_MT mq_145 e.1 e.2 := 
  mc_1 (mk_p (ms_goto (off := (5)) (by decide +kernel) (by decide)) rfl) <|
  mc_1 (mk_p (ms_bipush (n := (-3)) (by decide +kernel) (by decide +kernel)) rfl) <|
  mc_1 (mk_r (Or.inl ⟨rfl, by decide +kernel, _, rfl, mf_0⟩) rfl) <| mc_0
theorem mw_145 : ∀ ch ∈ mt_145, ∀ e ∈ ch, mx_Ok mx_MT mq_145 e.1 e.2 := mc_2 mw_145_0 <| mc_2 mw_145_1 <| mc_2 mw_145_2 <| mc_3
/- 146 LeagueOffice.open(I)I -/
theorem mw_146_0 : ∀ e ∈ mt_146_0, mx_Ok mx_MT mq_146 e.1 e.2 := 
  mc_1 (mk_p (ms_iload_n (k := 1) (by decide +kernel) rfl) rfl) <|
  mc_1 (mk_p (ms_iconst (n := 4) (by decide +kernel) (by decide +kernel)) rfl) <|
  mc_1 (mk_c (k := mq_160) rfl ⟨mo_160, 118, 736, none, ml_m_LeagueOffice_118, Or.inl ⟨rfl, (by decide +kernel), mx_npd (by decide +kernel), ml_st_737⟩⟩) <|
  mc_1 (mk_p (ms_if_eq (off := (14)) (by decide +kernel) (by decide)) rfl) <|
  mc_1 (mk_p (ms_aload_n (k := 0) (by decide +kernel) rfl) rfl) <|
  mc_1 (mk_p (ms_get (idx := 62) (w := 702) (host := none) mx_c11 (by decide) ml_f_LeagueOffice_62 (by decide +kernel)) rfl) <|
  mc_1 (mk_p (ms_iload_n (k := 1) (by decide +kernel) rfl) rfl) <|
  mc_1 (mk_c (k := mq_13) rfl ⟨mo_13, 307, 1106, none, ml_m_LeagueOffice_307, Or.inr (Or.inr (Or.inl ⟨1, TX1, 10, by decide, rfl, rfl, (by decide +kernel), ⟨1, rfl, mx_npd (by decide +kernel)⟩, ml_in_1107, ml_se_1108⟩))⟩) <| mc_0
theorem mw_146_1 : ∀ e ∈ mt_146_1, mx_Ok mx_MT mq_146 e.1 e.2 := 
  mc_1 (mk_p (ms_goto (off := (5)) (by decide +kernel) (by decide)) rfl) <|
  mc_1 (mk_p (ms_bipush (n := (-2)) (by decide +kernel) (by decide +kernel)) rfl) <|
  mc_1 (mk_r (Or.inl ⟨rfl, by decide +kernel, _, rfl, mf_0⟩) rfl) <| mc_0
theorem mw_146 : ∀ ch ∈ mt_146, ∀ e ∈ ch, mx_Ok mx_MT mq_146 e.1 e.2 := mc_2 mw_146_0 <| mc_2 mw_146_1 <| mc_3
/- 147 LeagueOffice.can(II)I -/
theorem mw_147_0 : ∀ e ∈ mt_147_0, mx_Ok mx_MT mq_147 e.1 e.2 := 
  mc_1 (mk_p (ms_aload_n (k := 0) (by decide +kernel) rfl) rfl) <|
  mc_1 (mk_p (ms_get (idx := 12) (w := 696) (host := none) mx_c11 (by decide) ml_f_LeagueOffice_12 (by decide +kernel)) rfl) <|
  mc_1 (mk_p (ms_iload_n (k := 1) (by decide +kernel) rfl) rfl) <|
  mc_1 (mk_c (k := mq_1) rfl ⟨mo_1, 132, 747, none, ml_m_LeagueOffice_132, Or.inr (Or.inr (Or.inl ⟨0, TX0, 12, by decide, rfl, rfl, (by decide +kernel), ⟨1, rfl, mx_npd (by decide +kernel)⟩, ml_in_748, ml_se_749⟩))⟩) <|
  mc_1 (mk_p (ms_if_eq (off := (11)) (by decide +kernel) (by decide)) rfl) <|
  mc_1 (mk_p (ms_iload_n (k := 2) (by decide +kernel) rfl) rfl) <|
  mc_1 (mk_p (ms_iconst (n := 2) (by decide +kernel) (by decide +kernel)) rfl) <|
  mc_1 (mk_c (k := mq_160) rfl ⟨mo_160, 118, 736, none, ml_m_LeagueOffice_118, Or.inl ⟨rfl, (by decide +kernel), mx_npd (by decide +kernel), ml_st_737⟩⟩) <| mc_0
theorem mw_147_1 : ∀ e ∈ mt_147_1, mx_Ok mx_MT mq_147 e.1 e.2 := 
  mc_1 (mk_p (ms_if_ne (off := (6)) (by decide +kernel) (by decide)) rfl) <|
  mc_1 (mk_p (ms_bipush (n := (-2)) (by decide +kernel) (by decide +kernel)) rfl) <|
  mc_1 (mk_r (Or.inl ⟨rfl, by decide +kernel, _, rfl, mf_0⟩) rfl) <|
  mc_1 (mk_p (ms_aload_n (k := 0) (by decide +kernel) rfl) rfl) <|
  mc_1 (mk_p (ms_get (idx := 62) (w := 702) (host := none) mx_c11 (by decide) ml_f_LeagueOffice_62 (by decide +kernel)) rfl) <|
  mc_1 (mk_p (ms_iload_n (k := 1) (by decide +kernel) rfl) rfl) <|
  mc_1 (mk_c (k := mq_14) rfl ⟨mo_14, 310, 1124, none, ml_m_LeagueOffice_310, Or.inr (Or.inr (Or.inl ⟨1, TX1, 10, by decide, rfl, rfl, (by decide +kernel), ⟨1, rfl, mx_npd (by decide +kernel)⟩, ml_in_1125, ml_se_1126⟩))⟩) <|
  mc_1 (mk_p (ms_if_ne (off := (6)) (by decide +kernel) (by decide)) rfl) <| mc_0
theorem mw_147_2 : ∀ e ∈ mt_147_2, mx_Ok mx_MT mq_147 e.1 e.2 := 
  mc_1 (mk_p (ms_bipush (n := (-3)) (by decide +kernel) (by decide +kernel)) rfl) <|
  mc_1 (mk_r (Or.inl ⟨rfl, by decide +kernel, _, rfl, mf_0⟩) rfl) <|
  mc_1 (mk_p (ms_iload_n (k := 2) (by decide +kernel) rfl) rfl) <|
  mc_1 (mk_p (ms_if_ne (off := (13)) (by decide +kernel) (by decide)) rfl) <|
  mc_1 (mk_p (ms_aload_n (k := 0) (by decide +kernel) rfl) rfl) <|
  mc_1 (mk_p (ms_get (idx := 62) (w := 702) (host := none) mx_c11 (by decide) ml_f_LeagueOffice_62 (by decide +kernel)) rfl) <|
  mc_1 (mk_c (k := mq_20) rfl ⟨mo_20, 313, 1157, none, ml_m_LeagueOffice_313, Or.inr (Or.inr (Or.inl ⟨1, TX1, 10, by decide, rfl, rfl, (by decide +kernel), ⟨0, rfl, mx_npd (by decide +kernel)⟩, ml_in_1158, ml_se_1159⟩))⟩) <|
  mc_1 (mk_p (ms_goto (off := (10)) (by decide +kernel) (by decide)) rfl) <| mc_0
theorem mw_147_3 : ∀ e ∈ mt_147_3, mx_Ok mx_MT mq_147 e.1 e.2 := 
  mc_1 (mk_p (ms_aload_n (k := 0) (by decide +kernel) rfl) rfl) <|
  mc_1 (mk_p (ms_get (idx := 62) (w := 702) (host := none) mx_c11 (by decide) ml_f_LeagueOffice_62 (by decide +kernel)) rfl) <|
  mc_1 (mk_c (k := mq_21) rfl ⟨mo_21, 316, 1162, none, ml_m_LeagueOffice_316, Or.inr (Or.inr (Or.inl ⟨1, TX1, 10, by decide, rfl, rfl, (by decide +kernel), ⟨0, rfl, mx_npd (by decide +kernel)⟩, ml_in_1163, ml_se_1164⟩))⟩) <|
  mc_1 (mk_r (Or.inl ⟨rfl, by decide +kernel, _, rfl, mf_0⟩) rfl) <| mc_0
theorem mw_147 : ∀ ch ∈ mt_147, ∀ e ∈ ch, mx_Ok mx_MT mq_147 e.1 e.2 := mc_2 mw_147_0 <| mc_2 mw_147_1 <| mc_2 mw_147_2 <| mc_2 mw_147_3 <| mc_3
/- 148 LeagueOffice.sure(II)I -/
theorem mw_148_0 : ∀ e ∈ mt_148_0, mx_Ok mx_MT mq_148 e.1 e.2 := 
  mc_1 (mk_p (ms_aload_n (k := 0) (by decide +kernel) rfl) rfl) <|
  mc_1 (mk_p (ms_get (idx := 12) (w := 696) (host := none) mx_c11 (by decide) ml_f_LeagueOffice_12 (by decide +kernel)) rfl) <|
  mc_1 (mk_p (ms_iload_n (k := 1) (by decide +kernel) rfl) rfl) <|
  mc_1 (mk_c (k := mq_1) rfl ⟨mo_1, 132, 747, none, ml_m_LeagueOffice_132, Or.inr (Or.inr (Or.inl ⟨0, TX0, 12, by decide, rfl, rfl, (by decide +kernel), ⟨1, rfl, mx_npd (by decide +kernel)⟩, ml_in_748, ml_se_749⟩))⟩) <|
  mc_1 (mk_p (ms_if_eq (off := (12)) (by decide +kernel) (by decide)) rfl) <|
  mc_1 (mk_p (ms_iload_n (k := 2) (by decide +kernel) rfl) rfl) <|
  mc_1 (mk_p (ms_bipush (n := 12) (by decide +kernel) (by decide +kernel)) rfl) <|
  mc_1 (mk_c (k := mq_160) rfl ⟨mo_160, 118, 736, none, ml_m_LeagueOffice_118, Or.inl ⟨rfl, (by decide +kernel), mx_npd (by decide +kernel), ml_st_737⟩⟩) <| mc_0
theorem mw_148_1 : ∀ e ∈ mt_148_1, mx_Ok mx_MT mq_148 e.1 e.2 := 
  mc_1 (mk_p (ms_if_ne (off := (6)) (by decide +kernel) (by decide)) rfl) <|
  mc_1 (mk_p (ms_bipush (n := (-2)) (by decide +kernel) (by decide +kernel)) rfl) <|
  mc_1 (mk_r (Or.inl ⟨rfl, by decide +kernel, _, rfl, mf_0⟩) rfl) <|
  mc_1 (mk_p (ms_aload_n (k := 0) (by decide +kernel) rfl) rfl) <|
  mc_1 (mk_p (ms_get (idx := 62) (w := 702) (host := none) mx_c11 (by decide) ml_f_LeagueOffice_62 (by decide +kernel)) rfl) <|
  mc_1 (mk_p (ms_iload_n (k := 1) (by decide +kernel) rfl) rfl) <|
  mc_1 (mk_c (k := mq_14) rfl ⟨mo_14, 310, 1124, none, ml_m_LeagueOffice_310, Or.inr (Or.inr (Or.inl ⟨1, TX1, 10, by decide, rfl, rfl, (by decide +kernel), ⟨1, rfl, mx_npd (by decide +kernel)⟩, ml_in_1125, ml_se_1126⟩))⟩) <|
  mc_1 (mk_p (ms_if_ne (off := (6)) (by decide +kernel) (by decide)) rfl) <| mc_0
theorem mw_148_2 : ∀ e ∈ mt_148_2, mx_Ok mx_MT mq_148 e.1 e.2 := 
  mc_1 (mk_p (ms_bipush (n := (-3)) (by decide +kernel) (by decide +kernel)) rfl) <|
  mc_1 (mk_r (Or.inl ⟨rfl, by decide +kernel, _, rfl, mf_0⟩) rfl) <|
  mc_1 (mk_p (ms_aload_n (k := 0) (by decide +kernel) rfl) rfl) <|
  mc_1 (mk_p (ms_get (idx := 62) (w := 702) (host := none) mx_c11 (by decide) ml_f_LeagueOffice_62 (by decide +kernel)) rfl) <|
  mc_1 (mk_c (k := mq_21) rfl ⟨mo_21, 316, 1162, none, ml_m_LeagueOffice_316, Or.inr (Or.inr (Or.inl ⟨1, TX1, 10, by decide, rfl, rfl, (by decide +kernel), ⟨0, rfl, mx_npd (by decide +kernel)⟩, ml_in_1163, ml_se_1164⟩))⟩) <|
  mc_1 (mk_p (ms_iload_n (k := 2) (by decide +kernel) rfl) rfl) <|
  mc_1 (mk_p (ms_icmp_gt (off := (7)) (by decide +kernel) (by decide)) rfl) <| mc_0
theorem mw_148_3 : ∀ e ∈ mt_148_3, mx_Ok mx_MT mq_148 e.1 e.2 := 
  mc_1 (mk_p (ms_iconst (n := 1) (by decide +kernel) (by decide +kernel)) rfl) <|
  mc_1 (mk_p (ms_goto (off := (4)) (by decide +kernel) (by decide)) rfl) <|
  mc_1 (mk_p (ms_iconst (n := 0) (by decide +kernel) (by decide +kernel)) rfl) <|
  mc_1 (mk_r (Or.inl ⟨rfl, by decide +kernel, _, rfl, mf_0⟩) rfl) <| mc_0
theorem mw_148 : ∀ ch ∈ mt_148, ∀ e ∈ ch, mx_Ok mx_MT mq_148 e.1 e.2 := mc_2 mw_148_0 <| mc_2 mw_148_1 <| mc_2 mw_148_2 <| mc_2 mw_148_3 <| mc_3
/- 149 LeagueOffice.needs(II)I -/
theorem mw_149_0 : ∀ e ∈ mt_149_0, mx_Ok mx_MT mq_149 e.1 e.2 := 
  mc_1 (mk_p (ms_aload_n (k := 0) (by decide +kernel) rfl) rfl) <|
  mc_1 (mk_p (ms_get (idx := 12) (w := 696) (host := none) mx_c11 (by decide) ml_f_LeagueOffice_12 (by decide +kernel)) rfl) <|
  mc_1 (mk_p (ms_iload_n (k := 1) (by decide +kernel) rfl) rfl) <|
  mc_1 (mk_c (k := mq_1) rfl ⟨mo_1, 132, 747, none, ml_m_LeagueOffice_132, Or.inr (Or.inr (Or.inl ⟨0, TX0, 12, by decide, rfl, rfl, (by decide +kernel), ⟨1, rfl, mx_npd (by decide +kernel)⟩, ml_in_748, ml_se_749⟩))⟩) <|
  mc_1 (mk_p (ms_if_eq (off := (12)) (by decide +kernel) (by decide)) rfl) <|
  mc_1 (mk_p (ms_iload_n (k := 2) (by decide +kernel) rfl) rfl) <|
  mc_1 (mk_p (ms_bipush (n := 12) (by decide +kernel) (by decide +kernel)) rfl) <|
  mc_1 (mk_c (k := mq_160) rfl ⟨mo_160, 118, 736, none, ml_m_LeagueOffice_118, Or.inl ⟨rfl, (by decide +kernel), mx_npd (by decide +kernel), ml_st_737⟩⟩) <| mc_0
theorem mw_149_1 : ∀ e ∈ mt_149_1, mx_Ok mx_MT mq_149 e.1 e.2 := 
  mc_1 (mk_p (ms_if_ne (off := (6)) (by decide +kernel) (by decide)) rfl) <|
  mc_1 (mk_p (ms_bipush (n := (-2)) (by decide +kernel) (by decide +kernel)) rfl) <|
  mc_1 (mk_r (Or.inl ⟨rfl, by decide +kernel, _, rfl, mf_0⟩) rfl) <|
  mc_1 (mk_p (ms_aload_n (k := 0) (by decide +kernel) rfl) rfl) <|
  mc_1 (mk_p (ms_get (idx := 62) (w := 702) (host := none) mx_c11 (by decide) ml_f_LeagueOffice_62 (by decide +kernel)) rfl) <|
  mc_1 (mk_p (ms_iload_n (k := 1) (by decide +kernel) rfl) rfl) <|
  mc_1 (mk_c (k := mq_14) rfl ⟨mo_14, 310, 1124, none, ml_m_LeagueOffice_310, Or.inr (Or.inr (Or.inl ⟨1, TX1, 10, by decide, rfl, rfl, (by decide +kernel), ⟨1, rfl, mx_npd (by decide +kernel)⟩, ml_in_1125, ml_se_1126⟩))⟩) <|
  mc_1 (mk_p (ms_if_eq (off := (14)) (by decide +kernel) (by decide)) rfl) <| mc_0
theorem mw_149_2 : ∀ e ∈ mt_149_2, mx_Ok mx_MT mq_149 e.1 e.2 := 
  mc_1 (mk_p (ms_aload_n (k := 0) (by decide +kernel) rfl) rfl) <|
  mc_1 (mk_p (ms_get (idx := 62) (w := 702) (host := none) mx_c11 (by decide) ml_f_LeagueOffice_62 (by decide +kernel)) rfl) <|
  mc_1 (mk_p (ms_iload_n (k := 2) (by decide +kernel) rfl) rfl) <|
  mc_1 (mk_c (k := mq_22) rfl ⟨mo_22, 319, 1175, none, ml_m_LeagueOffice_319, Or.inr (Or.inr (Or.inl ⟨1, TX1, 10, by decide, rfl, rfl, (by decide +kernel), ⟨1, rfl, mx_npd (by decide +kernel)⟩, ml_in_1176, ml_se_1177⟩))⟩) <|
  mc_1 (mk_p (ms_goto (off := (5)) (by decide +kernel) (by decide)) rfl) <|
  mc_1 (mk_p (ms_bipush (n := (-3)) (by decide +kernel) (by decide +kernel)) rfl) <|
  mc_1 (mk_r (Or.inl ⟨rfl, by decide +kernel, _, rfl, mf_0⟩) rfl) <| mc_0
theorem mw_149 : ∀ ch ∈ mt_149, ∀ e ∈ ch, mx_Ok mx_MT mq_149 e.1 e.2 := mc_2 mw_149_0 <| mc_2 mw_149_1 <| mc_2 mw_149_2 <| mc_3
/- 150 LeagueOffice.coin(III)J -/
theorem mw_150_0 : ∀ e ∈ mt_150_0, mx_Ok mx_MT mq_150 e.1 e.2 := 
  mc_1 (mk_p (ms_iload_n (k := 1) (by decide +kernel) rfl) rfl) <|
  mc_1 (mk_p (ms_iconst (n := 4) (by decide +kernel) (by decide +kernel)) rfl) <|
  mc_1 (mk_c (k := mq_160) rfl ⟨mo_160, 118, 736, none, ml_m_LeagueOffice_118, Or.inl ⟨rfl, (by decide +kernel), mx_npd (by decide +kernel), ml_st_737⟩⟩) <|
  mc_1 (mk_p (ms_if_eq (off := (14)) (by decide +kernel) (by decide)) rfl) <|
  mc_1 (mk_p (ms_iload_n (k := 2) (by decide +kernel) rfl) rfl) <|
  mc_1 (mk_p (ms_if_lt (off := (10)) (by decide +kernel) (by decide)) rfl) <|
  mc_1 (mk_p (ms_iload_n (k := 2) (by decide +kernel) rfl) rfl) <|
  mc_1 (mk_p (ms_ldcw (idx := 322) 1187 (by decide +kernel) (by decide +kernel)) rfl) <| mc_0
theorem mw_150_1 : ∀ e ∈ mt_150_1, mx_Ok mx_MT mq_150 e.1 e.2 := 
  mc_1 (mk_p (ms_icmp_le (off := (7)) (by decide +kernel) (by decide)) rfl) <|
  mc_1 (mk_p (ms_ldc2 (idx := 216) 848 (by decide +kernel) (by decide +kernel)) rfl) <|
  mc_1 (mk_r (Or.inr (Or.inl ⟨rfl, by decide +kernel, rfl⟩)) rfl) <|
  mc_1 (mk_p (ms_aload_n (k := 0) (by decide +kernel) rfl) rfl) <|
  mc_1 (mk_p (ms_get (idx := 12) (w := 696) (host := none) mx_c11 (by decide) ml_f_LeagueOffice_12 (by decide +kernel)) rfl) <|
  mc_1 (mk_p (ms_iload_n (k := 1) (by decide +kernel) rfl) rfl) <|
  mc_1 (mk_p (ms_iload_n (k := 3) (by decide +kernel) rfl) rfl) <|
  mc_1 (mk_c (k := mq_4) rfl ⟨mo_4, 323, 1188, none, ml_m_LeagueOffice_323, Or.inr (Or.inr (Or.inl ⟨0, TX0, 12, by decide, rfl, rfl, (by decide +kernel), ⟨2, rfl, mx_npd (by decide +kernel)⟩, ml_in_1115, ml_se_1116⟩))⟩) <| mc_0
theorem mw_150_2 : ∀ e ∈ mt_150_2, mx_Ok mx_MT mq_150 e.1 e.2 := 
  mc_1 (mk_p (ms_if_eq (off := (16)) (by decide +kernel) (by decide)) rfl) <|
  mc_1 (mk_p (ms_aload_n (k := 0) (by decide +kernel) rfl) rfl) <|
  mc_1 (mk_p (ms_get (idx := 71) (w := 703) (host := none) mx_c11 (by decide) ml_f_LeagueOffice_71 (by decide +kernel)) rfl) <|
  mc_1 (mk_p (ms_iload_n (k := 1) (by decide +kernel) rfl) rfl) <|
  mc_1 (mk_p (ms_iload_n (k := 2) (by decide +kernel) rfl) rfl) <|
  mc_1 (mk_p (ms_iload_n (k := 3) (by decide +kernel) rfl) rfl) <|
  mc_1 (mk_c (k := mq_41) rfl ⟨mo_41, 326, 1189, none, ml_m_LeagueOffice_326, Or.inr (Or.inr (Or.inl ⟨4, TX4, 3, by decide, rfl, rfl, (by decide +kernel), ⟨3, rfl, mx_npd (by decide +kernel)⟩, ml_in_1190, ml_se_1191⟩))⟩) <|
  mc_1 (mk_p (ms_goto (off := (6)) (by decide +kernel) (by decide)) rfl) <| mc_0
theorem mw_150_3 : ∀ e ∈ mt_150_3, mx_Ok mx_MT mq_150 e.1 e.2 := 
  mc_1 (mk_p (ms_ldc2 (idx := 216) 848 (by decide +kernel) (by decide +kernel)) rfl) <|
  mc_1 (mk_r (Or.inr (Or.inl ⟨rfl, by decide +kernel, rfl⟩)) rfl) <| mc_0
theorem mw_150 : ∀ ch ∈ mt_150, ∀ e ∈ ch, mx_Ok mx_MT mq_150 e.1 e.2 := mc_2 mw_150_0 <| mc_2 mw_150_1 <| mc_2 mw_150_2 <| mc_2 mw_150_3 <| mc_3
/- 151 LeagueOffice.meet(I)I -/
theorem mw_151_0 : ∀ e ∈ mt_151_0, mx_Ok mx_MT mq_151 e.1 e.2 := 
  mc_1 (mk_p (ms_iload_n (k := 1) (by decide +kernel) rfl) rfl) <|
  mc_1 (mk_p (ms_iconst (n := (-1)) (by decide +kernel) (by decide +kernel)) rfl) <|
  mc_1 (mk_p (ms_icmp_ne (off := (11)) (by decide +kernel) (by decide)) rfl) <|
  mc_1 (mk_p (ms_aload_n (k := 0) (by decide +kernel) rfl) rfl) <|
  mc_1 (mk_p (ms_get (idx := 78) (w := 704) (host := none) mx_c11 (by decide) ml_f_LeagueOffice_78 (by decide +kernel)) rfl) <|
  mc_1 (mk_c (k := mq_34) rfl ⟨mo_34, 330, 1216, none, ml_m_LeagueOffice_330, Or.inr (Or.inr (Or.inl ⟨3, TX3, 6, by decide, rfl, rfl, (by decide +kernel), ⟨0, rfl, mx_npd (by decide +kernel)⟩, ml_in_1217, ml_se_1218⟩))⟩) <|
  mc_1 (mk_r (Or.inl ⟨rfl, by decide +kernel, _, rfl, mf_0⟩) rfl) <|
  mc_1 (mk_p (ms_iload_n (k := 1) (by decide +kernel) rfl) rfl) <|
  mc_1 (mk_p (ms_bipush (n := 100) (by decide +kernel) (by decide +kernel)) rfl) <| mc_0
theorem mw_151_1 : ∀ e ∈ mt_151_1, mx_Ok mx_MT mq_151 e.1 e.2 := 
  mc_1 (mk_p (ms_idiv (by decide +kernel)) rfl) <|
  mc_1 (mk_p (ms_istore_n (k := 2) (by decide +kernel) rfl (by decide)) rfl) <|
  mc_1 (mk_p (ms_iload_n (k := 1) (by decide +kernel) rfl) rfl) <|
  mc_1 (mk_p (ms_bipush (n := 100) (by decide +kernel) (by decide +kernel)) rfl) <|
  mc_1 (mk_p (ms_irem (by decide +kernel)) rfl) <|
  mc_1 (mk_p (ms_istore_n (k := 3) (by decide +kernel) rfl (by decide)) rfl) <|
  mc_1 (mk_p (ms_aload_n (k := 0) (by decide +kernel) rfl) rfl) <|
  mc_1 (mk_p (ms_get (idx := 12) (w := 696) (host := none) mx_c11 (by decide) ml_f_LeagueOffice_12 (by decide +kernel)) rfl) <|
  mc_1 (mk_p (ms_iload_n (k := 2) (by decide +kernel) rfl) rfl) <|
  mc_1 (mk_c (k := mq_1) rfl ⟨mo_1, 132, 747, none, ml_m_LeagueOffice_132, Or.inr (Or.inr (Or.inl ⟨0, TX0, 12, by decide, rfl, rfl, (by decide +kernel), ⟨1, rfl, mx_npd (by decide +kernel)⟩, ml_in_748, ml_se_749⟩))⟩) <|
  mc_1 (mk_p (ms_if_eq (off := (19)) (by decide +kernel) (by decide)) rfl) <| mc_0
theorem mw_151_2 : ∀ e ∈ mt_151_2, mx_Ok mx_MT mq_151 e.1 e.2 := 
  mc_1 (mk_p (ms_aload_n (k := 0) (by decide +kernel) rfl) rfl) <|
  mc_1 (mk_p (ms_get (idx := 12) (w := 696) (host := none) mx_c11 (by decide) ml_f_LeagueOffice_12 (by decide +kernel)) rfl) <|
  mc_1 (mk_p (ms_iload_n (k := 3) (by decide +kernel) rfl) rfl) <|
  mc_1 (mk_c (k := mq_1) rfl ⟨mo_1, 132, 747, none, ml_m_LeagueOffice_132, Or.inr (Or.inr (Or.inl ⟨0, TX0, 12, by decide, rfl, rfl, (by decide +kernel), ⟨1, rfl, mx_npd (by decide +kernel)⟩, ml_in_748, ml_se_749⟩))⟩) <|
  mc_1 (mk_p (ms_if_eq (off := (8)) (by decide +kernel) (by decide)) rfl) <|
  mc_1 (mk_p (ms_iload_n (k := 2) (by decide +kernel) rfl) rfl) <|
  mc_1 (mk_p (ms_iload_n (k := 3) (by decide +kernel) rfl) rfl) <|
  mc_1 (mk_p (ms_icmp_ne (off := (6)) (by decide +kernel) (by decide)) rfl) <| mc_0
theorem mw_151_3 : ∀ e ∈ mt_151_3, mx_Ok mx_MT mq_151 e.1 e.2 := 
  mc_1 (mk_p (ms_bipush (n := (-2)) (by decide +kernel) (by decide +kernel)) rfl) <|
  mc_1 (mk_r (Or.inl ⟨rfl, by decide +kernel, _, rfl, mf_0⟩) rfl) <|
  mc_1 (mk_p (ms_aload_n (k := 0) (by decide +kernel) rfl) rfl) <|
  mc_1 (mk_p (ms_get (idx := 78) (w := 704) (host := none) mx_c11 (by decide) ml_f_LeagueOffice_78 (by decide +kernel)) rfl) <|
  mc_1 (mk_p (ms_iload_n (k := 2) (by decide +kernel) rfl) rfl) <|
  mc_1 (mk_c (k := mq_35) rfl ⟨mo_35, 333, 1221, none, ml_m_LeagueOffice_333, Or.inr (Or.inr (Or.inl ⟨3, TX3, 6, by decide, rfl, rfl, (by decide +kernel), ⟨1, rfl, mx_npd (by decide +kernel)⟩, ml_in_1222, ml_se_1223⟩))⟩) <|
  mc_1 (mk_p (ms_if_ne (off := (14)) (by decide +kernel) (by decide)) rfl) <| mc_0
theorem mw_151_4 : ∀ e ∈ mt_151_4, mx_Ok mx_MT mq_151 e.1 e.2 := 
  mc_1 (mk_p (ms_aload_n (k := 0) (by decide +kernel) rfl) rfl) <|
  mc_1 (mk_p (ms_get (idx := 78) (w := 704) (host := none) mx_c11 (by decide) ml_f_LeagueOffice_78 (by decide +kernel)) rfl) <|
  mc_1 (mk_p (ms_iload_n (k := 3) (by decide +kernel) rfl) rfl) <|
  mc_1 (mk_c (k := mq_35) rfl ⟨mo_35, 333, 1221, none, ml_m_LeagueOffice_333, Or.inr (Or.inr (Or.inl ⟨3, TX3, 6, by decide, rfl, rfl, (by decide +kernel), ⟨1, rfl, mx_npd (by decide +kernel)⟩, ml_in_1222, ml_se_1223⟩))⟩) <|
  mc_1 (mk_p (ms_if_eq (off := (6)) (by decide +kernel) (by decide)) rfl) <|
  mc_1 (mk_p (ms_bipush (n := (-3)) (by decide +kernel) (by decide +kernel)) rfl) <|
  mc_1 (mk_r (Or.inl ⟨rfl, by decide +kernel, _, rfl, mf_0⟩) rfl) <|
  mc_1 (mk_p (ms_aload_n (k := 0) (by decide +kernel) rfl) rfl) <|
  mc_1 (mk_p (ms_get (idx := 78) (w := 704) (host := none) mx_c11 (by decide) ml_f_LeagueOffice_78 (by decide +kernel)) rfl) <| mc_0
theorem mw_151_5 : ∀ e ∈ mt_151_5, mx_Ok mx_MT mq_151 e.1 e.2 := 
  mc_1 (mk_p (ms_iload_n (k := 2) (by decide +kernel) rfl) rfl) <|
  mc_1 (mk_p (ms_iload_n (k := 3) (by decide +kernel) rfl) rfl) <|
  mc_1 (mk_c (k := mq_36) rfl ⟨mo_36, 336, 1227, none, ml_m_LeagueOffice_336, Or.inr (Or.inr (Or.inl ⟨3, TX3, 6, by decide, rfl, rfl, (by decide +kernel), ⟨2, rfl, mx_npd (by decide +kernel)⟩, ml_in_1228, ml_se_1229⟩))⟩) <|
  mc_1 (mk_r (Or.inl ⟨rfl, by decide +kernel, _, rfl, mf_0⟩) rfl) <| mc_0
theorem mw_151 : ∀ ch ∈ mt_151, ∀ e ∈ ch, mx_Ok mx_MT mq_151 e.1 e.2 := mc_2 mw_151_0 <| mc_2 mw_151_1 <| mc_2 mw_151_2 <| mc_2 mw_151_3 <| mc_2 mw_151_4 <| mc_2 mw_151_5 <| mc_3
/- 152 LeagueOffice.laid(II)I -/
theorem mw_152_0 : ∀ e ∈ mt_152_0, mx_Ok mx_MT mq_152 e.1 e.2 := 
  mc_1 (mk_p (ms_iload_n (k := 1) (by decide +kernel) rfl) rfl) <|
  mc_1 (mk_p (ms_sipush (n := 400) (by decide +kernel) (by decide +kernel)) rfl) <|
  mc_1 (mk_c (k := mq_160) rfl ⟨mo_160, 118, 736, none, ml_m_LeagueOffice_118, Or.inl ⟨rfl, (by decide +kernel), mx_npd (by decide +kernel), ml_st_737⟩⟩) <|
  mc_1 (mk_p (ms_if_eq (off := (11)) (by decide +kernel) (by decide)) rfl) <|
  mc_1 (mk_p (ms_iload_n (k := 2) (by decide +kernel) rfl) rfl) <|
  mc_1 (mk_p (ms_iconst (n := 2) (by decide +kernel) (by decide +kernel)) rfl) <|
  mc_1 (mk_c (k := mq_160) rfl ⟨mo_160, 118, 736, none, ml_m_LeagueOffice_118, Or.inl ⟨rfl, (by decide +kernel), mx_npd (by decide +kernel), ml_st_737⟩⟩) <|
  mc_1 (mk_p (ms_if_ne (off := (6)) (by decide +kernel) (by decide)) rfl) <| mc_0
theorem mw_152_1 : ∀ e ∈ mt_152_1, mx_Ok mx_MT mq_152 e.1 e.2 := 
  mc_1 (mk_p (ms_bipush (n := (-2)) (by decide +kernel) (by decide +kernel)) rfl) <|
  mc_1 (mk_r (Or.inl ⟨rfl, by decide +kernel, _, rfl, mf_0⟩) rfl) <|
  mc_1 (mk_p (ms_aload_n (k := 0) (by decide +kernel) rfl) rfl) <|
  mc_1 (mk_p (ms_get (idx := 78) (w := 704) (host := none) mx_c11 (by decide) ml_f_LeagueOffice_78 (by decide +kernel)) rfl) <|
  mc_1 (mk_p (ms_iload_n (k := 1) (by decide +kernel) rfl) rfl) <|
  mc_1 (mk_c (k := mq_37) rfl ⟨mo_37, 338, 1236, none, ml_m_LeagueOffice_338, Or.inr (Or.inr (Or.inl ⟨3, TX3, 6, by decide, rfl, rfl, (by decide +kernel), ⟨1, rfl, mx_npd (by decide +kernel)⟩, ml_in_1237, ml_se_1238⟩))⟩) <|
  mc_1 (mk_p (ms_iload_n (k := 2) (by decide +kernel) rfl) rfl) <|
  mc_1 (mk_p (ms_if_ne (off := (13)) (by decide +kernel) (by decide)) rfl) <| mc_0
theorem mw_152_2 : ∀ e ∈ mt_152_2, mx_Ok mx_MT mq_152 e.1 e.2 := 
  mc_1 (mk_p (ms_aload_n (k := 0) (by decide +kernel) rfl) rfl) <|
  mc_1 (mk_p (ms_get (idx := 78) (w := 704) (host := none) mx_c11 (by decide) ml_f_LeagueOffice_78 (by decide +kernel)) rfl) <|
  mc_1 (mk_p (ms_get (idx := 341) (w := 483) (host := (some "LeagueOffice")) mx_c3 (by decide) ml_f_LeagueOffice_341 (by decide +kernel)) rfl) <|
  mc_1 (mk_p (ms_goto (off := (10)) (by decide +kernel) (by decide)) rfl) <|
  mc_1 (mk_p (ms_aload_n (k := 0) (by decide +kernel) rfl) rfl) <|
  mc_1 (mk_p (ms_get (idx := 78) (w := 704) (host := none) mx_c11 (by decide) ml_f_LeagueOffice_78 (by decide +kernel)) rfl) <|
  mc_1 (mk_p (ms_get (idx := 344) (w := 485) (host := (some "LeagueOffice")) mx_c3 (by decide) ml_f_LeagueOffice_344 (by decide +kernel)) rfl) <| mc_0
theorem mw_152_3 : ∀ e ∈ mt_152_3, mx_Ok mx_MT mq_152 e.1 e.2 := 
  mc_1 (mk_r (Or.inl ⟨rfl, by decide +kernel, _, rfl, mf_0⟩) rfl) <| mc_0
theorem mw_152 : ∀ ch ∈ mt_152, ∀ e ∈ ch, mx_Ok mx_MT mq_152 e.1 e.2 := mc_2 mw_152_0 <| mc_2 mw_152_1 <| mc_2 mw_152_2 <| mc_2 mw_152_3 <| mc_3
/- 153 LeagueOffice.count(I)I -/
theorem mw_153_0 : ∀ e ∈ mt_153_0, mx_Ok mx_MT mq_153 e.1 e.2 := 
  mc_1 (mk_p (ms_iload_n (k := 1) (by decide +kernel) rfl) rfl) <|
  mc_1 (mk_p (ms_tsw (dflt := (201)) (lo := (0)) (hi := (12)) (offs := #[67, 75, 86, 97, 108, 116, 127, 138, 149, 157, 168, 179, 190]) (len := 67) (by decide +kernel) (by decide +kernel) (by decide +kernel) (by decide +kernel) (by decide +kernel)) rfl) <| mc_0
theorem mw_153_1 : ∀ e ∈ mt_153_1, mx_Ok mx_MT mq_153 e.1 e.2 := mc_0
theorem mw_153_2 : ∀ e ∈ mt_153_2, mx_Ok mx_MT mq_153 e.1 e.2 := mc_0
theorem mw_153_3 : ∀ e ∈ mt_153_3, mx_Ok mx_MT mq_153 e.1 e.2 := mc_0
theorem mw_153_4 : ∀ e ∈ mt_153_4, mx_Ok mx_MT mq_153 e.1 e.2 := 
  mc_1 (mk_p (ms_aload_n (k := 0) (by decide +kernel) rfl) rfl) <|
  mc_1 (mk_p (ms_get (idx := 12) (w := 696) (host := none) mx_c11 (by decide) ml_f_LeagueOffice_12 (by decide +kernel)) rfl) <|
  mc_1 (mk_p (ms_get (idx := 114) (w := 131) (host := (some "LeagueOffice")) mx_c0 (by decide) ml_f_LeagueOffice_114 (by decide +kernel)) rfl) <|
  mc_1 (mk_r (Or.inl ⟨rfl, by decide +kernel, _, rfl, mf_0⟩) rfl) <|
  mc_1 (mk_p (ms_aload_n (k := 0) (by decide +kernel) rfl) rfl) <|
  mc_1 (mk_p (ms_get (idx := 12) (w := 696) (host := none) mx_c11 (by decide) ml_f_LeagueOffice_12 (by decide +kernel)) rfl) <| mc_0
theorem mw_153_5 : ∀ e ∈ mt_153_5, mx_Ok mx_MT mq_153 e.1 e.2 := 
  mc_1 (mk_p (ms_get (idx := 122) (w := 137) (host := (some "LeagueOffice")) mx_c0 (by decide) ml_f_LeagueOffice_122 (by decide +kernel)) rfl) <|
  mc_1 (mk_c (k := mq_65) rfl ⟨mo_65, 193, 823, none, ml_m_LeagueOffice_193, Or.inr (Or.inr (Or.inl ⟨6, TX6, 2, by decide, rfl, rfl, (by decide +kernel), ⟨0, rfl, mx_npd (by decide +kernel)⟩, ml_in_587, ml_se_588⟩))⟩) <|
  mc_1 (mk_r (Or.inl ⟨rfl, by decide +kernel, _, rfl, mf_0⟩) rfl) <|
  mc_1 (mk_p (ms_aload_n (k := 0) (by decide +kernel) rfl) rfl) <|
  mc_1 (mk_p (ms_get (idx := 12) (w := 696) (host := none) mx_c11 (by decide) ml_f_LeagueOffice_12 (by decide +kernel)) rfl) <|
  mc_1 (mk_p (ms_get (idx := 143) (w := 147) (host := (some "LeagueOffice")) mx_c0 (by decide) ml_f_LeagueOffice_143 (by decide +kernel)) rfl) <|
  mc_1 (mk_c (k := mq_65) rfl ⟨mo_65, 193, 823, none, ml_m_LeagueOffice_193, Or.inr (Or.inr (Or.inl ⟨6, TX6, 2, by decide, rfl, rfl, (by decide +kernel), ⟨0, rfl, mx_npd (by decide +kernel)⟩, ml_in_587, ml_se_588⟩))⟩) <| mc_0
theorem mw_153_6 : ∀ e ∈ mt_153_6, mx_Ok mx_MT mq_153 e.1 e.2 := 
  mc_1 (mk_r (Or.inl ⟨rfl, by decide +kernel, _, rfl, mf_0⟩) rfl) <|
  mc_1 (mk_p (ms_aload_n (k := 0) (by decide +kernel) rfl) rfl) <|
  mc_1 (mk_p (ms_get (idx := 12) (w := 696) (host := none) mx_c11 (by decide) ml_f_LeagueOffice_12 (by decide +kernel)) rfl) <|
  mc_1 (mk_p (ms_get (idx := 347) (w := 173) (host := (some "LeagueOffice")) mx_c0 (by decide) ml_f_LeagueOffice_347 (by decide +kernel)) rfl) <|
  mc_1 (mk_c (k := mq_65) rfl ⟨mo_65, 193, 823, none, ml_m_LeagueOffice_193, Or.inr (Or.inr (Or.inl ⟨6, TX6, 2, by decide, rfl, rfl, (by decide +kernel), ⟨0, rfl, mx_npd (by decide +kernel)⟩, ml_in_587, ml_se_588⟩))⟩) <|
  mc_1 (mk_r (Or.inl ⟨rfl, by decide +kernel, _, rfl, mf_0⟩) rfl) <|
  mc_1 (mk_p (ms_aload_n (k := 0) (by decide +kernel) rfl) rfl) <|
  mc_1 (mk_p (ms_get (idx := 19) (w := 697) (host := none) mx_c11 (by decide) ml_f_LeagueOffice_19 (by decide +kernel)) rfl) <| mc_0
theorem mw_153_7 : ∀ e ∈ mt_153_7, mx_Ok mx_MT mq_153 e.1 e.2 := 
  mc_1 (mk_p (ms_get (idx := 196) (w := 217) (host := (some "LeagueOffice")) mx_c10 (by decide) ml_f_LeagueOffice_196 (by decide +kernel)) rfl) <|
  mc_1 (mk_r (Or.inl ⟨rfl, by decide +kernel, _, rfl, mf_0⟩) rfl) <|
  mc_1 (mk_p (ms_aload_n (k := 0) (by decide +kernel) rfl) rfl) <|
  mc_1 (mk_p (ms_get (idx := 28) (w := 698) (host := none) mx_c11 (by decide) ml_f_LeagueOffice_28 (by decide +kernel)) rfl) <|
  mc_1 (mk_p (ms_get (idx := 97) (w := 254) (host := (some "LeagueOffice")) mx_c5 (by decide) ml_f_LeagueOffice_97 (by decide +kernel)) rfl) <|
  mc_1 (mk_c (k := mq_65) rfl ⟨mo_65, 193, 823, none, ml_m_LeagueOffice_193, Or.inr (Or.inr (Or.inl ⟨6, TX6, 2, by decide, rfl, rfl, (by decide +kernel), ⟨0, rfl, mx_npd (by decide +kernel)⟩, ml_in_587, ml_se_588⟩))⟩) <|
  mc_1 (mk_r (Or.inl ⟨rfl, by decide +kernel, _, rfl, mf_0⟩) rfl) <| mc_0
theorem mw_153_8 : ∀ e ∈ mt_153_8, mx_Ok mx_MT mq_153 e.1 e.2 := 
  mc_1 (mk_p (ms_aload_n (k := 0) (by decide +kernel) rfl) rfl) <|
  mc_1 (mk_p (ms_get (idx := 19) (w := 697) (host := none) mx_c11 (by decide) ml_f_LeagueOffice_19 (by decide +kernel)) rfl) <|
  mc_1 (mk_p (ms_get (idx := 198) (w := 224) (host := (some "LeagueOffice")) mx_c10 (by decide) ml_f_LeagueOffice_198 (by decide +kernel)) rfl) <|
  mc_1 (mk_c (k := mq_65) rfl ⟨mo_65, 193, 823, none, ml_m_LeagueOffice_193, Or.inr (Or.inr (Or.inl ⟨6, TX6, 2, by decide, rfl, rfl, (by decide +kernel), ⟨0, rfl, mx_npd (by decide +kernel)⟩, ml_in_587, ml_se_588⟩))⟩) <|
  mc_1 (mk_r (Or.inl ⟨rfl, by decide +kernel, _, rfl, mf_0⟩) rfl) <|
  mc_1 (mk_p (ms_aload_n (k := 0) (by decide +kernel) rfl) rfl) <|
  mc_1 (mk_p (ms_get (idx := 37) (w := 699) (host := none) mx_c11 (by decide) ml_f_LeagueOffice_37 (by decide +kernel)) rfl) <|
  mc_1 (mk_p (ms_get (idx := 207) (w := 283) (host := (some "LeagueOffice")) mx_c9 (by decide) ml_f_LeagueOffice_207 (by decide +kernel)) rfl) <| mc_0
theorem mw_153_9 : ∀ e ∈ mt_153_9, mx_Ok mx_MT mq_153 e.1 e.2 := 
  mc_1 (mk_c (k := mq_65) rfl ⟨mo_65, 193, 823, none, ml_m_LeagueOffice_193, Or.inr (Or.inr (Or.inl ⟨6, TX6, 2, by decide, rfl, rfl, (by decide +kernel), ⟨0, rfl, mx_npd (by decide +kernel)⟩, ml_in_587, ml_se_588⟩))⟩) <|
  mc_1 (mk_r (Or.inl ⟨rfl, by decide +kernel, _, rfl, mf_0⟩) rfl) <|
  mc_1 (mk_p (ms_aload_n (k := 0) (by decide +kernel) rfl) rfl) <|
  mc_1 (mk_p (ms_get (idx := 44) (w := 700) (host := none) mx_c11 (by decide) ml_f_LeagueOffice_44 (by decide +kernel)) rfl) <|
  mc_1 (mk_p (ms_get (idx := 235) (w := 332) (host := (some "LeagueOffice")) mx_c8 (by decide) ml_f_LeagueOffice_235 (by decide +kernel)) rfl) <|
  mc_1 (mk_r (Or.inl ⟨rfl, by decide +kernel, _, rfl, mf_0⟩) rfl) <|
  mc_1 (mk_p (ms_aload_n (k := 0) (by decide +kernel) rfl) rfl) <|
  mc_1 (mk_p (ms_get (idx := 44) (w := 700) (host := none) mx_c11 (by decide) ml_f_LeagueOffice_44 (by decide +kernel)) rfl) <| mc_0
theorem mw_153_10 : ∀ e ∈ mt_153_10, mx_Ok mx_MT mq_153 e.1 e.2 := 
  mc_1 (mk_p (ms_get (idx := 241) (w := 334) (host := (some "LeagueOffice")) mx_c8 (by decide) ml_f_LeagueOffice_241 (by decide +kernel)) rfl) <|
  mc_1 (mk_c (k := mq_65) rfl ⟨mo_65, 193, 823, none, ml_m_LeagueOffice_193, Or.inr (Or.inr (Or.inl ⟨6, TX6, 2, by decide, rfl, rfl, (by decide +kernel), ⟨0, rfl, mx_npd (by decide +kernel)⟩, ml_in_587, ml_se_588⟩))⟩) <|
  mc_1 (mk_r (Or.inl ⟨rfl, by decide +kernel, _, rfl, mf_0⟩) rfl) <|
  mc_1 (mk_p (ms_aload_n (k := 0) (by decide +kernel) rfl) rfl) <|
  mc_1 (mk_p (ms_get (idx := 44) (w := 700) (host := none) mx_c11 (by decide) ml_f_LeagueOffice_44 (by decide +kernel)) rfl) <|
  mc_1 (mk_p (ms_get (idx := 253) (w := 340) (host := (some "LeagueOffice")) mx_c8 (by decide) ml_f_LeagueOffice_253 (by decide +kernel)) rfl) <| mc_0
theorem mw_153_11 : ∀ e ∈ mt_153_11, mx_Ok mx_MT mq_153 e.1 e.2 := 
  mc_1 (mk_c (k := mq_65) rfl ⟨mo_65, 193, 823, none, ml_m_LeagueOffice_193, Or.inr (Or.inr (Or.inl ⟨6, TX6, 2, by decide, rfl, rfl, (by decide +kernel), ⟨0, rfl, mx_npd (by decide +kernel)⟩, ml_in_587, ml_se_588⟩))⟩) <|
  mc_1 (mk_r (Or.inl ⟨rfl, by decide +kernel, _, rfl, mf_0⟩) rfl) <|
  mc_1 (mk_p (ms_aload_n (k := 0) (by decide +kernel) rfl) rfl) <|
  mc_1 (mk_p (ms_get (idx := 44) (w := 700) (host := none) mx_c11 (by decide) ml_f_LeagueOffice_44 (by decide +kernel)) rfl) <|
  mc_1 (mk_p (ms_get (idx := 283) (w := 346) (host := (some "LeagueOffice")) mx_c8 (by decide) ml_f_LeagueOffice_283 (by decide +kernel)) rfl) <|
  mc_1 (mk_c (k := mq_65) rfl ⟨mo_65, 193, 823, none, ml_m_LeagueOffice_193, Or.inr (Or.inr (Or.inl ⟨6, TX6, 2, by decide, rfl, rfl, (by decide +kernel), ⟨0, rfl, mx_npd (by decide +kernel)⟩, ml_in_587, ml_se_588⟩))⟩) <|
  mc_1 (mk_r (Or.inl ⟨rfl, by decide +kernel, _, rfl, mf_0⟩) rfl) <|
  mc_1 (mk_p (ms_aload_n (k := 0) (by decide +kernel) rfl) rfl) <| mc_0
theorem mw_153_12 : ∀ e ∈ mt_153_12, mx_Ok mx_MT mq_153 e.1 e.2 := 
  mc_1 (mk_p (ms_get (idx := 78) (w := 704) (host := none) mx_c11 (by decide) ml_f_LeagueOffice_78 (by decide +kernel)) rfl) <|
  mc_1 (mk_p (ms_get (idx := 350) (w := 479) (host := (some "LeagueOffice")) mx_c3 (by decide) ml_f_LeagueOffice_350 (by decide +kernel)) rfl) <|
  mc_1 (mk_c (k := mq_65) rfl ⟨mo_65, 193, 823, none, ml_m_LeagueOffice_193, Or.inr (Or.inr (Or.inl ⟨6, TX6, 2, by decide, rfl, rfl, (by decide +kernel), ⟨0, rfl, mx_npd (by decide +kernel)⟩, ml_in_587, ml_se_588⟩))⟩) <|
  mc_1 (mk_r (Or.inl ⟨rfl, by decide +kernel, _, rfl, mf_0⟩) rfl) <|
  mc_1 (mk_p (ms_bipush (n := (-2)) (by decide +kernel) (by decide +kernel)) rfl) <|
  mc_1 (mk_r (Or.inl ⟨rfl, by decide +kernel, _, rfl, mf_0⟩) rfl) <| mc_0
theorem mw_153 : ∀ ch ∈ mt_153, ∀ e ∈ ch, mx_Ok mx_MT mq_153 e.1 e.2 := mc_2 mw_153_0 <| mc_2 mw_153_1 <| mc_2 mw_153_2 <| mc_2 mw_153_3 <| mc_2 mw_153_4 <| mc_2 mw_153_5 <| mc_2 mw_153_6 <| mc_2 mw_153_7 <| mc_2 mw_153_8 <| mc_2 mw_153_9 <| mc_2 mw_153_10 <| mc_2 mw_153_11 <| mc_2 mw_153_12 <| mc_3
/- 154 LeagueOffice.sheet(III)I -/
theorem mw_154_0 : ∀ e ∈ mt_154_0, mx_Ok mx_MT mq_154 e.1 e.2 := 
  mc_1 (mk_p (ms_iload_n (k := 1) (by decide +kernel) rfl) rfl) <|
  mc_1 (mk_p (ms_iconst (n := 4) (by decide +kernel) (by decide +kernel)) rfl) <|
  mc_1 (mk_c (k := mq_160) rfl ⟨mo_160, 118, 736, none, ml_m_LeagueOffice_118, Or.inl ⟨rfl, (by decide +kernel), mx_npd (by decide +kernel), ml_st_737⟩⟩) <|
  mc_1 (mk_p (ms_if_eq (off := (13)) (by decide +kernel) (by decide)) rfl) <|
  mc_1 (mk_p (ms_iload_n (k := 2) (by decide +kernel) rfl) rfl) <|
  mc_1 (mk_p (ms_iconst (n := (-1)) (by decide +kernel) (by decide +kernel)) rfl) <|
  mc_1 (mk_p (ms_icmp_lt (off := (8)) (by decide +kernel) (by decide)) rfl) <|
  mc_1 (mk_p (ms_iload_n (k := 2) (by decide +kernel) rfl) rfl) <|
  mc_1 (mk_p (ms_iconst (n := 3) (by decide +kernel) (by decide +kernel)) rfl) <|
  mc_1 (mk_p (ms_icmp_lt (off := (6)) (by decide +kernel) (by decide)) rfl) <| mc_0
theorem mw_154_1 : ∀ e ∈ mt_154_1, mx_Ok mx_MT mq_154 e.1 e.2 := 
  mc_1 (mk_p (ms_bipush (n := (-2)) (by decide +kernel) (by decide +kernel)) rfl) <|
  mc_1 (mk_r (Or.inl ⟨rfl, by decide +kernel, _, rfl, mf_0⟩) rfl) <|
  mc_1 (mk_p (ms_iload_n (k := 2) (by decide +kernel) rfl) rfl) <|
  mc_1 (mk_p (ms_iconst (n := (-1)) (by decide +kernel) (by decide +kernel)) rfl) <|
  mc_1 (mk_p (ms_icmp_ne (off := (12)) (by decide +kernel) (by decide)) rfl) <|
  mc_1 (mk_p (ms_aload_n (k := 0) (by decide +kernel) rfl) rfl) <|
  mc_1 (mk_p (ms_get (idx := 85) (w := 705) (host := none) mx_c11 (by decide) ml_f_LeagueOffice_85 (by decide +kernel)) rfl) <|
  mc_1 (mk_p (ms_iload_n (k := 1) (by decide +kernel) rfl) rfl) <|
  mc_1 (mk_c (k := mq_78) rfl ⟨mo_78, 353, 1258, none, ml_m_LeagueOffice_353, Or.inr (Or.inr (Or.inl ⟨7, TX7, 3, by decide, rfl, rfl, (by decide +kernel), ⟨1, rfl, mx_npd (by decide +kernel)⟩, ml_in_1259, ml_se_1260⟩))⟩) <| mc_0
theorem mw_154_2 : ∀ e ∈ mt_154_2, mx_Ok mx_MT mq_154 e.1 e.2 := 
  mc_1 (mk_r (Or.inl ⟨rfl, by decide +kernel, _, rfl, mf_0⟩) rfl) <|
  mc_1 (mk_p (ms_iload_n (k := 3) (by decide +kernel) rfl) rfl) <|
  mc_1 (mk_p (ms_bipush (n := 40) (by decide +kernel) (by decide +kernel)) rfl) <|
  mc_1 (mk_p (ms_icmp_le (off := (6)) (by decide +kernel) (by decide)) rfl) <|
  mc_1 (mk_p (ms_bipush (n := (-2)) (by decide +kernel) (by decide +kernel)) rfl) <|
  mc_1 (mk_r (Or.inl ⟨rfl, by decide +kernel, _, rfl, mf_0⟩) rfl) <|
  mc_1 (mk_p (ms_iload_n (k := 3) (by decide +kernel) rfl) rfl) <|
  mc_1 (mk_p (ms_if_ge (off := (8)) (by decide +kernel) (by decide)) rfl) <| mc_0
theorem mw_154_3 : ∀ e ∈ mt_154_3, mx_Ok mx_MT mq_154 e.1 e.2 := 
  mc_1 (mk_p (ms_bipush (n := (-14)) (by decide +kernel) (by decide +kernel)) rfl) <|
  mc_1 (mk_p (ms_goto (off := (13)) (by decide +kernel) (by decide)) rfl) <|
  mc_1 (mk_p (ms_aload_n (k := 0) (by decide +kernel) rfl) rfl) <|
  mc_1 (mk_p (ms_get (idx := 85) (w := 705) (host := none) mx_c11 (by decide) ml_f_LeagueOffice_85 (by decide +kernel)) rfl) <|
  mc_1 (mk_p (ms_iload_n (k := 1) (by decide +kernel) rfl) rfl) <|
  mc_1 (mk_p (ms_iload_n (k := 2) (by decide +kernel) rfl) rfl) <|
  mc_1 (mk_p (ms_iload_n (k := 3) (by decide +kernel) rfl) rfl) <|
  mc_1 (mk_c (k := mq_79) rfl ⟨mo_79, 356, 1263, none, ml_m_LeagueOffice_356, Or.inr (Or.inr (Or.inl ⟨7, TX7, 3, by decide, rfl, rfl, (by decide +kernel), ⟨3, rfl, mx_npd (by decide +kernel)⟩, ml_in_1264, ml_se_1265⟩))⟩) <|
  mc_1 (mk_r (Or.inl ⟨rfl, by decide +kernel, _, rfl, mf_0⟩) rfl) <| mc_0
theorem mw_154 : ∀ ch ∈ mt_154, ∀ e ∈ ch, mx_Ok mx_MT mq_154 e.1 e.2 := mc_2 mw_154_0 <| mc_2 mw_154_1 <| mc_2 mw_154_2 <| mc_2 mw_154_3 <| mc_3
/- 155 LeagueOffice.cell(III)I -/
theorem mw_155_0 : ∀ e ∈ mt_155_0, mx_Ok mx_MT mq_155 e.1 e.2 := 
  mc_1 (mk_p (ms_iload_n (k := 1) (by decide +kernel) rfl) rfl) <|
  mc_1 (mk_p (ms_iconst (n := 4) (by decide +kernel) (by decide +kernel)) rfl) <|
  mc_1 (mk_c (k := mq_160) rfl ⟨mo_160, 118, 736, none, ml_m_LeagueOffice_118, Or.inl ⟨rfl, (by decide +kernel), mx_npd (by decide +kernel), ml_st_737⟩⟩) <|
  mc_1 (mk_p (ms_if_ne (off := (6)) (by decide +kernel) (by decide)) rfl) <|
  mc_1 (mk_p (ms_bipush (n := (-2)) (by decide +kernel) (by decide +kernel)) rfl) <|
  mc_1 (mk_r (Or.inl ⟨rfl, by decide +kernel, _, rfl, mf_0⟩) rfl) <|
  mc_1 (mk_p (ms_aload_n (k := 0) (by decide +kernel) rfl) rfl) <|
  mc_1 (mk_p (ms_get (idx := 85) (w := 705) (host := none) mx_c11 (by decide) ml_f_LeagueOffice_85 (by decide +kernel)) rfl) <|
  mc_1 (mk_p (ms_iload_n (k := 1) (by decide +kernel) rfl) rfl) <| mc_0
theorem mw_155_1 : ∀ e ∈ mt_155_1, mx_Ok mx_MT mq_155 e.1 e.2 := 
  mc_1 (mk_c (k := mq_80) rfl ⟨mo_80, 358, 1271, none, ml_m_LeagueOffice_358, Or.inr (Or.inr (Or.inl ⟨7, TX7, 3, by decide, rfl, rfl, (by decide +kernel), ⟨1, rfl, mx_npd (by decide +kernel)⟩, ml_in_1272, ml_se_1273⟩))⟩) <|
  mc_1 (mk_p (ms_if_eq (off := (6)) (by decide +kernel) (by decide)) rfl) <|
  mc_1 (mk_p (ms_bipush (n := (-11)) (by decide +kernel) (by decide +kernel)) rfl) <|
  mc_1 (mk_r (Or.inl ⟨rfl, by decide +kernel, _, rfl, mf_0⟩) rfl) <|
  mc_1 (mk_p (ms_aload_n (k := 0) (by decide +kernel) rfl) rfl) <|
  mc_1 (mk_p (ms_get (idx := 85) (w := 705) (host := none) mx_c11 (by decide) ml_f_LeagueOffice_85 (by decide +kernel)) rfl) <|
  mc_1 (mk_p (ms_iload_n (k := 1) (by decide +kernel) rfl) rfl) <|
  mc_1 (mk_p (ms_iload_n (k := 2) (by decide +kernel) rfl) rfl) <|
  mc_1 (mk_p (ms_iconst (n := 1) (by decide +kernel) (by decide +kernel)) rfl) <| mc_0
theorem mw_155_2 : ∀ e ∈ mt_155_2, mx_Ok mx_MT mq_155 e.1 e.2 := 
  mc_1 (mk_c (k := mq_82) rfl ⟨mo_82, 361, 1276, none, ml_m_LeagueOffice_361, Or.inr (Or.inr (Or.inl ⟨7, TX7, 3, by decide, rfl, rfl, (by decide +kernel), ⟨3, rfl, mx_npd (by decide +kernel)⟩, ml_in_1277, ml_se_1278⟩))⟩) <|
  mc_1 (mk_p (ms_if_eq (off := (16)) (by decide +kernel) (by decide)) rfl) <|
  mc_1 (mk_p (ms_aload_n (k := 0) (by decide +kernel) rfl) rfl) <|
  mc_1 (mk_p (ms_get (idx := 85) (w := 705) (host := none) mx_c11 (by decide) ml_f_LeagueOffice_85 (by decide +kernel)) rfl) <|
  mc_1 (mk_p (ms_iload_n (k := 1) (by decide +kernel) rfl) rfl) <|
  mc_1 (mk_p (ms_iload_n (k := 2) (by decide +kernel) rfl) rfl) <|
  mc_1 (mk_p (ms_iload_n (k := 3) (by decide +kernel) rfl) rfl) <|
  mc_1 (mk_c (k := mq_84) rfl ⟨mo_84, 365, 1280, none, ml_m_LeagueOffice_365, Or.inr (Or.inr (Or.inl ⟨7, TX7, 3, by decide, rfl, rfl, (by decide +kernel), ⟨3, rfl, mx_npd (by decide +kernel)⟩, ml_in_1281, ml_se_1282⟩))⟩) <| mc_0
theorem mw_155_3 : ∀ e ∈ mt_155_3, mx_Ok mx_MT mq_155 e.1 e.2 := 
  mc_1 (mk_p (ms_goto (off := (5)) (by decide +kernel) (by decide)) rfl) <|
  mc_1 (mk_p (ms_bipush (n := (-12)) (by decide +kernel) (by decide +kernel)) rfl) <|
  mc_1 (mk_r (Or.inl ⟨rfl, by decide +kernel, _, rfl, mf_0⟩) rfl) <| mc_0
theorem mw_155 : ∀ ch ∈ mt_155, ∀ e ∈ ch, mx_Ok mx_MT mq_155 e.1 e.2 := mc_2 mw_155_0 <| mc_2 mw_155_1 <| mc_2 mw_155_2 <| mc_2 mw_155_3 <| mc_3
/- 156 LeagueOffice.copy(IIIII)I -/
theorem mw_156_0 : ∀ e ∈ mt_156_0, mx_Ok mx_MT mq_156 e.1 e.2 := 
  mc_1 (mk_p (ms_iload_n (k := 1) (by decide +kernel) rfl) rfl) <|
  mc_1 (mk_p (ms_iconst (n := 4) (by decide +kernel) (by decide +kernel)) rfl) <|
  mc_1 (mk_c (k := mq_160) rfl ⟨mo_160, 118, 736, none, ml_m_LeagueOffice_118, Or.inl ⟨rfl, (by decide +kernel), mx_npd (by decide +kernel), ml_st_737⟩⟩) <|
  mc_1 (mk_p (ms_if_eq (off := (11)) (by decide +kernel) (by decide)) rfl) <|
  mc_1 (mk_p (ms_iload_n (k := 3) (by decide +kernel) rfl) rfl) <|
  mc_1 (mk_p (ms_iconst (n := 4) (by decide +kernel) (by decide +kernel)) rfl) <|
  mc_1 (mk_c (k := mq_160) rfl ⟨mo_160, 118, 736, none, ml_m_LeagueOffice_118, Or.inl ⟨rfl, (by decide +kernel), mx_npd (by decide +kernel), ml_st_737⟩⟩) <|
  mc_1 (mk_p (ms_if_ne (off := (6)) (by decide +kernel) (by decide)) rfl) <| mc_0
theorem mw_156_1 : ∀ e ∈ mt_156_1, mx_Ok mx_MT mq_156 e.1 e.2 := 
  mc_1 (mk_p (ms_bipush (n := (-2)) (by decide +kernel) (by decide +kernel)) rfl) <|
  mc_1 (mk_r (Or.inl ⟨rfl, by decide +kernel, _, rfl, mf_0⟩) rfl) <|
  mc_1 (mk_p (ms_aload_n (k := 0) (by decide +kernel) rfl) rfl) <|
  mc_1 (mk_p (ms_get (idx := 85) (w := 705) (host := none) mx_c11 (by decide) ml_f_LeagueOffice_85 (by decide +kernel)) rfl) <|
  mc_1 (mk_p (ms_iload_n (k := 1) (by decide +kernel) rfl) rfl) <|
  mc_1 (mk_c (k := mq_80) rfl ⟨mo_80, 358, 1271, none, ml_m_LeagueOffice_358, Or.inr (Or.inr (Or.inl ⟨7, TX7, 3, by decide, rfl, rfl, (by decide +kernel), ⟨1, rfl, mx_npd (by decide +kernel)⟩, ml_in_1272, ml_se_1273⟩))⟩) <|
  mc_1 (mk_p (ms_if_ne (off := (14)) (by decide +kernel) (by decide)) rfl) <|
  mc_1 (mk_p (ms_aload_n (k := 0) (by decide +kernel) rfl) rfl) <|
  mc_1 (mk_p (ms_get (idx := 85) (w := 705) (host := none) mx_c11 (by decide) ml_f_LeagueOffice_85 (by decide +kernel)) rfl) <| mc_0
theorem mw_156_2 : ∀ e ∈ mt_156_2, mx_Ok mx_MT mq_156 e.1 e.2 := 
  mc_1 (mk_p (ms_iload_n (k := 3) (by decide +kernel) rfl) rfl) <|
  mc_1 (mk_c (k := mq_80) rfl ⟨mo_80, 358, 1271, none, ml_m_LeagueOffice_358, Or.inr (Or.inr (Or.inl ⟨7, TX7, 3, by decide, rfl, rfl, (by decide +kernel), ⟨1, rfl, mx_npd (by decide +kernel)⟩, ml_in_1272, ml_se_1273⟩))⟩) <|
  mc_1 (mk_p (ms_if_eq (off := (6)) (by decide +kernel) (by decide)) rfl) <|
  mc_1 (mk_p (ms_bipush (n := (-11)) (by decide +kernel) (by decide +kernel)) rfl) <|
  mc_1 (mk_r (Or.inl ⟨rfl, by decide +kernel, _, rfl, mf_0⟩) rfl) <|
  mc_1 (mk_p (ms_aload_n (k := 0) (by decide +kernel) rfl) rfl) <|
  mc_1 (mk_p (ms_get (idx := 85) (w := 705) (host := none) mx_c11 (by decide) ml_f_LeagueOffice_85 (by decide +kernel)) rfl) <| mc_0
theorem mw_156_3 : ∀ e ∈ mt_156_3, mx_Ok mx_MT mq_156 e.1 e.2 := 
  mc_1 (mk_p (ms_iload_n (k := 1) (by decide +kernel) rfl) rfl) <|
  mc_1 (mk_c (k := mq_81) rfl ⟨mo_81, 368, 1292, none, ml_m_LeagueOffice_368, Or.inr (Or.inr (Or.inl ⟨7, TX7, 3, by decide, rfl, rfl, (by decide +kernel), ⟨1, rfl, mx_npd (by decide +kernel)⟩, ml_in_1285, ml_se_1286⟩))⟩) <|
  mc_1 (mk_p (ms_aload_n (k := 0) (by decide +kernel) rfl) rfl) <|
  mc_1 (mk_p (ms_get (idx := 85) (w := 705) (host := none) mx_c11 (by decide) ml_f_LeagueOffice_85 (by decide +kernel)) rfl) <|
  mc_1 (mk_p (ms_iload_n (k := 3) (by decide +kernel) rfl) rfl) <|
  mc_1 (mk_c (k := mq_81) rfl ⟨mo_81, 368, 1292, none, ml_m_LeagueOffice_368, Or.inr (Or.inr (Or.inl ⟨7, TX7, 3, by decide, rfl, rfl, (by decide +kernel), ⟨1, rfl, mx_npd (by decide +kernel)⟩, ml_in_1285, ml_se_1286⟩))⟩) <|
  mc_1 (mk_p (ms_icmp_eq (off := (6)) (by decide +kernel) (by decide)) rfl) <|
  mc_1 (mk_p (ms_bipush (n := (-13)) (by decide +kernel) (by decide +kernel)) rfl) <| mc_0
theorem mw_156_4 : ∀ e ∈ mt_156_4, mx_Ok mx_MT mq_156 e.1 e.2 := 
  mc_1 (mk_r (Or.inl ⟨rfl, by decide +kernel, _, rfl, mf_0⟩) rfl) <|
  mc_1 (mk_p (ms_aload_n (k := 0) (by decide +kernel) rfl) rfl) <|
  mc_1 (mk_p (ms_get (idx := 85) (w := 705) (host := none) mx_c11 (by decide) ml_f_LeagueOffice_85 (by decide +kernel)) rfl) <|
  mc_1 (mk_p (ms_iload_n (k := 1) (by decide +kernel) rfl) rfl) <|
  mc_1 (mk_p (ms_iload_n (k := 2) (by decide +kernel) rfl) rfl) <|
  mc_1 (mk_p (ms_iload (by decide +kernel)) rfl) <|
  mc_1 (mk_c (k := mq_82) rfl ⟨mo_82, 361, 1276, none, ml_m_LeagueOffice_361, Or.inr (Or.inr (Or.inl ⟨7, TX7, 3, by decide, rfl, rfl, (by decide +kernel), ⟨3, rfl, mx_npd (by decide +kernel)⟩, ml_in_1277, ml_se_1278⟩))⟩) <|
  mc_1 (mk_p (ms_if_eq (off := (18)) (by decide +kernel) (by decide)) rfl) <| mc_0
theorem mw_156_5 : ∀ e ∈ mt_156_5, mx_Ok mx_MT mq_156 e.1 e.2 := 
  mc_1 (mk_p (ms_aload_n (k := 0) (by decide +kernel) rfl) rfl) <|
  mc_1 (mk_p (ms_get (idx := 85) (w := 705) (host := none) mx_c11 (by decide) ml_f_LeagueOffice_85 (by decide +kernel)) rfl) <|
  mc_1 (mk_p (ms_iload_n (k := 3) (by decide +kernel) rfl) rfl) <|
  mc_1 (mk_p (ms_iload (by decide +kernel)) rfl) <|
  mc_1 (mk_p (ms_iload (by decide +kernel)) rfl) <|
  mc_1 (mk_c (k := mq_82) rfl ⟨mo_82, 361, 1276, none, ml_m_LeagueOffice_361, Or.inr (Or.inr (Or.inl ⟨7, TX7, 3, by decide, rfl, rfl, (by decide +kernel), ⟨3, rfl, mx_npd (by decide +kernel)⟩, ml_in_1277, ml_se_1278⟩))⟩) <|
  mc_1 (mk_p (ms_if_ne (off := (6)) (by decide +kernel) (by decide)) rfl) <|
  mc_1 (mk_p (ms_bipush (n := (-12)) (by decide +kernel) (by decide +kernel)) rfl) <| mc_0
theorem mw_156_6 : ∀ e ∈ mt_156_6, mx_Ok mx_MT mq_156 e.1 e.2 := 
  mc_1 (mk_r (Or.inl ⟨rfl, by decide +kernel, _, rfl, mf_0⟩) rfl) <|
  mc_1 (mk_p (ms_aload_n (k := 0) (by decide +kernel) rfl) rfl) <|
  mc_1 (mk_p (ms_get (idx := 85) (w := 705) (host := none) mx_c11 (by decide) ml_f_LeagueOffice_85 (by decide +kernel)) rfl) <|
  mc_1 (mk_p (ms_iload_n (k := 1) (by decide +kernel) rfl) rfl) <|
  mc_1 (mk_p (ms_iload_n (k := 2) (by decide +kernel) rfl) rfl) <|
  mc_1 (mk_p (ms_iload_n (k := 3) (by decide +kernel) rfl) rfl) <|
  mc_1 (mk_p (ms_iload (by decide +kernel)) rfl) <|
  mc_1 (mk_p (ms_iload (by decide +kernel)) rfl) <|
  mc_1 (mk_c (k := mq_85) rfl ⟨mo_85, 371, 1293, none, ml_m_LeagueOffice_371, Or.inr (Or.inr (Or.inl ⟨7, TX7, 3, by decide, rfl, rfl, (by decide +kernel), ⟨5, rfl, mx_npd (by decide +kernel)⟩, ml_in_1294, ml_se_1295⟩))⟩) <| mc_0
theorem mw_156_7 : ∀ e ∈ mt_156_7, mx_Ok mx_MT mq_156 e.1 e.2 := 
  mc_1 (mk_r (Or.inl ⟨rfl, by decide +kernel, _, rfl, mf_0⟩) rfl) <| mc_0
theorem mw_156 : ∀ ch ∈ mt_156, ∀ e ∈ ch, mx_Ok mx_MT mq_156 e.1 e.2 := mc_2 mw_156_0 <| mc_2 mw_156_1 <| mc_2 mw_156_2 <| mc_2 mw_156_3 <| mc_2 mw_156_4 <| mc_2 mw_156_5 <| mc_2 mw_156_6 <| mc_2 mw_156_7 <| mc_3
/- 157 LeagueOffice.results(IIII)I -/
theorem mw_157_0 : ∀ e ∈ mt_157_0, mx_Ok mx_MT mq_157 e.1 e.2 := 
  mc_1 (mk_p (ms_iload_n (k := 1) (by decide +kernel) rfl) rfl) <|
  mc_1 (mk_p (ms_iconst (n := 4) (by decide +kernel) (by decide +kernel)) rfl) <|
  mc_1 (mk_c (k := mq_160) rfl ⟨mo_160, 118, 736, none, ml_m_LeagueOffice_118, Or.inl ⟨rfl, (by decide +kernel), mx_npd (by decide +kernel), ml_st_737⟩⟩) <|
  mc_1 (mk_p (ms_if_eq (off := (21)) (by decide +kernel) (by decide)) rfl) <|
  mc_1 (mk_p (ms_iload_n (k := 2) (by decide +kernel) rfl) rfl) <|
  mc_1 (mk_p (ms_iconst (n := 3) (by decide +kernel) (by decide +kernel)) rfl) <|
  mc_1 (mk_c (k := mq_160) rfl ⟨mo_160, 118, 736, none, ml_m_LeagueOffice_118, Or.inl ⟨rfl, (by decide +kernel), mx_npd (by decide +kernel), ml_st_737⟩⟩) <|
  mc_1 (mk_p (ms_if_eq (off := (13)) (by decide +kernel) (by decide)) rfl) <| mc_0
theorem mw_157_1 : ∀ e ∈ mt_157_1, mx_Ok mx_MT mq_157 e.1 e.2 := 
  mc_1 (mk_p (ms_iload (by decide +kernel)) rfl) <|
  mc_1 (mk_p (ms_bipush (n := 14) (by decide +kernel) (by decide +kernel)) rfl) <|
  mc_1 (mk_c (k := mq_160) rfl ⟨mo_160, 118, 736, none, ml_m_LeagueOffice_118, Or.inl ⟨rfl, (by decide +kernel), mx_npd (by decide +kernel), ml_st_737⟩⟩) <|
  mc_1 (mk_p (ms_if_ne (off := (6)) (by decide +kernel) (by decide)) rfl) <|
  mc_1 (mk_p (ms_bipush (n := (-2)) (by decide +kernel) (by decide +kernel)) rfl) <|
  mc_1 (mk_r (Or.inl ⟨rfl, by decide +kernel, _, rfl, mf_0⟩) rfl) <|
  mc_1 (mk_p (ms_aload_n (k := 0) (by decide +kernel) rfl) rfl) <|
  mc_1 (mk_p (ms_get (idx := 85) (w := 705) (host := none) mx_c11 (by decide) ml_f_LeagueOffice_85 (by decide +kernel)) rfl) <| mc_0
theorem mw_157_2 : ∀ e ∈ mt_157_2, mx_Ok mx_MT mq_157 e.1 e.2 := 
  mc_1 (mk_p (ms_iload_n (k := 1) (by decide +kernel) rfl) rfl) <|
  mc_1 (mk_c (k := mq_80) rfl ⟨mo_80, 358, 1271, none, ml_m_LeagueOffice_358, Or.inr (Or.inr (Or.inl ⟨7, TX7, 3, by decide, rfl, rfl, (by decide +kernel), ⟨1, rfl, mx_npd (by decide +kernel)⟩, ml_in_1272, ml_se_1273⟩))⟩) <|
  mc_1 (mk_p (ms_if_eq (off := (6)) (by decide +kernel) (by decide)) rfl) <|
  mc_1 (mk_p (ms_bipush (n := (-11)) (by decide +kernel) (by decide +kernel)) rfl) <|
  mc_1 (mk_r (Or.inl ⟨rfl, by decide +kernel, _, rfl, mf_0⟩) rfl) <|
  mc_1 (mk_p (ms_aload_n (k := 0) (by decide +kernel) rfl) rfl) <|
  mc_1 (mk_p (ms_get (idx := 85) (w := 705) (host := none) mx_c11 (by decide) ml_f_LeagueOffice_85 (by decide +kernel)) rfl) <|
  mc_1 (mk_p (ms_iload_n (k := 1) (by decide +kernel) rfl) rfl) <| mc_0
theorem mw_157_3 : ∀ e ∈ mt_157_3, mx_Ok mx_MT mq_157 e.1 e.2 := 
  mc_1 (mk_c (k := mq_81) rfl ⟨mo_81, 368, 1292, none, ml_m_LeagueOffice_368, Or.inr (Or.inr (Or.inl ⟨7, TX7, 3, by decide, rfl, rfl, (by decide +kernel), ⟨1, rfl, mx_npd (by decide +kernel)⟩, ml_in_1285, ml_se_1286⟩))⟩) <|
  mc_1 (mk_p (ms_iload_n (k := 2) (by decide +kernel) rfl) rfl) <|
  mc_1 (mk_p (ms_icmp_eq (off := (6)) (by decide +kernel) (by decide)) rfl) <|
  mc_1 (mk_p (ms_bipush (n := (-13)) (by decide +kernel) (by decide +kernel)) rfl) <|
  mc_1 (mk_r (Or.inl ⟨rfl, by decide +kernel, _, rfl, mf_0⟩) rfl) <|
  mc_1 (mk_p (ms_iconst (n := 0) (by decide +kernel) (by decide +kernel)) rfl) <|
  mc_1 (mk_p (ms_istore (by decide +kernel) (by decide)) rfl) <|
  mc_1 (mk_p (ms_iload_n (k := 3) (by decide +kernel) rfl) rfl) <|
  mc_1 (mk_p (ms_istore (by decide +kernel) (by decide)) rfl) <| mc_0
theorem mw_157_4 : ∀ e ∈ mt_157_4, mx_Ok mx_MT mq_157 e.1 e.2 := 
  mc_1 (mk_p (ms_iconst (n := 0) (by decide +kernel) (by decide +kernel)) rfl) <|
  mc_1 (mk_p (ms_istore (by decide +kernel) (by decide)) rfl) <|
  mc_1 (mk_p (ms_iload (by decide +kernel)) rfl) <|
  mc_1 (mk_p (ms_iload (by decide +kernel)) rfl) <|
  mc_1 (mk_p (ms_icmp_ge (off := (77)) (by decide +kernel) (by decide)) rfl) <|
  mc_1 (mk_p (ms_aload_n (k := 0) (by decide +kernel) rfl) rfl) <|
  mc_1 (mk_p (ms_get (idx := 85) (w := 705) (host := none) mx_c11 (by decide) ml_f_LeagueOffice_85 (by decide +kernel)) rfl) <|
  mc_1 (mk_p (ms_iload_n (k := 1) (by decide +kernel) rfl) rfl) <|
  mc_1 (mk_p (ms_iload (by decide +kernel)) rfl) <| mc_0
theorem mw_157_5 : ∀ e ∈ mt_157_5, mx_Ok mx_MT mq_157 e.1 e.2 := 
  mc_1 (mk_p (ms_iconst (n := 3) (by decide +kernel) (by decide +kernel)) rfl) <|
  mc_1 (mk_c (k := mq_82) rfl ⟨mo_82, 361, 1276, none, ml_m_LeagueOffice_361, Or.inr (Or.inr (Or.inl ⟨7, TX7, 3, by decide, rfl, rfl, (by decide +kernel), ⟨3, rfl, mx_npd (by decide +kernel)⟩, ml_in_1277, ml_se_1278⟩))⟩) <|
  mc_1 (mk_p (ms_if_ne (off := (6)) (by decide +kernel) (by decide)) rfl) <|
  mc_1 (mk_p (ms_bipush (n := (-12)) (by decide +kernel) (by decide +kernel)) rfl) <|
  mc_1 (mk_r (Or.inl ⟨rfl, by decide +kernel, _, rfl, mf_0⟩) rfl) <|
  mc_1 (mk_p (ms_aload_n (k := 0) (by decide +kernel) rfl) rfl) <|
  mc_1 (mk_p (ms_aload_n (k := 0) (by decide +kernel) rfl) rfl) <|
  mc_1 (mk_p (ms_get (idx := 85) (w := 705) (host := none) mx_c11 (by decide) ml_f_LeagueOffice_85 (by decide +kernel)) rfl) <| mc_0
theorem mw_157_6 : ∀ e ∈ mt_157_6, mx_Ok mx_MT mq_157 e.1 e.2 := 
  mc_1 (mk_p (ms_iload_n (k := 1) (by decide +kernel) rfl) rfl) <|
  mc_1 (mk_p (ms_iload (by decide +kernel)) rfl) <|
  mc_1 (mk_c (k := mq_83) rfl ⟨mo_83, 375, 1305, none, ml_m_LeagueOffice_375, Or.inr (Or.inr (Or.inl ⟨7, TX7, 3, by decide, rfl, rfl, (by decide +kernel), ⟨2, rfl, mx_npd (by decide +kernel)⟩, ml_in_1306, ml_se_1307⟩))⟩) <|
  mc_1 (mk_p (ms_aload_n (k := 0) (by decide +kernel) rfl) rfl) <|
  mc_1 (mk_p (ms_get (idx := 85) (w := 705) (host := none) mx_c11 (by decide) ml_f_LeagueOffice_85 (by decide +kernel)) rfl) <|
  mc_1 (mk_p (ms_iload_n (k := 1) (by decide +kernel) rfl) rfl) <|
  mc_1 (mk_p (ms_iload (by decide +kernel)) rfl) <|
  mc_1 (mk_p (ms_iconst (n := 1) (by decide +kernel) (by decide +kernel)) rfl) <|
  mc_1 (mk_p (ms_iadd (by decide +kernel)) rfl) <|
  mc_1 (mk_c (k := mq_83) rfl ⟨mo_83, 375, 1305, none, ml_m_LeagueOffice_375, Or.inr (Or.inr (Or.inl ⟨7, TX7, 3, by decide, rfl, rfl, (by decide +kernel), ⟨2, rfl, mx_npd (by decide +kernel)⟩, ml_in_1306, ml_se_1307⟩))⟩) <| mc_0
theorem mw_157_7 : ∀ e ∈ mt_157_7, mx_Ok mx_MT mq_157 e.1 e.2 := 
  mc_1 (mk_p (ms_aload_n (k := 0) (by decide +kernel) rfl) rfl) <|
  mc_1 (mk_p (ms_get (idx := 85) (w := 705) (host := none) mx_c11 (by decide) ml_f_LeagueOffice_85 (by decide +kernel)) rfl) <|
  mc_1 (mk_p (ms_iload_n (k := 1) (by decide +kernel) rfl) rfl) <|
  mc_1 (mk_p (ms_iload (by decide +kernel)) rfl) <|
  mc_1 (mk_p (ms_iconst (n := 2) (by decide +kernel) (by decide +kernel)) rfl) <|
  mc_1 (mk_p (ms_iadd (by decide +kernel)) rfl) <|
  mc_1 (mk_c (k := mq_83) rfl ⟨mo_83, 375, 1305, none, ml_m_LeagueOffice_375, Or.inr (Or.inr (Or.inl ⟨7, TX7, 3, by decide, rfl, rfl, (by decide +kernel), ⟨2, rfl, mx_npd (by decide +kernel)⟩, ml_in_1306, ml_se_1307⟩))⟩) <|
  mc_1 (mk_c (k := mq_159) rfl ⟨mo_159, 179, 798, none, ml_m_LeagueOffice_179, Or.inr (Or.inr (Or.inl ⟨11, TX11, 10, by decide, rfl, rfl, (by decide +kernel), ⟨3, rfl, mx_npd (by decide +kernel)⟩, ml_in_800, ml_se_13⟩))⟩) <| mc_0
theorem mw_157_8 : ∀ e ∈ mt_157_8, mx_Ok mx_MT mq_157 e.1 e.2 := 
  mc_1 (mk_p (ms_istore (by decide +kernel) (by decide)) rfl) <|
  mc_1 (mk_p (ms_iload (by decide +kernel)) rfl) <|
  mc_1 (mk_p (ms_if_lt (off := (6)) (by decide +kernel) (by decide)) rfl) <|
  mc_1 (mk_p (ms_iinc (n := (1)) (by decide +kernel) (by decide +kernel) (by decide)) rfl) <|
  mc_1 (mk_p (ms_iinc (n := (3)) (by decide +kernel) (by decide +kernel) (by decide)) rfl) <|
  mc_1 (mk_p (ms_iinc (n := (1)) (by decide +kernel) (by decide +kernel) (by decide)) rfl) <| mc_0
theorem mw_157_9 : ∀ e ∈ mt_157_9, mx_Ok mx_MT mq_157 e.1 e.2 := 
  mc_1 (mk_p (ms_goto (off := (-78)) (by decide +kernel) (by decide)) rfl) <|
  mc_1 (mk_p (ms_iload (by decide +kernel)) rfl) <|
  mc_1 (mk_r (Or.inl ⟨rfl, by decide +kernel, _, rfl, mf_0⟩) rfl) <| mc_0
theorem mw_157 : ∀ ch ∈ mt_157, ∀ e ∈ ch, mx_Ok mx_MT mq_157 e.1 e.2 := mc_2 mw_157_0 <| mc_2 mw_157_1 <| mc_2 mw_157_2 <| mc_2 mw_157_3 <| mc_2 mw_157_4 <| mc_2 mw_157_5 <| mc_2 mw_157_6 <| mc_2 mw_157_7 <| mc_2 mw_157_8 <| mc_2 mw_157_9 <| mc_3
/- 158 LeagueOffice.taken(II)I -/
theorem mw_158_0 : ∀ e ∈ mt_158_0, mx_Ok mx_MT mq_158 e.1 e.2 := 
  mc_1 (mk_p (ms_iload_n (k := 2) (by decide +kernel) rfl) rfl) <|
  mc_1 (mk_p (ms_bipush (n := 6) (by decide +kernel) (by decide +kernel)) rfl) <|
  mc_1 (mk_c (k := mq_160) rfl ⟨mo_160, 118, 736, none, ml_m_LeagueOffice_118, Or.inl ⟨rfl, (by decide +kernel), mx_npd (by decide +kernel), ml_st_737⟩⟩) <|
  mc_1 (mk_p (ms_if_ne (off := (6)) (by decide +kernel) (by decide)) rfl) <|
  mc_1 (mk_p (ms_bipush (n := (-2)) (by decide +kernel) (by decide +kernel)) rfl) <|
  mc_1 (mk_r (Or.inl ⟨rfl, by decide +kernel, _, rfl, mf_0⟩) rfl) <|
  mc_1 (mk_p (ms_aload_n (k := 0) (by decide +kernel) rfl) rfl) <|
  mc_1 (mk_p (ms_get (idx := 12) (w := 696) (host := none) mx_c11 (by decide) ml_f_LeagueOffice_12 (by decide +kernel)) rfl) <| mc_0
theorem mw_158_1 : ∀ e ∈ mt_158_1, mx_Ok mx_MT mq_158 e.1 e.2 := 
  mc_1 (mk_p (ms_iload_n (k := 1) (by decide +kernel) rfl) rfl) <|
  mc_1 (mk_c (k := mq_2) rfl ⟨mo_2, 150, 779, none, ml_m_LeagueOffice_150, Or.inr (Or.inr (Or.inl ⟨0, TX0, 12, by decide, rfl, rfl, (by decide +kernel), ⟨1, rfl, mx_npd (by decide +kernel)⟩, ml_in_780, ml_se_781⟩))⟩) <|
  mc_1 (mk_p (ms_if_ne (off := (6)) (by decide +kernel) (by decide)) rfl) <|
  mc_1 (mk_p (ms_bipush (n := (-11)) (by decide +kernel) (by decide +kernel)) rfl) <|
  mc_1 (mk_r (Or.inl ⟨rfl, by decide +kernel, _, rfl, mf_0⟩) rfl) <|
  mc_1 (mk_p (ms_aload_n (k := 0) (by decide +kernel) rfl) rfl) <|
  mc_1 (mk_p (ms_get (idx := 12) (w := 696) (host := none) mx_c11 (by decide) ml_f_LeagueOffice_12 (by decide +kernel)) rfl) <|
  mc_1 (mk_p (ms_get (idx := 143) (w := 147) (host := (some "LeagueOffice")) mx_c0 (by decide) ml_f_LeagueOffice_143 (by decide +kernel)) rfl) <| mc_0
theorem mw_158_2 : ∀ e ∈ mt_158_2, mx_Ok mx_MT mq_158 e.1 e.2 := 
  mc_1 (mk_p (ms_iload_n (k := 1) (by decide +kernel) rfl) rfl) <|
  mc_1 (mk_c (k := mq_68) rfl ⟨mo_68, 136, 755, none, ml_m_LeagueOffice_136, Or.inr (Or.inr (Or.inl ⟨6, TX6, 2, by decide, rfl, rfl, (by decide +kernel), ⟨1, rfl, mx_npd (by decide +kernel)⟩, ml_in_591, ml_se_592⟩))⟩) <|
  mc_1 (mk_p (ms_iload_n (k := 2) (by decide +kernel) rfl) rfl) <|
  mc_1 (mk_c (k := mq_162) rfl ⟨mo_162, 378, 1313, none, ml_m_LeagueOffice_378, Or.inl ⟨rfl, (by decide +kernel), mx_npd (by decide +kernel), ml_st_890⟩⟩) <|
  mc_1 (mk_p (ms_if_eq (off := (17)) (by decide +kernel) (by decide)) rfl) <|
  mc_1 (mk_p (ms_aload_n (k := 0) (by decide +kernel) rfl) rfl) <|
  mc_1 (mk_p (ms_get (idx := 12) (w := 696) (host := none) mx_c11 (by decide) ml_f_LeagueOffice_12 (by decide +kernel)) rfl) <| mc_0
theorem mw_158_3 : ∀ e ∈ mt_158_3, mx_Ok mx_MT mq_158 e.1 e.2 := 
  mc_1 (mk_p (ms_get (idx := 159) (w := 168) (host := (some "LeagueOffice")) mx_c0 (by decide) ml_f_LeagueOffice_159 (by decide +kernel)) rfl) <|
  mc_1 (mk_p (ms_iload_n (k := 1) (by decide +kernel) rfl) rfl) <|
  mc_1 (mk_c (k := mq_68) rfl ⟨mo_68, 136, 755, none, ml_m_LeagueOffice_136, Or.inr (Or.inr (Or.inl ⟨6, TX6, 2, by decide, rfl, rfl, (by decide +kernel), ⟨1, rfl, mx_npd (by decide +kernel)⟩, ml_in_591, ml_se_592⟩))⟩) <|
  mc_1 (mk_p (ms_goto (off := (5)) (by decide +kernel) (by decide)) rfl) <|
  mc_1 (mk_p (ms_bipush (n := (-13)) (by decide +kernel) (by decide +kernel)) rfl) <|
  mc_1 (mk_r (Or.inl ⟨rfl, by decide +kernel, _, rfl, mf_0⟩) rfl) <| mc_0
theorem mw_158 : ∀ ch ∈ mt_158, ∀ e ∈ ch, mx_Ok mx_MT mq_158 e.1 e.2 := mc_2 mw_158_0 <| mc_2 mw_158_1 <| mc_2 mw_158_2 <| mc_2 mw_158_3 <| mc_3
/- 159 LeagueOffice.tellResult(III)I -/
theorem mw_159_0 : ∀ e ∈ mt_159_0, mx_Ok mx_MT mq_159 e.1 e.2 := 
  mc_1 (mk_p (ms_aload_n (k := 0) (by decide +kernel) rfl) rfl) <|
  mc_1 (mk_p (ms_get (idx := 12) (w := 696) (host := none) mx_c11 (by decide) ml_f_LeagueOffice_12 (by decide +kernel)) rfl) <|
  mc_1 (mk_p (ms_iload_n (k := 1) (by decide +kernel) rfl) rfl) <|
  mc_1 (mk_c (k := mq_2) rfl ⟨mo_2, 150, 779, none, ml_m_LeagueOffice_150, Or.inr (Or.inr (Or.inl ⟨0, TX0, 12, by decide, rfl, rfl, (by decide +kernel), ⟨1, rfl, mx_npd (by decide +kernel)⟩, ml_in_780, ml_se_781⟩))⟩) <|
  mc_1 (mk_p (ms_if_eq (off := (21)) (by decide +kernel) (by decide)) rfl) <|
  mc_1 (mk_p (ms_iload_n (k := 2) (by decide +kernel) rfl) rfl) <|
  mc_1 (mk_p (ms_bipush (n := 31) (by decide +kernel) (by decide +kernel)) rfl) <|
  mc_1 (mk_c (k := mq_160) rfl ⟨mo_160, 118, 736, none, ml_m_LeagueOffice_118, Or.inl ⟨rfl, (by decide +kernel), mx_npd (by decide +kernel), ml_st_737⟩⟩) <| mc_0
theorem mw_159_1 : ∀ e ∈ mt_159_1, mx_Ok mx_MT mq_159 e.1 e.2 := 
  mc_1 (mk_p (ms_if_eq (off := (12)) (by decide +kernel) (by decide)) rfl) <|
  mc_1 (mk_p (ms_iload_n (k := 3) (by decide +kernel) rfl) rfl) <|
  mc_1 (mk_p (ms_bipush (n := 31) (by decide +kernel) (by decide +kernel)) rfl) <|
  mc_1 (mk_c (k := mq_160) rfl ⟨mo_160, 118, 736, none, ml_m_LeagueOffice_118, Or.inl ⟨rfl, (by decide +kernel), mx_npd (by decide +kernel), ml_st_737⟩⟩) <|
  mc_1 (mk_p (ms_if_ne (off := (6)) (by decide +kernel) (by decide)) rfl) <|
  mc_1 (mk_p (ms_bipush (n := (-2)) (by decide +kernel) (by decide +kernel)) rfl) <|
  mc_1 (mk_r (Or.inl ⟨rfl, by decide +kernel, _, rfl, mf_0⟩) rfl) <| mc_0
theorem mw_159_2 : ∀ e ∈ mt_159_2, mx_Ok mx_MT mq_159 e.1 e.2 := 
  mc_1 (mk_p (ms_aload_n (k := 0) (by decide +kernel) rfl) rfl) <|
  mc_1 (mk_p (ms_get (idx := 12) (w := 696) (host := none) mx_c11 (by decide) ml_f_LeagueOffice_12 (by decide +kernel)) rfl) <|
  mc_1 (mk_p (ms_get (idx := 159) (w := 168) (host := (some "LeagueOffice")) mx_c0 (by decide) ml_f_LeagueOffice_159 (by decide +kernel)) rfl) <|
  mc_1 (mk_p (ms_iload_n (k := 1) (by decide +kernel) rfl) rfl) <|
  mc_1 (mk_c (k := mq_68) rfl ⟨mo_68, 136, 755, none, ml_m_LeagueOffice_136, Or.inr (Or.inr (Or.inl ⟨6, TX6, 2, by decide, rfl, rfl, (by decide +kernel), ⟨1, rfl, mx_npd (by decide +kernel)⟩, ml_in_591, ml_se_592⟩))⟩) <|
  mc_1 (mk_p (ms_aload_n (k := 0) (by decide +kernel) rfl) rfl) <|
  mc_1 (mk_p (ms_get (idx := 12) (w := 696) (host := none) mx_c11 (by decide) ml_f_LeagueOffice_12 (by decide +kernel)) rfl) <|
  mc_1 (mk_p (ms_get (idx := 114) (w := 131) (host := (some "LeagueOffice")) mx_c0 (by decide) ml_f_LeagueOffice_114 (by decide +kernel)) rfl) <| mc_0
theorem mw_159_3 : ∀ e ∈ mt_159_3, mx_Ok mx_MT mq_159 e.1 e.2 := 
  mc_1 (mk_p (ms_icmp_le (off := (6)) (by decide +kernel) (by decide)) rfl) <|
  mc_1 (mk_p (ms_bipush (n := (-3)) (by decide +kernel) (by decide +kernel)) rfl) <|
  mc_1 (mk_r (Or.inl ⟨rfl, by decide +kernel, _, rfl, mf_0⟩) rfl) <|
  mc_1 (mk_p (ms_aload_n (k := 0) (by decide +kernel) rfl) rfl) <|
  mc_1 (mk_p (ms_get (idx := 12) (w := 696) (host := none) mx_c11 (by decide) ml_f_LeagueOffice_12 (by decide +kernel)) rfl) <|
  mc_1 (mk_p (ms_get (idx := 347) (w := 173) (host := (some "LeagueOffice")) mx_c0 (by decide) ml_f_LeagueOffice_347 (by decide +kernel)) rfl) <|
  mc_1 (mk_c (k := mq_66) rfl ⟨mo_66, 125, 739, none, ml_m_LeagueOffice_125, Or.inr (Or.inr (Or.inl ⟨6, TX6, 2, by decide, rfl, rfl, (by decide +kernel), ⟨0, rfl, mx_npd (by decide +kernel)⟩, ml_in_740, ml_se_741⟩))⟩) <| mc_0
theorem mw_159_4 : ∀ e ∈ mt_159_4, mx_Ok mx_MT mq_159 e.1 e.2 := 
  mc_1 (mk_p (ms_if_eq (off := (6)) (by decide +kernel) (by decide)) rfl) <|
  mc_1 (mk_p (ms_bipush (n := (-4)) (by decide +kernel) (by decide +kernel)) rfl) <|
  mc_1 (mk_r (Or.inl ⟨rfl, by decide +kernel, _, rfl, mf_0⟩) rfl) <|
  mc_1 (mk_p (ms_aload_n (k := 0) (by decide +kernel) rfl) rfl) <|
  mc_1 (mk_p (ms_get (idx := 12) (w := 696) (host := none) mx_c11 (by decide) ml_f_LeagueOffice_12 (by decide +kernel)) rfl) <|
  mc_1 (mk_p (ms_iload_n (k := 1) (by decide +kernel) rfl) rfl) <|
  mc_1 (mk_p (ms_iload_n (k := 2) (by decide +kernel) rfl) rfl) <|
  mc_1 (mk_p (ms_iload_n (k := 3) (by decide +kernel) rfl) rfl) <|
  mc_1 (mk_c (k := mq_10) rfl ⟨mo_10, 381, 802, none, ml_m_LeagueOffice_381, Or.inr (Or.inr (Or.inl ⟨0, TX0, 12, by decide, rfl, rfl, (by decide +kernel), ⟨3, rfl, mx_npd (by decide +kernel)⟩, ml_in_803, ml_se_804⟩))⟩) <| mc_0
theorem mw_159_5 : ∀ e ∈ mt_159_5, mx_Ok mx_MT mq_159 e.1 e.2 := 
  mc_1 (mk_r (Or.inl ⟨rfl, by decide +kernel, _, rfl, mf_0⟩) rfl) <| mc_0
theorem mw_159 : ∀ ch ∈ mt_159, ∀ e ∈ ch, mx_Ok mx_MT mq_159 e.1 e.2 := mc_2 mw_159_0 <| mc_2 mw_159_1 <| mc_2 mw_159_2 <| mc_2 mw_159_3 <| mc_2 mw_159_4 <| mc_2 mw_159_5 <| mc_3
/- 160 LeagueOffice.inside(II)Z -/
theorem mw_160_0 : ∀ e ∈ mt_160_0, mx_Ok mx_MT mq_160 e.1 e.2 := 
  mc_1 (mk_p (ms_iload_n (k := 0) (by decide +kernel) rfl) rfl) <|
  mc_1 (mk_p (ms_if_lt (off := (12)) (by decide +kernel) (by decide)) rfl) <|
  mc_1 (mk_p (ms_iload_n (k := 0) (by decide +kernel) rfl) rfl) <|
  mc_1 (mk_p (ms_iload_n (k := 1) (by decide +kernel) rfl) rfl) <|
  mc_1 (mk_p (ms_icmp_ge (off := (7)) (by decide +kernel) (by decide)) rfl) <|
  mc_1 (mk_p (ms_iconst (n := 1) (by decide +kernel) (by decide +kernel)) rfl) <|
  mc_1 (mk_p (ms_goto (off := (4)) (by decide +kernel) (by decide)) rfl) <|
  mc_1 (mk_p (ms_iconst (n := 0) (by decide +kernel) (by decide +kernel)) rfl) <|
  mc_1 (mk_r (Or.inl ⟨rfl, by decide +kernel, _, rfl, mf_2⟩) rfl) <| mc_0
theorem mw_160 : ∀ ch ∈ mt_160, ∀ e ∈ ch, mx_Ok mx_MT mq_160 e.1 e.2 := mc_2 mw_160_0 <| mc_3
/- 161 LeagueOffice.ofKind([II)I -/
theorem mw_161_0 : ∀ e ∈ mt_161_0, mx_Ok mx_MT mq_161 e.1 e.2 := 
  mc_1 (mk_p (ms_iload_n (k := 1) (by decide +kernel) rfl) rfl) <|
  mc_1 (mk_p (ms_if_lt (off := (15)) (by decide +kernel) (by decide)) rfl) <|
  mc_1 (mk_p (ms_iload_n (k := 1) (by decide +kernel) rfl) rfl) <|
  mc_1 (mk_p (ms_aload_n (k := 0) (by decide +kernel) rfl) rfl) <|
  mc_1 (mk_p (ms_alen (by decide +kernel)) rfl) <|
  mc_1 (mk_p (ms_icmp_ge (off := (9)) (by decide +kernel) (by decide)) rfl) <|
  mc_1 (mk_p (ms_aload_n (k := 0) (by decide +kernel) rfl) rfl) <|
  mc_1 (mk_p (ms_iload_n (k := 1) (by decide +kernel) rfl) rfl) <|
  mc_1 (mk_p (ms_ald (Or.inl ⟨rfl, by decide +kernel⟩)) rfl) <|
  mc_1 (mk_p (ms_goto (off := (4)) (by decide +kernel) (by decide)) rfl) <| mc_0
theorem mw_161_1 : ∀ e ∈ mt_161_1, mx_Ok mx_MT mq_161 e.1 e.2 := 
  mc_1 (mk_p (ms_iconst (n := 0) (by decide +kernel) (by decide +kernel)) rfl) <|
  mc_1 (mk_r (Or.inl ⟨rfl, by decide +kernel, _, rfl, mf_0⟩) rfl) <| mc_0
theorem mw_161 : ∀ ch ∈ mt_161, ∀ e ∈ ch, mx_Ok mx_MT mq_161 e.1 e.2 := mc_2 mw_161_0 <| mc_2 mw_161_1 <| mc_3
/- 162 LeagueOffice.isUnder(II)Z -/
theorem mw_162_0 : ∀ e ∈ mt_162_0, mx_Ok mx_MT mq_162 e.1 e.2 := 
  mc_1 (mk_p (ms_iload_n (k := 0) (by decide +kernel) rfl) rfl) <|
  mc_1 (mk_p (ms_istore_n (k := 2) (by decide +kernel) rfl (by decide)) rfl) <|
  mc_1 (mk_p (ms_iconst (n := 0) (by decide +kernel) (by decide +kernel)) rfl) <|
  mc_1 (mk_p (ms_istore_n (k := 3) (by decide +kernel) rfl (by decide)) rfl) <|
  mc_1 (mk_p (ms_iload_n (k := 3) (by decide +kernel) rfl) rfl) <|
  mc_1 (mk_p (ms_bipush (n := 6) (by decide +kernel) (by decide +kernel)) rfl) <|
  mc_1 (mk_p (ms_icmp_ge (off := (28)) (by decide +kernel) (by decide)) rfl) <|
  mc_1 (mk_p (ms_iload_n (k := 2) (by decide +kernel) rfl) rfl) <|
  mc_1 (mk_p (ms_if_lt (off := (24)) (by decide +kernel) (by decide)) rfl) <|
  mc_1 (mk_p (ms_iload_n (k := 2) (by decide +kernel) rfl) rfl) <|
  mc_1 (mk_p (ms_iload_n (k := 1) (by decide +kernel) rfl) rfl) <| mc_0
theorem mw_162_1 : ∀ e ∈ mt_162_1, mx_Ok mx_MT mq_162 e.1 e.2 := 
  mc_1 (mk_p (ms_icmp_ne (off := (5)) (by decide +kernel) (by decide)) rfl) <|
  mc_1 (mk_p (ms_iconst (n := 1) (by decide +kernel) (by decide +kernel)) rfl) <|
  mc_1 (mk_r (Or.inl ⟨rfl, by decide +kernel, _, rfl, mf_2⟩) rfl) <|
  mc_1 (mk_p (ms_gets (q := ("LeagueOffice", "UNDER", "[I", .ref 1004)) (idx := 384) (w := 892) (host := none) rfl ml_f_LeagueOffice_384 (by decide +kernel)) rfl) <|
  mc_1 (mk_p (ms_iload_n (k := 2) (by decide +kernel) rfl) rfl) <|
  mc_1 (mk_c (k := mq_161) rfl ⟨mo_161, 166, 785, none, ml_m_LeagueOffice_166, Or.inl ⟨rfl, (by decide +kernel), mx_npd (by decide +kernel), ml_st_786⟩⟩) <|
  mc_1 (mk_p (ms_istore_n (k := 2) (by decide +kernel) rfl (by decide)) rfl) <|
  mc_1 (mk_p (ms_iinc (n := (1)) (by decide +kernel) (by decide +kernel) (by decide)) rfl) <| mc_0
theorem mw_162_2 : ∀ e ∈ mt_162_2, mx_Ok mx_MT mq_162 e.1 e.2 := 
  mc_1 (mk_p (ms_goto (off := (-28)) (by decide +kernel) (by decide)) rfl) <|
  mc_1 (mk_p (ms_iconst (n := 0) (by decide +kernel) (by decide +kernel)) rfl) <|
  mc_1 (mk_r (Or.inl ⟨rfl, by decide +kernel, _, rfl, mf_2⟩) rfl) <| mc_0
theorem mw_162 : ∀ ch ∈ mt_162, ∀ e ∈ ch, mx_Ok mx_MT mq_162 e.1 e.2 := mc_2 mw_162_0 <| mc_2 mw_162_1 <| mc_2 mw_162_2 <| mc_3
/- 163 LeagueOfficeModel.in(III)Z -/
theorem mw_163_0 : ∀ e ∈ mt_163_0, mx_Ok mx_MT mq_163 e.1 e.2 := 
  mc_1 (mk_p (ms_iload_n (k := 0) (by decide +kernel) rfl) rfl) <|
  mc_1 (mk_p (ms_iload_n (k := 1) (by decide +kernel) rfl) rfl) <|
  mc_1 (mk_p (ms_icmp_lt (off := (12)) (by decide +kernel) (by decide)) rfl) <|
  mc_1 (mk_p (ms_iload_n (k := 0) (by decide +kernel) rfl) rfl) <|
  mc_1 (mk_p (ms_iload_n (k := 2) (by decide +kernel) rfl) rfl) <|
  mc_1 (mk_p (ms_icmp_gt (off := (7)) (by decide +kernel) (by decide)) rfl) <|
  mc_1 (mk_p (ms_iconst (n := 1) (by decide +kernel) (by decide +kernel)) rfl) <|
  mc_1 (mk_p (ms_goto (off := (4)) (by decide +kernel) (by decide)) rfl) <|
  mc_1 (mk_p (ms_iconst (n := 0) (by decide +kernel) (by decide +kernel)) rfl) <|
  mc_1 (mk_r (Or.inl ⟨rfl, by decide +kernel, _, rfl, mf_2⟩) rfl) <| mc_0
theorem mw_163 : ∀ ch ∈ mt_163, ∀ e ∈ ch, mx_Ok mx_MT mq_163 e.1 e.2 := mc_2 mw_163_0 <| mc_3
/- 164 LeagueOfficeModel.isDay(I)Z -/
theorem mw_164_0 : ∀ e ∈ mt_164_0, mx_Ok mx_MT mq_164 e.1 e.2 := 
  mc_1 (mk_p (ms_iload_n (k := 0) (by decide +kernel) rfl) rfl) <|
  mc_1 (mk_p (ms_iconst (n := 0) (by decide +kernel) (by decide +kernel)) rfl) <|
  mc_1 (mk_p (ms_sipush (n := 399) (by decide +kernel) (by decide +kernel)) rfl) <|
  mc_1 (mk_c (k := mq_163) rfl ⟨mo_163, 7, 1318, none, ml_m_LeagueOfficeModel_7, Or.inl ⟨rfl, (by decide +kernel), mx_npd (by decide +kernel), ml_st_1319⟩⟩) <|
  mc_1 (mk_r (Or.inl ⟨rfl, by decide +kernel, _, rfl, mf_2⟩) rfl) <| mc_0
theorem mw_164 : ∀ ch ∈ mt_164, ∀ e ∈ ch, mx_Ok mx_MT mq_164 e.1 e.2 := mc_2 mw_164_0 <| mc_3
