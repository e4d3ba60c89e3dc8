/-! THE CONTRACTS HOLD: printed by wip/sxp.py -/
set_option maxRecDepth 100000 in
theorem sq_60 : (sx_wf sk_60 && sx_chk sj_P sk_CT 3000 sk_60) = true := by decide +kernel
set_option maxRecDepth 100000 in
theorem sq_61 : (sx_wf sk_61 && sx_chk sj_P sk_CT 3000 sk_61) = true := by decide +kernel
set_option maxRecDepth 100000 in
theorem sq_62 : (sx_wf sk_62 && sx_chk sj_P sk_CT 3000 sk_62) = true := by decide +kernel
set_option maxRecDepth 100000 in
theorem sq_63 : (sx_wf sk_63 && sx_chk sj_P sk_CT 3000 sk_63) = true := by decide +kernel
set_option maxRecDepth 100000 in
theorem sq_64 : (sx_wf sk_64 && sx_chk sj_P sk_CT 3000 sk_64) = true := by decide +kernel
set_option maxRecDepth 100000 in
theorem sq_65 : (sx_wf sk_65 && sx_chk sj_P sk_CT 3000 sk_65) = true := by decide +kernel
set_option maxRecDepth 100000 in
theorem sq_66 : (sx_wf sk_66 && sx_chk sj_P sk_CT 3000 sk_66) = true := by decide +kernel
set_option maxRecDepth 100000 in
theorem sq_67 : (sx_wf sk_67 && sx_chk sj_P sk_CT 3000 sk_67) = true := by decide +kernel
set_option maxRecDepth 100000 in
theorem sq_68 : (sx_wf sk_68 && sx_chk sj_P sk_CT 3000 sk_68) = true := by decide +kernel
set_option maxRecDepth 100000 in
theorem sq_69 : (sx_wf sk_69 && sx_chk sj_P sk_CT 3000 sk_69) = true := by decide +kernel
set_option maxRecDepth 100000 in
theorem sq_70 : (sx_wf sk_70 && sx_chk sj_P sk_CT 3000 sk_70) = true := by decide +kernel
set_option maxRecDepth 100000 in
theorem sq_71 : (sx_wf sk_71 && sx_chk sj_P sk_CT 3000 sk_71) = true := by decide +kernel
set_option maxRecDepth 100000 in
theorem sq_72 : (sx_wf sk_72 && sx_chk sj_P sk_CT 3000 sk_72) = true := by decide +kernel
set_option maxRecDepth 100000 in
theorem sq_73 : (sx_wf sk_73 && sx_chk sj_P sk_CT 3000 sk_73) = true := by decide +kernel
set_option maxRecDepth 100000 in
theorem sq_74 : (sx_wf sk_74 && sx_chk sj_P sk_CT 3000 sk_74) = true := by decide +kernel
set_option maxRecDepth 100000 in
theorem sq_75 : (sx_wf sk_75 && sx_chk sj_P sk_CT 3000 sk_75) = true := by decide +kernel
set_option maxRecDepth 100000 in
theorem sq_76 : (sx_wf sk_76 && sx_chk sj_P sk_CT 3000 sk_76) = true := by decide +kernel
set_option maxRecDepth 100000 in
theorem sq_77 : (sx_wf sk_77 && sx_chk sj_P sk_CT 3000 sk_77) = true := by decide +kernel
set_option maxRecDepth 100000 in
theorem sq_78 : (sx_wf sk_78 && sx_chk sj_P sk_CT 3000 sk_78) = true := by decide +kernel
set_option maxRecDepth 100000 in
theorem sq_79 : (sx_wf sk_79 && sx_chk sj_P sk_CT 3000 sk_79) = true := by decide +kernel
