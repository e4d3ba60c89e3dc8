/-! THE CONTRACTS HOLD: printed by wip/sxp.py -/
set_option maxRecDepth 100000 in
theorem sq_80 : (sx_wf sk_80 && sx_chk sj_P sk_CT 3000 sk_80) = true := by decide +kernel
set_option maxRecDepth 100000 in
theorem sq_81 : (sx_wf sk_81 && sx_chk sj_P sk_CT 3000 sk_81) = true := by decide +kernel
set_option maxRecDepth 100000 in
theorem sq_82 : (sx_wf sk_82 && sx_chk sj_P sk_CT 3000 sk_82) = true := by decide +kernel
set_option maxRecDepth 100000 in
theorem sq_83 : (sx_wf sk_83 && sx_chk sj_P sk_CT 3000 sk_83) = true := by decide +kernel
set_option maxRecDepth 100000 in
theorem sq_84 : (sx_wf sk_84 && sx_chk sj_P sk_CT 3000 sk_84) = true := by decide +kernel
set_option maxRecDepth 100000 in
theorem sq_85 : (sx_wf sk_85 && sx_chk sj_P sk_CT 3000 sk_85) = true := by decide +kernel
set_option maxRecDepth 100000 in
theorem sq_86 : (sx_wf sk_86 && sx_chk sj_P sk_CT 3000 sk_86) = true := by decide +kernel
set_option maxRecDepth 100000 in
theorem sq_87 : (sx_wf sk_87 && sx_chk sj_P sk_CT 3000 sk_87) = true := by decide +kernel
set_option maxRecDepth 100000 in
theorem sq_88 : (sx_wf sk_88 && sx_chk sj_P sk_CT 3000 sk_88) = true := by decide +kernel
set_option maxRecDepth 100000 in
theorem sq_89 : (sx_wf sk_89 && sx_chk sj_P sk_CT 3000 sk_89) = true := by decide +kernel
set_option maxRecDepth 100000 in
theorem sq_90 : (sx_wf sk_90 && sx_chk sj_P sk_CT 3000 sk_90) = true := by decide +kernel
set_option maxRecDepth 100000 in
theorem sq_91 : (sx_wf sk_91 && sx_chk sj_P sk_CT 3000 sk_91) = true := by decide +kernel
set_option maxRecDepth 100000 in
theorem sq_92 : (sx_wf sk_92 && sx_chk sj_P sk_CT 3000 sk_92) = true := by decide +kernel
set_option maxRecDepth 100000 in
theorem sq_93 : (sx_wf sk_93 && sx_chk sj_P sk_CT 3000 sk_93) = true := by decide +kernel
set_option maxRecDepth 100000 in
theorem sq_94 : (sx_wf sk_94 && sx_chk sj_P sk_CT 3000 sk_94) = true := by decide +kernel
set_option maxRecDepth 100000 in
theorem sq_95 : (sx_wf sk_95 && sx_chk sj_P sk_CT 3000 sk_95) = true := by decide +kernel
set_option maxRecDepth 100000 in
theorem sq_96 : (sx_wf sk_96 && sx_chk sj_P sk_CT 3000 sk_96) = true := by decide +kernel
set_option maxRecDepth 100000 in
theorem sq_97 : (sx_wf sk_97 && sx_chk sj_P sk_CT 3000 sk_97) = true := by decide +kernel
set_option maxRecDepth 100000 in
theorem sq_98 : (sx_wf sk_98 && sx_chk sj_P sk_CT 3000 sk_98) = true := by decide +kernel
set_option maxRecDepth 100000 in
theorem sq_99 : (sx_wf sk_99 && sx_chk sj_P sk_CT 3000 sk_99) = true := by decide +kernel
