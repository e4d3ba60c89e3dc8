/-! THE CONTRACTS HOLD: printed by wip/sxp.py -/
set_option maxRecDepth 100000 in
theorem sq_100 : (sx_wf sk_100 && sx_chk sj_P sk_CT 3000 sk_100) = true := by decide +kernel
set_option maxRecDepth 100000 in
theorem sq_101 : (sx_wf sk_101 && sx_chk sj_P sk_CT 3000 sk_101) = true := by decide +kernel
set_option maxRecDepth 100000 in
theorem sq_102 : (sx_wf sk_102 && sx_chk sj_P sk_CT 3000 sk_102) = true := by decide +kernel
set_option maxRecDepth 100000 in
theorem sq_103 : (sx_wf sk_103 && sx_chk sj_P sk_CT 3000 sk_103) = true := by decide +kernel
set_option maxRecDepth 100000 in
theorem sq_104 : (sx_wf sk_104 && sx_chk sj_P sk_CT 3000 sk_104) = true := by decide +kernel
set_option maxRecDepth 100000 in
theorem sq_105 : (sx_wf sk_105 && sx_chk sj_P sk_CT 3000 sk_105) = true := by decide +kernel
set_option maxRecDepth 100000 in
theorem sq_106 : (sx_wf sk_106 && sx_chk sj_P sk_CT 3000 sk_106) = true := by decide +kernel
set_option maxRecDepth 100000 in
theorem sq_107 : (sx_wf sk_107 && sx_chk sj_P sk_CT 3000 sk_107) = true := by decide +kernel
set_option maxRecDepth 100000 in
theorem sq_108 : (sx_wf sk_108 && sx_chk sj_P sk_CT 3000 sk_108) = true := by decide +kernel
set_option maxRecDepth 100000 in
theorem sq_109 : (sx_wf sk_109 && sx_chk sj_P sk_CT 3000 sk_109) = true := by decide +kernel
set_option maxRecDepth 100000 in
theorem sq_110 : (sx_wf sk_110 && sx_chk sj_P sk_CT 3000 sk_110) = true := by decide +kernel
set_option maxRecDepth 100000 in
theorem sq_111 : (sx_wf sk_111 && sx_chk sj_P sk_CT 3000 sk_111) = true := by decide +kernel
set_option maxRecDepth 100000 in
theorem sq_112 : (sx_wf sk_112 && sx_chk sj_P sk_CT 3000 sk_112) = true := by decide +kernel
set_option maxRecDepth 100000 in
theorem sq_113 : (sx_wf sk_113 && sx_chk sj_P sk_CT 3000 sk_113) = true := by decide +kernel
set_option maxRecDepth 100000 in
theorem sq_114 : (sx_wf sk_114 && sx_chk sj_P sk_CT 3000 sk_114) = true := by decide +kernel
set_option maxRecDepth 100000 in
theorem sq_115 : (sx_wf sk_115 && sx_chk sj_P sk_CT 3000 sk_115) = true := by decide +kernel
set_option maxRecDepth 100000 in
theorem sq_116 : (sx_wf sk_116 && sx_chk sj_P sk_CT 3000 sk_116) = true := by decide +kernel
set_option maxRecDepth 100000 in
theorem sq_117 : (sx_wf sk_117 && sx_chk sj_P sk_CT 3000 sk_117) = true := by decide +kernel
set_option maxRecDepth 100000 in
theorem sq_118 : (sx_wf sk_118 && sx_chk sj_P sk_CT 3000 sk_118) = true := by decide +kernel
set_option maxRecDepth 100000 in
theorem sq_119 : (sx_wf sk_119 && sx_chk sj_P sk_CT 3000 sk_119) = true := by decide +kernel
