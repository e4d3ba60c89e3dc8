/-! THE CONTRACTS HOLD: printed by wip/sxp.py -/
set_option maxRecDepth 100000 in
theorem sq_120 : (sx_wf sk_120 && sx_chk sj_P sk_CT 3000 sk_120) = true := by decide +kernel
set_option maxRecDepth 100000 in
theorem sq_121 : (sx_wf sk_121 && sx_chk sj_P sk_CT 3000 sk_121) = true := by decide +kernel
set_option maxRecDepth 100000 in
theorem sq_122 : (sx_wf sk_122 && sx_chk sj_P sk_CT 3000 sk_122) = true := by decide +kernel
set_option maxRecDepth 100000 in
theorem sq_123 : (sx_wf sk_123 && sx_chk sj_P sk_CT 3000 sk_123) = true := by decide +kernel
set_option maxRecDepth 100000 in
theorem sq_124 : (sx_wf sk_124 && sx_chk sj_P sk_CT 3000 sk_124) = true := by decide +kernel
set_option maxRecDepth 100000 in
theorem sq_125 : (sx_wf sk_125 && sx_chk sj_P sk_CT 3000 sk_125) = true := by decide +kernel
set_option maxRecDepth 100000 in
theorem sq_126 : (sx_wf sk_126 && sx_chk sj_P sk_CT 3000 sk_126) = true := by decide +kernel
set_option maxRecDepth 100000 in
theorem sq_127 : (sx_wf sk_127 && sx_chk sj_P sk_CT 3000 sk_127) = true := by decide +kernel
set_option maxRecDepth 100000 in
theorem sq_128 : (sx_wf sk_128 && sx_chk sj_P sk_CT 3000 sk_128) = true := by decide +kernel
set_option maxRecDepth 100000 in
theorem sq_129 : (sx_wf sk_129 && sx_chk sj_P sk_CT 3000 sk_129) = true := by decide +kernel
set_option maxRecDepth 100000 in
theorem sq_130 : (sx_wf sk_130 && sx_chk sj_P sk_CT 3000 sk_130) = true := by decide +kernel
set_option maxRecDepth 100000 in
theorem sq_131 : (sx_wf sk_131 && sx_chk sj_P sk_CT 3000 sk_131) = true := by decide +kernel
set_option maxRecDepth 100000 in
theorem sq_132 : (sx_wf sk_132 && sx_chk sj_P sk_CT 3000 sk_132) = true := by decide +kernel
set_option maxRecDepth 100000 in
theorem sq_133 : (sx_wf sk_133 && sx_chk sj_P sk_CT 3000 sk_133) = true := by decide +kernel
set_option maxRecDepth 100000 in
theorem sq_134 : (sx_wf sk_134 && sx_chk sj_P sk_CT 3000 sk_134) = true := by decide +kernel
set_option maxRecDepth 100000 in
theorem sq_135 : (sx_wf sk_135 && sx_chk sj_P sk_CT 3000 sk_135) = true := by decide +kernel
set_option maxRecDepth 100000 in
theorem sq_136 : (sx_wf sk_136 && sx_chk sj_P sk_CT 3000 sk_136) = true := by decide +kernel
set_option maxRecDepth 100000 in
theorem sq_137 : (sx_wf sk_137 && sx_chk sj_P sk_CT 3000 sk_137) = true := by decide +kernel
set_option maxRecDepth 100000 in
theorem sq_138 : (sx_wf sk_138 && sx_chk sj_P sk_CT 3000 sk_138) = true := by decide +kernel
set_option maxRecDepth 100000 in
theorem sq_139 : (sx_wf sk_139 && sx_chk sj_P sk_CT 3000 sk_139) = true := by decide +kernel
