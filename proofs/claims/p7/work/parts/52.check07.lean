/-! THE CONTRACTS HOLD: printed by wip/sxp.py -/
set_option maxRecDepth 100000 in
theorem sq_140 : (sx_wf sk_140 && sx_chk sj_P sk_CT 3000 sk_140) = true := by decide +kernel
set_option maxRecDepth 100000 in
theorem sq_141 : (sx_wf sk_141 && sx_chk sj_P sk_CT 3000 sk_141) = true := by decide +kernel
set_option maxRecDepth 100000 in
theorem sq_142 : (sx_wf sk_142 && sx_chk sj_P sk_CT 3000 sk_142) = true := by decide +kernel
set_option maxRecDepth 100000 in
theorem sq_143 : (sx_wf sk_143 && sx_chk sj_P sk_CT 3000 sk_143) = true := by decide +kernel
set_option maxRecDepth 100000 in
theorem sq_144 : (sx_wf sk_144 && sx_chk sj_P sk_CT 3000 sk_144) = true := by decide +kernel
set_option maxRecDepth 100000 in
theorem sq_145 : (sx_wf sk_145 && sx_chk sj_P sk_CT 3000 sk_145) = true := by decide +kernel
set_option maxRecDepth 100000 in
theorem sq_146 : (sx_wf sk_146 && sx_chk sj_P sk_CT 3000 sk_146) = true := by decide +kernel
set_option maxRecDepth 100000 in
theorem sq_147 : (sx_wf sk_147 && sx_chk sj_P sk_CT 3000 sk_147) = true := by decide +kernel
set_option maxRecDepth 100000 in
theorem sq_148 : (sx_wf sk_148 && sx_chk sj_P sk_CT 3000 sk_148) = true := by decide +kernel
set_option maxRecDepth 100000 in
theorem sq_149 : (sx_wf sk_149 && sx_chk sj_P sk_CT 3000 sk_149) = true := by decide +kernel
set_option maxRecDepth 100000 in
theorem sq_150 : (sx_wf sk_150 && sx_chk sj_P sk_CT 3000 sk_150) = true := by decide +kernel
set_option maxRecDepth 100000 in
theorem sq_151 : (sx_wf sk_151 && sx_chk sj_P sk_CT 3000 sk_151) = true := by decide +kernel
set_option maxRecDepth 100000 in
theorem sq_152 : (sx_wf sk_152 && sx_chk sj_P sk_CT 3000 sk_152) = true := by decide +kernel
set_option maxRecDepth 100000 in
theorem sq_153 : (sx_wf sk_153 && sx_chk sj_P sk_CT 3000 sk_153) = true := by decide +kernel
set_option maxRecDepth 100000 in
theorem sq_154 : (sx_wf sk_154 && sx_chk sj_P sk_CT 3000 sk_154) = true := by decide +kernel
set_option maxRecDepth 100000 in
theorem sq_155 : (sx_wf sk_155 && sx_chk sj_P sk_CT 3000 sk_155) = true := by decide +kernel
set_option maxRecDepth 100000 in
theorem sq_156 : (sx_wf sk_156 && sx_chk sj_P sk_CT 3000 sk_156) = true := by decide +kernel
set_option maxRecDepth 100000 in
theorem sq_157 : (sx_wf sk_157 && sx_chk sj_P sk_CT 3000 sk_157) = true := by decide +kernel
set_option maxRecDepth 100000 in
theorem sq_158 : (sx_wf sk_158 && sx_chk sj_P sk_CT 3000 sk_158) = true := by decide +kernel
set_option maxRecDepth 100000 in
theorem sq_159 : (sx_wf sk_159 && sx_chk sj_P sk_CT 3000 sk_159) = true := by decide +kernel
