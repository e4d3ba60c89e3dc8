/-! THE CONTRACTS HOLD: printed by wip/sxp.py -/
set_option maxRecDepth 100000 in
theorem sq_160 : (sx_wf sk_160 && sx_chk sj_P sk_CT 3000 sk_160) = true := by decide +kernel
set_option maxRecDepth 100000 in
theorem sq_161 : (sx_wf sk_161 && sx_chk sj_P sk_CT 3000 sk_161) = true := by decide +kernel
set_option maxRecDepth 100000 in
theorem sq_162 : (sx_wf sk_162 && sx_chk sj_P sk_CT 3000 sk_162) = true := by decide +kernel
set_option maxRecDepth 100000 in
theorem sq_163 : (sx_wf sk_163 && sx_chk sj_P sk_CT 3000 sk_163) = true := by decide +kernel
set_option maxRecDepth 100000 in
theorem sq_164 : (sx_wf sk_164 && sx_chk sj_P sk_CT 3000 sk_164) = true := by decide +kernel
set_option maxRecDepth 100000 in
theorem sq_165 : (sx_wf sk_165 && sx_chk sj_P sk_CT 3000 sk_165) = true := by decide +kernel
set_option maxRecDepth 100000 in
theorem sq_166 : (sx_wf sk_166 && sx_chk sj_P sk_CT 3000 sk_166) = true := by decide +kernel
set_option maxRecDepth 100000 in
theorem sq_167 : (sx_wf sk_167 && sx_chk sj_P sk_CT 3000 sk_167) = true := by decide +kernel
set_option maxRecDepth 100000 in
theorem sq_168 : (sx_wf sk_168 && sx_chk sj_P sk_CT 3000 sk_168) = true := by decide +kernel
set_option maxRecDepth 100000 in
theorem sq_169 : (sx_wf sk_169 && sx_chk sj_P sk_CT 3000 sk_169) = true := by decide +kernel
set_option maxRecDepth 100000 in
theorem sq_170 : (sx_wf sk_170 && sx_chk sj_P sk_CT 3000 sk_170) = true := by decide +kernel
set_option maxRecDepth 100000 in
theorem sq_171 : (sx_wf sk_171 && sx_chk sj_P sk_CT 3000 sk_171) = true := by decide +kernel
set_option maxRecDepth 100000 in
theorem sq_172 : (sx_wf sk_172 && sx_chk sj_P sk_CT 3000 sk_172) = true := by decide +kernel
set_option maxRecDepth 100000 in
theorem sq_173 : (sx_wf sk_173 && sx_chk sj_P sk_CT 3000 sk_173) = true := by decide +kernel
set_option maxRecDepth 100000 in
theorem sq_174 : (sx_wf sk_174 && sx_chk sj_P sk_CT 3000 sk_174) = true := by decide +kernel
set_option maxRecDepth 100000 in
theorem sq_175 : (sx_wf sk_175 && sx_chk sj_P sk_CT 3000 sk_175) = true := by decide +kernel
set_option maxRecDepth 100000 in
theorem sq_176 : (sx_wf sk_176 && sx_chk sj_P sk_CT 3000 sk_176) = true := by decide +kernel
set_option maxRecDepth 100000 in
theorem sq_177 : (sx_wf sk_177 && sx_chk sj_P sk_CT 3000 sk_177) = true := by decide +kernel
set_option maxRecDepth 100000 in
theorem sq_178 : (sx_wf sk_178 && sx_chk sj_P sk_CT 3000 sk_178) = true := by decide +kernel
set_option maxRecDepth 100000 in
theorem sq_179 : (sx_wf sk_179 && sx_chk sj_P sk_CT 3000 sk_179) = true := by decide +kernel
