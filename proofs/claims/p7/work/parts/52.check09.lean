/-! THE CONTRACTS HOLD: printed by wip/sxp.py -/
set_option maxRecDepth 100000 in
theorem sq_180 : (sx_wf sk_180 && sx_chk sj_P sk_CT 3000 sk_180) = true := by decide +kernel
set_option maxRecDepth 100000 in
theorem sq_181 : (sx_wf sk_181 && sx_chk sj_P sk_CT 3000 sk_181) = true := by decide +kernel
set_option maxRecDepth 100000 in
theorem sq_182 : (sx_wf sk_182 && sx_chk sj_P sk_CT 3000 sk_182) = true := by decide +kernel
set_option maxRecDepth 100000 in
theorem sq_183 : (sx_wf sk_183 && sx_chk sj_P sk_CT 3000 sk_183) = true := by decide +kernel
set_option maxRecDepth 100000 in
theorem sq_184 : (sx_wf sk_184 && sx_chk sj_P sk_CT 3000 sk_184) = true := by decide +kernel
set_option maxRecDepth 100000 in
theorem sq_185 : (sx_wf sk_185 && sx_chk sj_P sk_CT 3000 sk_185) = true := by decide +kernel
set_option maxRecDepth 100000 in
theorem sq_186 : (sx_wf sk_186 && sx_chk sj_P sk_CT 3000 sk_186) = true := by decide +kernel
set_option maxRecDepth 100000 in
theorem sq_187 : (sx_wf sk_187 && sx_chk sj_P sk_CT 3000 sk_187) = true := by decide +kernel
set_option maxRecDepth 100000 in
theorem sq_188 : (sx_wf sk_188 && sx_chk sj_P sk_CT 3000 sk_188) = true := by decide +kernel
set_option maxRecDepth 100000 in
theorem sq_189 : (sx_wf sk_189 && sx_chk sj_P sk_CT 3000 sk_189) = true := by decide +kernel
set_option maxRecDepth 100000 in
theorem sq_190 : (sx_wf sk_190 && sx_chk sj_P sk_CT 3000 sk_190) = true := by decide +kernel
set_option maxRecDepth 100000 in
theorem sq_191 : (sx_wf sk_191 && sx_chk sj_P sk_CT 3000 sk_191) = true := by decide +kernel
set_option maxRecDepth 100000 in
theorem sq_192 : (sx_wf sk_192 && sx_chk sj_P sk_CT 3000 sk_192) = true := by decide +kernel
set_option maxRecDepth 100000 in
theorem sq_193 : (sx_wf sk_193 && sx_chk sj_P sk_CT 3000 sk_193) = true := by decide +kernel
set_option maxRecDepth 100000 in
theorem sq_194 : (sx_wf sk_194 && sx_chk sj_P sk_CT 3000 sk_194) = true := by decide +kernel
set_option maxRecDepth 100000 in
theorem sq_195 : (sx_wf sk_195 && sx_chk sj_P sk_CT 3000 sk_195) = true := by decide +kernel
set_option maxRecDepth 100000 in
theorem sq_196 : (sx_wf sk_196 && sx_chk sj_P sk_CT 3000 sk_196) = true := by decide +kernel
set_option maxRecDepth 100000 in
theorem sq_197 : (sx_wf sk_197 && sx_chk sj_P sk_CT 3000 sk_197) = true := by decide +kernel
set_option maxRecDepth 100000 in
theorem sq_198 : (sx_wf sk_198 && sx_chk sj_P sk_CT 3000 sk_198) = true := by decide +kernel
set_option maxRecDepth 100000 in
theorem sq_199 : (sx_wf sk_199 && sx_chk sj_P sk_CT 3000 sk_199) = true := by decide +kernel
