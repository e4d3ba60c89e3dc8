/-! THE CONTRACTS HOLD: printed by wip/sxp.py -/
set_option maxRecDepth 100000 in
theorem sq_200 : (sx_wf sk_200 && sx_chk sj_P sk_CT 3000 sk_200) = true := by decide +kernel
set_option maxRecDepth 100000 in
theorem sq_201 : (sx_wf sk_201 && sx_chk sj_P sk_CT 3000 sk_201) = true := by decide +kernel
set_option maxRecDepth 100000 in
theorem sq_202 : (sx_wf sk_202 && sx_chk sj_P sk_CT 3000 sk_202) = true := by decide +kernel
set_option maxRecDepth 100000 in
theorem sq_203 : (sx_wf sk_203 && sx_chk sj_P sk_CT 3000 sk_203) = true := by decide +kernel
set_option maxRecDepth 100000 in
theorem sq_204 : (sx_wf sk_204 && sx_chk sj_P sk_CT 3000 sk_204) = true := by decide +kernel
set_option maxRecDepth 100000 in
theorem sq_205 : (sx_wf sk_205 && sx_chk sj_P sk_CT 3000 sk_205) = true := by decide +kernel
set_option maxRecDepth 100000 in
theorem sq_206 : (sx_wf sk_206 && sx_chk sj_P sk_CT 3000 sk_206) = true := by decide +kernel
set_option maxRecDepth 100000 in
theorem sq_207 : (sx_wf sk_207 && sx_chk sj_P sk_CT 3000 sk_207) = true := by decide +kernel
set_option maxRecDepth 100000 in
theorem sq_208 : (sx_wf sk_208 && sx_chk sj_P sk_CT 3000 sk_208) = true := by decide +kernel
set_option maxRecDepth 100000 in
theorem sq_209 : (sx_wf sk_209 && sx_chk sj_P sk_CT 3000 sk_209) = true := by decide +kernel
set_option maxRecDepth 100000 in
theorem sq_210 : (sx_wf sk_210 && sx_chk sj_P sk_CT 3000 sk_210) = true := by decide +kernel
set_option maxRecDepth 100000 in
theorem sq_211 : (sx_wf sk_211 && sx_chk sj_P sk_CT 3000 sk_211) = true := by decide +kernel
set_option maxRecDepth 100000 in
theorem sq_212 : (sx_wf sk_212 && sx_chk sj_P sk_CT 3000 sk_212) = true := by decide +kernel
set_option maxRecDepth 100000 in
theorem sq_213 : (sx_wf sk_213 && sx_chk sj_P sk_CT 3000 sk_213) = true := by decide +kernel
set_option maxRecDepth 100000 in
theorem sq_214 : (sx_wf sk_214 && sx_chk sj_P sk_CT 3000 sk_214) = true := by decide +kernel
set_option maxRecDepth 100000 in
theorem sq_215 : (sx_wf sk_215 && sx_chk sj_P sk_CT 3000 sk_215) = true := by decide +kernel
set_option maxRecDepth 100000 in
theorem sq_216 : (sx_wf sk_216 && sx_chk sj_P sk_CT 3000 sk_216) = true := by decide +kernel
set_option maxRecDepth 100000 in
theorem sq_217 : (sx_wf sk_217 && sx_chk sj_P sk_CT 3000 sk_217) = true := by decide +kernel
set_option maxRecDepth 100000 in
theorem sq_218 : (sx_wf sk_218 && sx_chk sj_P sk_CT 3000 sk_218) = true := by decide +kernel
set_option maxRecDepth 100000 in
theorem sq_219 : (sx_wf sk_219 && sx_chk sj_P sk_CT 3000 sk_219) = true := by decide +kernel
