/-! THE CONTRACTS HOLD: printed by wip/sxp.py -/
set_option maxRecDepth 100000 in
theorem sq_240 : (sx_wf sk_240 && sx_chk sj_P sk_CT 3000 sk_240) = true := by decide +kernel
set_option maxRecDepth 100000 in
theorem sq_241 : (sx_wf sk_241 && sx_chk sj_P sk_CT 3000 sk_241) = true := by decide +kernel
set_option maxRecDepth 100000 in
theorem sq_242 : (sx_wf sk_242 && sx_chk sj_P sk_CT 3000 sk_242) = true := by decide +kernel
set_option maxRecDepth 100000 in
theorem sq_243 : (sx_wf sk_243 && sx_chk sj_P sk_CT 3000 sk_243) = true := by decide +kernel
set_option maxRecDepth 100000 in
theorem sq_244 : (sx_wf sk_244 && sx_chk sj_P sk_CT 3000 sk_244) = true := by decide +kernel
set_option maxRecDepth 100000 in
theorem sq_245 : (sx_wf sk_245 && sx_chk sj_P sk_CT 3000 sk_245) = true := by decide +kernel
set_option maxRecDepth 100000 in
theorem sq_246 : (sx_wf sk_246 && sx_chk sj_P sk_CT 3000 sk_246) = true := by decide +kernel
set_option maxRecDepth 100000 in
theorem sq_247 : (sx_wf sk_247 && sx_chk sj_P sk_CT 3000 sk_247) = true := by decide +kernel
set_option maxRecDepth 100000 in
theorem sq_248 : (sx_wf sk_248 && sx_chk sj_P sk_CT 3000 sk_248) = true := by decide +kernel
set_option maxRecDepth 100000 in
theorem sq_249 : (sx_wf sk_249 && sx_chk sj_P sk_CT 3000 sk_249) = true := by decide +kernel
set_option maxRecDepth 100000 in
theorem sq_250 : (sx_wf sk_250 && sx_chk sj_P sk_CT 3000 sk_250) = true := by decide +kernel
set_option maxRecDepth 100000 in
theorem sq_251 : (sx_wf sk_251 && sx_chk sj_P sk_CT 3000 sk_251) = true := by decide +kernel
set_option maxRecDepth 100000 in
theorem sq_252 : (sx_wf sk_252 && sx_chk sj_P sk_CT 3000 sk_252) = true := by decide +kernel
set_option maxRecDepth 100000 in
theorem sq_253 : (sx_wf sk_253 && sx_chk sj_P sk_CT 3000 sk_253) = true := by decide +kernel
set_option maxRecDepth 100000 in
theorem sq_254 : (sx_wf sk_254 && sx_chk sj_P sk_CT 3000 sk_254) = true := by decide +kernel
set_option maxRecDepth 100000 in
theorem sq_255 : (sx_wf sk_255 && sx_chk sj_P sk_CT 3000 sk_255) = true := by decide +kernel
set_option maxRecDepth 100000 in
theorem sq_256 : (sx_wf sk_256 && sx_chk sj_P sk_CT 3000 sk_256) = true := by decide +kernel
set_option maxRecDepth 100000 in
theorem sq_257 : (sx_wf sk_257 && sx_chk sj_P sk_CT 3000 sk_257) = true := by decide +kernel
set_option maxRecDepth 100000 in
theorem sq_258 : (sx_wf sk_258 && sx_chk sj_P sk_CT 3000 sk_258) = true := by decide +kernel
set_option maxRecDepth 100000 in
theorem sq_259 : (sx_wf sk_259 && sx_chk sj_P sk_CT 3000 sk_259) = true := by decide +kernel
