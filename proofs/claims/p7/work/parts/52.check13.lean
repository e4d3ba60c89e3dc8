/-! THE CONTRACTS HOLD: printed by wip/sxp.py -/
set_option maxRecDepth 100000 in
theorem sq_260 : (sx_wf sk_260 && sx_chk sj_P sk_CT 3000 sk_260) = true := by decide +kernel
set_option maxRecDepth 100000 in
theorem sq_261 : (sx_wf sk_261 && sx_chk sj_P sk_CT 3000 sk_261) = true := by decide +kernel
set_option maxRecDepth 100000 in
theorem sq_262 : (sx_wf sk_262 && sx_chk sj_P sk_CT 3000 sk_262) = true := by decide +kernel
set_option maxRecDepth 100000 in
theorem sq_263 : (sx_wf sk_263 && sx_chk sj_P sk_CT 3000 sk_263) = true := by decide +kernel
set_option maxRecDepth 100000 in
theorem sq_264 : (sx_wf sk_264 && sx_chk sj_P sk_CT 3000 sk_264) = true := by decide +kernel
set_option maxRecDepth 100000 in
theorem sq_265 : (sx_wf sk_265 && sx_chk sj_P sk_CT 3000 sk_265) = true := by decide +kernel
set_option maxRecDepth 100000 in
theorem sq_266 : (sx_wf sk_266 && sx_chk sj_P sk_CT 3000 sk_266) = true := by decide +kernel
set_option maxRecDepth 100000 in
theorem sq_267 : (sx_wf sk_267 && sx_chk sj_P sk_CT 3000 sk_267) = true := by decide +kernel
set_option maxRecDepth 100000 in
theorem sq_268 : (sx_wf sk_268 && sx_chk sj_P sk_CT 3000 sk_268) = true := by decide +kernel
set_option maxRecDepth 100000 in
theorem sq_269 : (sx_wf sk_269 && sx_chk sj_P sk_CT 3000 sk_269) = true := by decide +kernel
set_option maxRecDepth 100000 in
theorem sq_270 : (sx_wf sk_270 && sx_chk sj_P sk_CT 3000 sk_270) = true := by decide +kernel
set_option maxRecDepth 100000 in
theorem sq_271 : (sx_wf sk_271 && sx_chk sj_P sk_CT 3000 sk_271) = true := by decide +kernel
set_option maxRecDepth 100000 in
theorem sq_272 : (sx_wf sk_272 && sx_chk sj_P sk_CT 3000 sk_272) = true := by decide +kernel
set_option maxRecDepth 100000 in
theorem sq_273 : (sx_wf sk_273 && sx_chk sj_P sk_CT 3000 sk_273) = true := by decide +kernel
set_option maxRecDepth 100000 in
theorem sq_274 : (sx_wf sk_274 && sx_chk sj_P sk_CT 3000 sk_274) = true := by decide +kernel
set_option maxRecDepth 100000 in
theorem sq_275 : (sx_wf sk_275 && sx_chk sj_P sk_CT 3000 sk_275) = true := by decide +kernel
set_option maxRecDepth 100000 in
theorem sq_276 : (sx_wf sk_276 && sx_chk sj_P sk_CT 3000 sk_276) = true := by decide +kernel
set_option maxRecDepth 100000 in
theorem sq_277 : (sx_wf sk_277 && sx_chk sj_P sk_CT 3000 sk_277) = true := by decide +kernel
set_option maxRecDepth 100000 in
theorem sq_278 : (sx_wf sk_278 && sx_chk sj_P sk_CT 3000 sk_278) = true := by decide +kernel
set_option maxRecDepth 100000 in
theorem sq_279 : (sx_wf sk_279 && sx_chk sj_P sk_CT 3000 sk_279) = true := by decide +kernel
