/-! THE CONTRACTS HOLD: printed by wip/sxp.py -/
set_option maxRecDepth 100000 in
theorem sq_300 : (sx_wf sk_300 && sx_chk sj_P sk_CT 3000 sk_300) = true := by decide +kernel
set_option maxRecDepth 100000 in
theorem sq_301 : (sx_wf sk_301 && sx_chk sj_P sk_CT 3000 sk_301) = true := by decide +kernel
set_option maxRecDepth 100000 in
theorem sq_302 : (sx_wf sk_302 && sx_chk sj_P sk_CT 3000 sk_302) = true := by decide +kernel
set_option maxRecDepth 100000 in
theorem sq_303 : (sx_wf sk_303 && sx_chk sj_P sk_CT 3000 sk_303) = true := by decide +kernel
set_option maxRecDepth 100000 in
theorem sq_304 : (sx_wf sk_304 && sx_chk sj_P sk_CT 3000 sk_304) = true := by decide +kernel
set_option maxRecDepth 100000 in
theorem sq_305 : (sx_wf sk_305 && sx_chk sj_P sk_CT 3000 sk_305) = true := by decide +kernel
set_option maxRecDepth 100000 in
theorem sq_306 : (sx_wf sk_306 && sx_chk sj_P sk_CT 3000 sk_306) = true := by decide +kernel
set_option maxRecDepth 100000 in
theorem sq_307 : (sx_wf sk_307 && sx_chk sj_P sk_CT 3000 sk_307) = true := by decide +kernel
set_option maxRecDepth 100000 in
theorem sq_308 : (sx_wf sk_308 && sx_chk sj_P sk_CT 3000 sk_308) = true := by decide +kernel
set_option maxRecDepth 100000 in
theorem sq_309 : (sx_wf sk_309 && sx_chk sj_P sk_CT 3000 sk_309) = true := by decide +kernel
set_option maxRecDepth 100000 in
theorem sq_310 : (sx_wf sk_310 && sx_chk sj_P sk_CT 3000 sk_310) = true := by decide +kernel
set_option maxRecDepth 100000 in
theorem sq_311 : (sx_wf sk_311 && sx_chk sj_P sk_CT 3000 sk_311) = true := by decide +kernel
set_option maxRecDepth 100000 in
theorem sq_312 : (sx_wf sk_312 && sx_chk sj_P sk_CT 3000 sk_312) = true := by decide +kernel
set_option maxRecDepth 100000 in
theorem sq_313 : (sx_wf sk_313 && sx_chk sj_P sk_CT 3000 sk_313) = true := by decide +kernel
set_option maxRecDepth 100000 in
theorem sq_314 : (sx_wf sk_314 && sx_chk sj_P sk_CT 3000 sk_314) = true := by decide +kernel
set_option maxRecDepth 100000 in
theorem sq_315 : (sx_wf sk_315 && sx_chk sj_P sk_CT 3000 sk_315) = true := by decide +kernel
set_option maxRecDepth 100000 in
theorem sq_316 : (sx_wf sk_316 && sx_chk sj_P sk_CT 3000 sk_316) = true := by decide +kernel
set_option maxRecDepth 100000 in
theorem sq_317 : (sx_wf sk_317 && sx_chk sj_P sk_CT 3000 sk_317) = true := by decide +kernel
set_option maxRecDepth 100000 in
theorem sq_318 : (sx_wf sk_318 && sx_chk sj_P sk_CT 3000 sk_318) = true := by decide +kernel
set_option maxRecDepth 100000 in
theorem sq_319 : (sx_wf sk_319 && sx_chk sj_P sk_CT 3000 sk_319) = true := by decide +kernel
