/-! THE CONTRACTS HOLD: printed by wip/sxp.py -/
set_option maxRecDepth 100000 in
theorem sq_320 : (sx_wf sk_320 && sx_chk sj_P sk_CT 3000 sk_320) = true := by decide +kernel
set_option maxRecDepth 100000 in
theorem sq_321 : (sx_wf sk_321 && sx_chk sj_P sk_CT 3000 sk_321) = true := by decide +kernel
set_option maxRecDepth 100000 in
theorem sq_322 : (sx_wf sk_322 && sx_chk sj_P sk_CT 3000 sk_322) = true := by decide +kernel
set_option maxRecDepth 100000 in
theorem sq_323 : (sx_wf sk_323 && sx_chk sj_P sk_CT 3000 sk_323) = true := by decide +kernel
set_option maxRecDepth 100000 in
theorem sq_324 : (sx_wf sk_324 && sx_chk sj_P sk_CT 3000 sk_324) = true := by decide +kernel
set_option maxRecDepth 100000 in
theorem sq_325 : (sx_wf sk_325 && sx_chk sj_P sk_CT 3000 sk_325) = true := by decide +kernel
set_option maxRecDepth 100000 in
theorem sq_326 : (sx_wf sk_326 && sx_chk sj_P sk_CT 3000 sk_326) = true := by decide +kernel
set_option maxRecDepth 100000 in
theorem sq_327 : (sx_wf sk_327 && sx_chk sj_P sk_CT 3000 sk_327) = true := by decide +kernel
set_option maxRecDepth 100000 in
theorem sq_328 : (sx_wf sk_328 && sx_chk sj_P sk_CT 3000 sk_328) = true := by decide +kernel
set_option maxRecDepth 100000 in
theorem sq_329 : (sx_wf sk_329 && sx_chk sj_P sk_CT 3000 sk_329) = true := by decide +kernel
set_option maxRecDepth 100000 in
theorem sq_330 : (sx_wf sk_330 && sx_chk sj_P sk_CT 3000 sk_330) = true := by decide +kernel
set_option maxRecDepth 100000 in
theorem sq_331 : (sx_wf sk_331 && sx_chk sj_P sk_CT 3000 sk_331) = true := by decide +kernel
set_option maxRecDepth 100000 in
theorem sq_332 : (sx_wf sk_332 && sx_chk sj_P sk_CT 3000 sk_332) = true := by decide +kernel
set_option maxRecDepth 100000 in
theorem sq_333 : (sx_wf sk_333 && sx_chk sj_P sk_CT 3000 sk_333) = true := by decide +kernel
set_option maxRecDepth 100000 in
theorem sq_334 : (sx_wf sk_334 && sx_chk sj_P sk_CT 3000 sk_334) = true := by decide +kernel
set_option maxRecDepth 100000 in
theorem sq_335 : (sx_wf sk_335 && sx_chk sj_P sk_CT 3000 sk_335) = true := by decide +kernel
set_option maxRecDepth 100000 in
theorem sq_336 : (sx_wf sk_336 && sx_chk sj_P sk_CT 3000 sk_336) = true := by decide +kernel
set_option maxRecDepth 100000 in
theorem sq_337 : (sx_wf sk_337 && sx_chk sj_P sk_CT 3000 sk_337) = true := by decide +kernel
set_option maxRecDepth 100000 in
theorem sq_338 : (sx_wf sk_338 && sx_chk sj_P sk_CT 3000 sk_338) = true := by decide +kernel
set_option maxRecDepth 100000 in
theorem sq_339 : (sx_wf sk_339 && sx_chk sj_P sk_CT 3000 sk_339) = true := by decide +kernel
