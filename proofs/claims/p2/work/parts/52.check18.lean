/-! THE CONTRACTS HOLD: printed by wip/sxp.py -/
set_option maxRecDepth 100000 in
theorem sq_360 : (sx_wf sk_360 && sx_chk sj_P sk_CT 3000 sk_360) = true := by decide +kernel
set_option maxRecDepth 100000 in
theorem sq_361 : (sx_wf sk_361 && sx_chk sj_P sk_CT 3000 sk_361) = true := by decide +kernel
set_option maxRecDepth 100000 in
theorem sq_362 : (sx_wf sk_362 && sx_chk sj_P sk_CT 3000 sk_362) = true := by decide +kernel
set_option maxRecDepth 100000 in
theorem sq_363 : (sx_wf sk_363 && sx_chk sj_P sk_CT 3000 sk_363) = true := by decide +kernel
set_option maxRecDepth 100000 in
theorem sq_364 : (sx_wf sk_364 && sx_chk sj_P sk_CT 3000 sk_364) = true := by decide +kernel
set_option maxRecDepth 100000 in
theorem sq_365 : (sx_wf sk_365 && sx_chk sj_P sk_CT 3000 sk_365) = true := by decide +kernel
set_option maxRecDepth 100000 in
theorem sq_366 : (sx_wf sk_366 && sx_chk sj_P sk_CT 3000 sk_366) = true := by decide +kernel
set_option maxRecDepth 100000 in
theorem sq_367 : (sx_wf sk_367 && sx_chk sj_P sk_CT 3000 sk_367) = true := by decide +kernel
set_option maxRecDepth 100000 in
theorem sq_368 : (sx_wf sk_368 && sx_chk sj_P sk_CT 3000 sk_368) = true := by decide +kernel
set_option maxRecDepth 100000 in
theorem sq_369 : (sx_wf sk_369 && sx_chk sj_P sk_CT 3000 sk_369) = true := by decide +kernel
set_option maxRecDepth 100000 in
theorem sq_370 : (sx_wf sk_370 && sx_chk sj_P sk_CT 3000 sk_370) = true := by decide +kernel
set_option maxRecDepth 100000 in
theorem sq_371 : (sx_wf sk_371 && sx_chk sj_P sk_CT 3000 sk_371) = true := by decide +kernel
set_option maxRecDepth 100000 in
theorem sq_372 : (sx_wf sk_372 && sx_chk sj_P sk_CT 3000 sk_372) = true := by decide +kernel
set_option maxRecDepth 100000 in
theorem sq_373 : (sx_wf sk_373 && sx_chk sj_P sk_CT 3000 sk_373) = true := by decide +kernel
set_option maxRecDepth 100000 in
theorem sq_374 : (sx_wf sk_374 && sx_chk sj_P sk_CT 3000 sk_374) = true := by decide +kernel
set_option maxRecDepth 100000 in
theorem sq_375 : (sx_wf sk_375 && sx_chk sj_P sk_CT 3000 sk_375) = true := by decide +kernel
set_option maxRecDepth 100000 in
theorem sq_376 : (sx_wf sk_376 && sx_chk sj_P sk_CT 3000 sk_376) = true := by decide +kernel
set_option maxRecDepth 100000 in
theorem sq_377 : (sx_wf sk_377 && sx_chk sj_P sk_CT 3000 sk_377) = true := by decide +kernel
set_option maxRecDepth 100000 in
theorem sq_378 : (sx_wf sk_378 && sx_chk sj_P sk_CT 3000 sk_378) = true := by decide +kernel
set_option maxRecDepth 100000 in
theorem sq_379 : (sx_wf sk_379 && sx_chk sj_P sk_CT 3000 sk_379) = true := by decide +kernel
