/-! THE CONTRACTS HOLD: printed by wip/sxp.py -/
set_option maxRecDepth 100000 in
theorem sq_340 : (sx_wf sk_340 && sx_chk sj_P sk_CT 3000 sk_340) = true := by decide +kernel
set_option maxRecDepth 100000 in
theorem sq_341 : (sx_wf sk_341 && sx_chk sj_P sk_CT 3000 sk_341) = true := by decide +kernel
set_option maxRecDepth 100000 in
theorem sq_342 : (sx_wf sk_342 && sx_chk sj_P sk_CT 3000 sk_342) = true := by decide +kernel
set_option maxRecDepth 100000 in
theorem sq_343 : (sx_wf sk_343 && sx_chk sj_P sk_CT 3000 sk_343) = true := by decide +kernel
set_option maxRecDepth 100000 in
theorem sq_344 : (sx_wf sk_344 && sx_chk sj_P sk_CT 3000 sk_344) = true := by decide +kernel
set_option maxRecDepth 100000 in
theorem sq_345 : (sx_wf sk_345 && sx_chk sj_P sk_CT 3000 sk_345) = true := by decide +kernel
set_option maxRecDepth 100000 in
theorem sq_346 : (sx_wf sk_346 && sx_chk sj_P sk_CT 3000 sk_346) = true := by decide +kernel
set_option maxRecDepth 100000 in
theorem sq_347 : (sx_wf sk_347 && sx_chk sj_P sk_CT 3000 sk_347) = true := by decide +kernel
set_option maxRecDepth 100000 in
theorem sq_348 : (sx_wf sk_348 && sx_chk sj_P sk_CT 3000 sk_348) = true := by decide +kernel
set_option maxRecDepth 100000 in
theorem sq_349 : (sx_wf sk_349 && sx_chk sj_P sk_CT 3000 sk_349) = true := by decide +kernel
set_option maxRecDepth 100000 in
theorem sq_350 : (sx_wf sk_350 && sx_chk sj_P sk_CT 3000 sk_350) = true := by decide +kernel
set_option maxRecDepth 100000 in
theorem sq_351 : (sx_wf sk_351 && sx_chk sj_P sk_CT 3000 sk_351) = true := by decide +kernel
set_option maxRecDepth 100000 in
theorem sq_352 : (sx_wf sk_352 && sx_chk sj_P sk_CT 3000 sk_352) = true := by decide +kernel
set_option maxRecDepth 100000 in
theorem sq_353 : (sx_wf sk_353 && sx_chk sj_P sk_CT 3000 sk_353) = true := by decide +kernel
set_option maxRecDepth 100000 in
theorem sq_354 : (sx_wf sk_354 && sx_chk sj_P sk_CT 3000 sk_354) = true := by decide +kernel
set_option maxRecDepth 100000 in
theorem sq_355 : (sx_wf sk_355 && sx_chk sj_P sk_CT 3000 sk_355) = true := by decide +kernel
set_option maxRecDepth 100000 in
theorem sq_356 : (sx_wf sk_356 && sx_chk sj_P sk_CT 3000 sk_356) = true := by decide +kernel
set_option maxRecDepth 100000 in
theorem sq_357 : (sx_wf sk_357 && sx_chk sj_P sk_CT 3000 sk_357) = true := by decide +kernel
set_option maxRecDepth 100000 in
theorem sq_358 : (sx_wf sk_358 && sx_chk sj_P sk_CT 3000 sk_358) = true := by decide +kernel
set_option maxRecDepth 100000 in
theorem sq_359 : (sx_wf sk_359 && sx_chk sj_P sk_CT 3000 sk_359) = true := by decide +kernel
