/-! THE CONTRACTS HOLD: printed by wip/sxp.py -/
set_option maxRecDepth 100000 in
theorem sq_380 : (sx_wf sk_380 && sx_chk sj_P sk_CT 3000 sk_380) = true := by decide +kernel
set_option maxRecDepth 100000 in
theorem sq_381 : (sx_wf sk_381 && sx_chk sj_P sk_CT 3000 sk_381) = true := by decide +kernel
set_option maxRecDepth 100000 in
theorem sq_382 : (sx_wf sk_382 && sx_chk sj_P sk_CT 3000 sk_382) = true := by decide +kernel
set_option maxRecDepth 100000 in
theorem sq_383 : (sx_wf sk_383 && sx_chk sj_P sk_CT 3000 sk_383) = true := by decide +kernel
set_option maxRecDepth 100000 in
theorem sq_384 : (sx_wf sk_384 && sx_chk sj_P sk_CT 3000 sk_384) = true := by decide +kernel
set_option maxRecDepth 100000 in
theorem sq_385 : (sx_wf sk_385 && sx_chk sj_P sk_CT 3000 sk_385) = true := by decide +kernel
set_option maxRecDepth 100000 in
theorem sq_386 : (sx_wf sk_386 && sx_chk sj_P sk_CT 3000 sk_386) = true := by decide +kernel
set_option maxRecDepth 100000 in
theorem sq_387 : (sx_wf sk_387 && sx_chk sj_P sk_CT 3000 sk_387) = true := by decide +kernel
set_option maxRecDepth 100000 in
theorem sq_388 : (sx_wf sk_388 && sx_chk sj_P sk_CT 3000 sk_388) = true := by decide +kernel
set_option maxRecDepth 100000 in
theorem sq_389 : (sx_wf sk_389 && sx_chk sj_P sk_CT 3000 sk_389) = true := by decide +kernel
set_option maxRecDepth 100000 in
theorem sq_390 : (sx_wf sk_390 && sx_chk sj_P sk_CT 3000 sk_390) = true := by decide +kernel
set_option maxRecDepth 100000 in
theorem sq_391 : (sx_wf sk_391 && sx_chk sj_P sk_CT 3000 sk_391) = true := by decide +kernel
set_option maxRecDepth 100000 in
theorem sq_392 : (sx_wf sk_392 && sx_chk sj_P sk_CT 3000 sk_392) = true := by decide +kernel
set_option maxRecDepth 100000 in
theorem sq_393 : (sx_wf sk_393 && sx_chk sj_P sk_CT 3000 sk_393) = true := by decide +kernel
set_option maxRecDepth 100000 in
theorem sq_394 : (sx_wf sk_394 && sx_chk sj_P sk_CT 3000 sk_394) = true := by decide +kernel
set_option maxRecDepth 100000 in
theorem sq_395 : (sx_wf sk_395 && sx_chk sj_P sk_CT 3000 sk_395) = true := by decide +kernel
set_option maxRecDepth 100000 in
theorem sq_396 : (sx_wf sk_396 && sx_chk sj_P sk_CT 3000 sk_396) = true := by decide +kernel
set_option maxRecDepth 100000 in
theorem sq_397 : (sx_wf sk_397 && sx_chk sj_P sk_CT 3000 sk_397) = true := by decide +kernel
set_option maxRecDepth 100000 in
theorem sq_398 : (sx_wf sk_398 && sx_chk sj_P sk_CT 3000 sk_398) = true := by decide +kernel
set_option maxRecDepth 100000 in
theorem sq_399 : (sx_wf sk_399 && sx_chk sj_P sk_CT 3000 sk_399) = true := by decide +kernel
