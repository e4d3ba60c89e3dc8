/-! THE CONTRACTS HOLD: printed by wip/sxp.py -/
set_option maxRecDepth 100000 in
theorem sq_394 : (sx_wf sk_394 && sx_chk sj_P sk_CT 3000 sk_394) = true := by decide +kernel
set_option maxRecDepth 100000 in
theorem sq_395 : (sx_wf sk_395 && sx_chk sj_P sk_CT 3000 sk_395) = true := by decide +kernel
set_option maxRecDepth 100000 in
theorem sq_396 : (sx_wf sk_396 && sx_chk sj_P sk_CT 3000 sk_396) = true := by decide +kernel
set_option maxRecDepth 100000 in
theorem sq_397 : (sx_wf sk_397 && sx_chk sj_P sk_CT 3000 sk_397) = true := by decide +kernel
set_option maxRecDepth 100000 in
theorem sq_398 : (sx_wf sk_398 && sx_chk sj_P sk_CT 3000 sk_398) = true := by decide +kernel
