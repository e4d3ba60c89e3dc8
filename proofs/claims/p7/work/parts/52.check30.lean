/-! THE CONTRACTS HOLD: printed by wip/sxp.py -/
set_option maxRecDepth 100000 in
theorem sq_380 : (sx_wf sk_380 && sx_chk sj_P sk_CT 3000 sk_380) = true := by decide +kernel
set_option maxRecDepth 100000 in
theorem sq_381 : (sx_wf sk_381 && sx_chk sj_P sk_CT 3000 sk_381) = true := by decide +kernel
set_option maxRecDepth 100000 in
theorem sq_382 : (sx_wf sk_382 && sx_chk sj_P sk_CT 3000 sk_382) = true := by decide +kernel
set_option maxRecDepth 100000 in
theorem sq_383 : (sx_wf sk_383 && sx_chk sj_P sk_CT 3000 sk_383) = true := by decide +kernel
