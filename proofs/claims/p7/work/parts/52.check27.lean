/-! THE CONTRACTS HOLD: printed by wip/sxp.py -/
set_option maxRecDepth 100000 in
theorem sq_365 : (sx_wf sk_365 && sx_chk sj_P sk_CT 3000 sk_365) = true := by decide +kernel
set_option maxRecDepth 100000 in
theorem sq_366 : (sx_wf sk_366 && sx_chk sj_P sk_CT 3000 sk_366) = true := by decide +kernel
set_option maxRecDepth 100000 in
theorem sq_367 : (sx_wf sk_367 && sx_chk sj_P sk_CT 3000 sk_367) = true := by decide +kernel
set_option maxRecDepth 100000 in
theorem sq_368 : (sx_wf sk_368 && sx_chk sj_P sk_CT 3000 sk_368) = true := by decide +kernel
set_option maxRecDepth 100000 in
theorem sq_369 : (sx_wf sk_369 && sx_chk sj_P sk_CT 3000 sk_369) = true := by decide +kernel
