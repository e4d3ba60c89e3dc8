/-! THE CONTRACTS HOLD: printed by wip/sxp.py -/
set_option maxRecDepth 100000 in
theorem sq_370 : (sx_wf sk_370 && sx_chk sj_P sk_CT 3000 sk_370) = true := by decide +kernel
set_option maxRecDepth 100000 in
theorem sq_371 : (sx_wf sk_371 && sx_chk sj_P sk_CT 3000 sk_371) = true := by decide +kernel
set_option maxRecDepth 100000 in
theorem sq_372 : (sx_wf sk_372 && sx_chk sj_P sk_CT 3000 sk_372) = true := by decide +kernel
set_option maxRecDepth 100000 in
theorem sq_373 : (sx_wf sk_373 && sx_chk sj_P sk_CT 3000 sk_373) = true := by decide +kernel
set_option maxRecDepth 100000 in
theorem sq_374 : (sx_wf sk_374 && sx_chk sj_P sk_CT 3000 sk_374) = true := by decide +kernel
