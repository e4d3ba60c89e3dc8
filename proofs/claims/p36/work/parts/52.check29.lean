/-! THE CONTRACTS HOLD: printed by wip/sxp.py -/
set_option maxRecDepth 100000 in
theorem sq_333 : (sx_wf sk_333 && sx_chk sj_P sk_CT 3000 sk_333) = true := by decide +kernel
set_option maxRecDepth 100000 in
theorem sq_334 : (sx_wf sk_334 && sx_chk sj_P sk_CT 3000 sk_334) = true := by decide +kernel
set_option maxRecDepth 100000 in
theorem sq_335 : (sx_wf sk_335 && sx_chk sj_P sk_CT 3000 sk_335) = true := by decide +kernel
set_option maxRecDepth 100000 in
theorem sq_336 : (sx_wf sk_336 && sx_chk sj_P sk_CT 3000 sk_336) = true := by decide +kernel
set_option maxRecDepth 100000 in
theorem sq_337 : (sx_wf sk_337 && sx_chk sj_P sk_CT 3000 sk_337) = true := by decide +kernel
