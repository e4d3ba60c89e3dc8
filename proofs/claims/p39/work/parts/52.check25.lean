/-! THE CONTRACTS HOLD: printed by wip/sxp.py -/
set_option maxRecDepth 100000 in
theorem sq_389 : (sx_wf sk_389 && sx_chk sj_P sk_CT 3000 sk_389) = true := by decide +kernel
set_option maxRecDepth 100000 in
theorem sq_390 : (sx_wf sk_390 && sx_chk sj_P sk_CT 3000 sk_390) = true := by decide +kernel
set_option maxRecDepth 100000 in
theorem sq_391 : (sx_wf sk_391 && sx_chk sj_P sk_CT 3000 sk_391) = true := by decide +kernel
set_option maxRecDepth 100000 in
theorem sq_392 : (sx_wf sk_392 && sx_chk sj_P sk_CT 3000 sk_392) = true := by decide +kernel
set_option maxRecDepth 100000 in
theorem sq_393 : (sx_wf sk_393 && sx_chk sj_P sk_CT 3000 sk_393) = true := by decide +kernel
