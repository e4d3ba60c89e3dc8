/-! THE CONTRACTS HOLD: printed by wip/sxp.py -/
set_option maxRecDepth 100000 in
theorem sq_386 : (sx_wf sk_386 && sx_chk sj_P sk_CT 3000 sk_386) = true := by decide +kernel
set_option maxRecDepth 100000 in
theorem sq_387 : (sx_wf sk_387 && sx_chk sj_P sk_CT 3000 sk_387) = true := by decide +kernel
set_option maxRecDepth 100000 in
theorem sq_388 : (sx_wf sk_388 && sx_chk sj_P sk_CT 3000 sk_388) = true := by decide +kernel
set_option maxRecDepth 100000 in
theorem sq_389 : (sx_wf sk_389 && sx_chk sj_P sk_CT 3000 sk_389) = true := by decide +kernel
set_option maxRecDepth 100000 in
theorem sq_390 : (sx_wf sk_390 && sx_chk sj_P sk_CT 3000 sk_390) = true := by decide +kernel
