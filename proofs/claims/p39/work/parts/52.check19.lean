/-! THE CONTRACTS HOLD: printed by wip/sxp.py -/
set_option maxRecDepth 100000 in
theorem sq_363 : (sx_wf sk_363 && sx_chk sj_P sk_CT 3000 sk_363) = true := by decide +kernel
