/-! THE CONTRACTS HOLD: printed by wip/sxp.py -/
set_option maxRecDepth 100000 in
theorem sq_348 : (sx_wf sk_348 && sx_chk sj_P sk_CT 3000 sk_348) = true := by decide +kernel
