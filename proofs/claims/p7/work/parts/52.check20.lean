/-! THE CONTRACTS HOLD: printed by wip/sxp.py -/
set_option maxRecDepth 100000 in
theorem sq_350 : (sx_wf sk_350 && sx_chk sj_P sk_CT 3000 sk_350) = true := by decide +kernel
