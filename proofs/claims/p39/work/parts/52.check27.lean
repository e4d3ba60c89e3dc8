/-! THE CONTRACTS HOLD: printed by wip/sxp.py -/
set_option maxRecDepth 100000 in
theorem sq_399 : (sx_wf sk_399 && sx_chk sj_P sk_CT 3000 sk_399) = true := by decide +kernel
