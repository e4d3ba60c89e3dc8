/-! THE CONTRACTS HOLD: printed by wip/sxp.py -/
set_option maxRecDepth 100000 in
theorem sq_365 : (sx_wf sk_365 && sx_chk sj_P sk_CT 3000 sk_365) = true := by decide +kernel
