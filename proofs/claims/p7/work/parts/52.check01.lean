/-! THE CONTRACTS HOLD: printed by wip/sxp.py -/
set_option maxRecDepth 100000 in
theorem sq_20 : (sx_wf sk_20 && sx_chk sj_P sk_CT 3000 sk_20) = true := by decide +kernel
set_option maxRecDepth 100000 in
theorem sq_21 : (sx_wf sk_21 && sx_chk sj_P sk_CT 3000 sk_21) = true := by decide +kernel
set_option maxRecDepth 100000 in
theorem sq_22 : (sx_wf sk_22 && sx_chk sj_P sk_CT 3000 sk_22) = true := by decide +kernel
set_option maxRecDepth 100000 in
theorem sq_23 : (sx_wf sk_23 && sx_chk sj_P sk_CT 3000 sk_23) = true := by decide +kernel
set_option maxRecDepth 100000 in
theorem sq_24 : (sx_wf sk_24 && sx_chk sj_P sk_CT 3000 sk_24) = true := by decide +kernel
set_option maxRecDepth 100000 in
theorem sq_25 : (sx_wf sk_25 && sx_chk sj_P sk_CT 3000 sk_25) = true := by decide +kernel
set_option maxRecDepth 100000 in
theorem sq_26 : (sx_wf sk_26 && sx_chk sj_P sk_CT 3000 sk_26) = true := by decide +kernel
set_option maxRecDepth 100000 in
theorem sq_27 : (sx_wf sk_27 && sx_chk sj_P sk_CT 3000 sk_27) = true := by decide +kernel
set_option maxRecDepth 100000 in
theorem sq_28 : (sx_wf sk_28 && sx_chk sj_P sk_CT 3000 sk_28) = true := by decide +kernel
set_option maxRecDepth 100000 in
theorem sq_29 : (sx_wf sk_29 && sx_chk sj_P sk_CT 3000 sk_29) = true := by decide +kernel
set_option maxRecDepth 100000 in
theorem sq_30 : (sx_wf sk_30 && sx_chk sj_P sk_CT 3000 sk_30) = true := by decide +kernel
set_option maxRecDepth 100000 in
theorem sq_31 : (sx_wf sk_31 && sx_chk sj_P sk_CT 3000 sk_31) = true := by decide +kernel
set_option maxRecDepth 100000 in
theorem sq_32 : (sx_wf sk_32 && sx_chk sj_P sk_CT 3000 sk_32) = true := by decide +kernel
set_option maxRecDepth 100000 in
theorem sq_33 : (sx_wf sk_33 && sx_chk sj_P sk_CT 3000 sk_33) = true := by decide +kernel
set_option maxRecDepth 100000 in
theorem sq_34 : (sx_wf sk_34 && sx_chk sj_P sk_CT 3000 sk_34) = true := by decide +kernel
set_option maxRecDepth 100000 in
theorem sq_35 : (sx_wf sk_35 && sx_chk sj_P sk_CT 3000 sk_35) = true := by decide +kernel
set_option maxRecDepth 100000 in
theorem sq_36 : (sx_wf sk_36 && sx_chk sj_P sk_CT 3000 sk_36) = true := by decide +kernel
set_option maxRecDepth 100000 in
theorem sq_37 : (sx_wf sk_37 && sx_chk sj_P sk_CT 3000 sk_37) = true := by decide +kernel
set_option maxRecDepth 100000 in
theorem sq_38 : (sx_wf sk_38 && sx_chk sj_P sk_CT 3000 sk_38) = true := by decide +kernel
set_option maxRecDepth 100000 in
theorem sq_39 : (sx_wf sk_39 && sx_chk sj_P sk_CT 3000 sk_39) = true := by decide +kernel
