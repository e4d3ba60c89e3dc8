/-! THE CONTRACTS HOLD: printed by wip/sxp.py -/
set_option maxRecDepth 100000 in
theorem sq_40 : (sx_wf sk_40 && sx_chk sj_P sk_CT 3000 sk_40) = true := by decide +kernel
set_option maxRecDepth 100000 in
theorem sq_41 : (sx_wf sk_41 && sx_chk sj_P sk_CT 3000 sk_41) = true := by decide +kernel
set_option maxRecDepth 100000 in
theorem sq_42 : (sx_wf sk_42 && sx_chk sj_P sk_CT 3000 sk_42) = true := by decide +kernel
set_option maxRecDepth 100000 in
theorem sq_43 : (sx_wf sk_43 && sx_chk sj_P sk_CT 3000 sk_43) = true := by decide +kernel
set_option maxRecDepth 100000 in
theorem sq_44 : (sx_wf sk_44 && sx_chk sj_P sk_CT 3000 sk_44) = true := by decide +kernel
set_option maxRecDepth 100000 in
theorem sq_45 : (sx_wf sk_45 && sx_chk sj_P sk_CT 3000 sk_45) = true := by decide +kernel
set_option maxRecDepth 100000 in
theorem sq_46 : (sx_wf sk_46 && sx_chk sj_P sk_CT 3000 sk_46) = true := by decide +kernel
set_option maxRecDepth 100000 in
theorem sq_47 : (sx_wf sk_47 && sx_chk sj_P sk_CT 3000 sk_47) = true := by decide +kernel
set_option maxRecDepth 100000 in
theorem sq_48 : (sx_wf sk_48 && sx_chk sj_P sk_CT 3000 sk_48) = true := by decide +kernel
set_option maxRecDepth 100000 in
theorem sq_49 : (sx_wf sk_49 && sx_chk sj_P sk_CT 3000 sk_49) = true := by decide +kernel
set_option maxRecDepth 100000 in
theorem sq_50 : (sx_wf sk_50 && sx_chk sj_P sk_CT 3000 sk_50) = true := by decide +kernel
set_option maxRecDepth 100000 in
theorem sq_51 : (sx_wf sk_51 && sx_chk sj_P sk_CT 3000 sk_51) = true := by decide +kernel
set_option maxRecDepth 100000 in
theorem sq_52 : (sx_wf sk_52 && sx_chk sj_P sk_CT 3000 sk_52) = true := by decide +kernel
set_option maxRecDepth 100000 in
theorem sq_53 : (sx_wf sk_53 && sx_chk sj_P sk_CT 3000 sk_53) = true := by decide +kernel
set_option maxRecDepth 100000 in
theorem sq_54 : (sx_wf sk_54 && sx_chk sj_P sk_CT 3000 sk_54) = true := by decide +kernel
set_option maxRecDepth 100000 in
theorem sq_55 : (sx_wf sk_55 && sx_chk sj_P sk_CT 3000 sk_55) = true := by decide +kernel
set_option maxRecDepth 100000 in
theorem sq_56 : (sx_wf sk_56 && sx_chk sj_P sk_CT 3000 sk_56) = true := by decide +kernel
set_option maxRecDepth 100000 in
theorem sq_57 : (sx_wf sk_57 && sx_chk sj_P sk_CT 3000 sk_57) = true := by decide +kernel
set_option maxRecDepth 100000 in
theorem sq_58 : (sx_wf sk_58 && sx_chk sj_P sk_CT 3000 sk_58) = true := by decide +kernel
set_option maxRecDepth 100000 in
theorem sq_59 : (sx_wf sk_59 && sx_chk sj_P sk_CT 3000 sk_59) = true := by decide +kernel
