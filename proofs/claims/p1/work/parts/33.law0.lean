/-! THE LAW, BY THE FIRST NUMBER -/
set_option maxRecDepth 100000 in
theorem at_l0 : ax_law at_P at_DT at_O (at_B 0 0) = true := by decide +kernel
set_option maxRecDepth 100000 in
theorem at_l1 : ax_law at_P at_DT at_O (at_B 1 1) = true := by decide +kernel
set_option maxRecDepth 100000 in
theorem at_l2 : ax_law at_P at_DT at_O (at_B 2 2) = true := by decide +kernel
set_option maxRecDepth 100000 in
theorem at_l3 : ax_law at_P at_DT at_O (at_B 3 3) = true := by decide +kernel
set_option maxRecDepth 100000 in
theorem at_l4 : ax_law at_P at_DT at_O (at_B 4 4) = true := by decide +kernel
set_option maxRecDepth 100000 in
theorem at_l5 : ax_law at_P at_DT at_O (at_B 5 5) = true := by decide +kernel
set_option maxRecDepth 100000 in
theorem at_l6 : ax_law at_P at_DT at_O (at_B 6 6) = true := by decide +kernel
set_option maxRecDepth 100000 in
theorem at_l7 : ax_law at_P at_DT at_O (at_B 7 7) = true := by decide +kernel
set_option maxRecDepth 100000 in
theorem at_l8 : ax_law at_P at_DT at_O (at_B 8 8) = true := by decide +kernel
set_option maxRecDepth 100000 in
theorem at_l9 : ax_law at_P at_DT at_O (at_B 9 9) = true := by decide +kernel
