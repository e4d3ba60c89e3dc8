set_option maxRecDepth 100000 in
theorem at_l30 : ax_law at_P at_DT at_O (at_B 30 30) = true := by decide +kernel
set_option maxRecDepth 100000 in
theorem at_l31 : ax_law at_P at_DT at_O (at_B 31 31) = true := by decide +kernel
set_option maxRecDepth 100000 in
theorem at_l32 : ax_law at_P at_DT at_O (at_B 32 32) = true := by decide +kernel
set_option maxRecDepth 100000 in
theorem at_l33 : ax_law at_P at_DT at_O (at_B 33 33) = true := by decide +kernel
set_option maxRecDepth 100000 in
theorem at_l34 : ax_law at_P at_DT at_O (at_B 34 34) = true := by decide +kernel
set_option maxRecDepth 100000 in
theorem at_l35 : ax_law at_P at_DT at_O (at_B 35 35) = true := by decide +kernel
set_option maxRecDepth 100000 in
theorem at_l36 : ax_law at_P at_DT at_O (at_B 36 36) = true := by decide +kernel
set_option maxRecDepth 100000 in
theorem at_l37 : ax_law at_P at_DT at_O (at_B 37 37) = true := by decide +kernel
set_option maxRecDepth 100000 in
theorem at_l38 : ax_law at_P at_DT at_O (at_B 38 38) = true := by decide +kernel
set_option maxRecDepth 100000 in
theorem at_l39 : ax_law at_P at_DT at_O (at_B 39 39) = true := by decide +kernel
set_option maxRecDepth 100000 in
theorem at_l40 : ax_law at_P at_DT at_O (at_B 40 63) = true := by decide +kernel
