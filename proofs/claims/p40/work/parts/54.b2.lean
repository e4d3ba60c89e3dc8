/-! THE CONSTRUCTORS END AS THE LITERALS SAY -/
set_option maxRecDepth 100000 in
theorem at_c1 : ax_chk at_P at_O1 = true := by decide +kernel
set_option maxRecDepth 100000 in
theorem at_c2 : ax_chk at_P at_O2 = true := by decide +kernel
