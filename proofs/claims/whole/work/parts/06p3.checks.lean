/-! the checks of the law -/
theorem gl_960 : (List.range' 960 80).all (sxGood 257) = true := by decide +kernel
theorem gl_1040 : (List.range' 1040 80).all (sxGood 257) = true := by decide +kernel
theorem gl_1120 : (List.range' 1120 80).all (sxGood 257) = true := by decide +kernel
theorem gl_1200 : (List.range' 1200 80).all (sxGood 257) = true := by decide +kernel
