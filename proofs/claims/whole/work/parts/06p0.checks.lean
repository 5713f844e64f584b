/-! the checks of the law -/
theorem gl_0 : (List.range' 0 80).all (sxGood 257) = true := by decide +kernel
theorem gl_80 : (List.range' 80 80).all (sxGood 257) = true := by decide +kernel
theorem gl_160 : (List.range' 160 80).all (sxGood 257) = true := by decide +kernel
theorem gl_240 : (List.range' 240 80).all (sxGood 257) = true := by decide +kernel
