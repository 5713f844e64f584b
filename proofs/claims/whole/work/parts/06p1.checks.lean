/-! the checks of the law -/
theorem gl_320 : (List.range' 320 80).all (sxGood 257) = true := by decide +kernel
theorem gl_400 : (List.range' 400 80).all (sxGood 257) = true := by decide +kernel
theorem gl_480 : (List.range' 480 80).all (sxGood 257) = true := by decide +kernel
theorem gl_560 : (List.range' 560 80).all (sxGood 257) = true := by decide +kernel
