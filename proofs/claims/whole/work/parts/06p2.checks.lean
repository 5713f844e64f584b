/-! the checks of the law -/
theorem gl_640 : (List.range' 640 80).all (sxGood 257) = true := by decide +kernel
theorem gl_720 : (List.range' 720 80).all (sxGood 257) = true := by decide +kernel
theorem gl_800 : (List.range' 800 80).all (sxGood 257) = true := by decide +kernel
theorem gl_880 : (List.range' 880 80).all (sxGood 257) = true := by decide +kernel
