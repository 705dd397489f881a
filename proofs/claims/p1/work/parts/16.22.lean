theorem zq27 : zdrive 10000 200 (zbox 27) = true := by decide +kernel
theorem zq28 : zdrive 10000 200 (zbox 28) = true := by decide +kernel
theorem zq29 : zdrive 10000 200 (zbox 29) = true := by decide +kernel
theorem zq30 : zdrive 10000 200 (zbox 30) = true := by decide +kernel
theorem zq31 : zdrive 10000 200 (zbox 31) = true := by decide +kernel
