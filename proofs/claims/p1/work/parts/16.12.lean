theorem zq17 : zdrive 10000 200 (zbox 17) = true := by decide +kernel
theorem zq18 : zdrive 10000 200 (zbox 18) = true := by decide +kernel
theorem zq19 : zdrive 10000 200 (zbox 19) = true := by decide +kernel
