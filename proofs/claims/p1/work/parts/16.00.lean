theorem zq1 : zdrive 10000 200 (zbox 1) = true := by decide +kernel
theorem zq2 : zdrive 10000 200 (zbox 2) = true := by decide +kernel
theorem zq3 : zdrive 10000 200 (zbox 3) = true := by decide +kernel
theorem zq4 : zdrive 10000 200 (zbox 4) = true := by decide +kernel
theorem zq5 : zdrive 10000 200 (zbox 5) = true := by decide +kernel
