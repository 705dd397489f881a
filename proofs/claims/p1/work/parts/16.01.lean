theorem zq6 : zdrive 10000 200 (zbox 6) = true := by decide +kernel
theorem zq7 : zdrive 10000 200 (zbox 7) = true := by decide +kernel
theorem zq9 : zdrive 10000 200 (zbox 9) = true := by decide +kernel
theorem zq10 : zdrive 10000 200 (zbox 10) = true := by decide +kernel
theorem zq11 : zdrive 10000 200 (zbox 11) = true := by decide +kernel
