theorem zq16 : zdrive 10000 200 (zbox 16) = true := by decide +kernel
