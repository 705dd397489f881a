theorem zq25 : zdrive 10000 200 (zbox 25) = true := by decide +kernel
