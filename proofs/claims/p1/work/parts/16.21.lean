theorem zq26 : zdrive 10000 200 (zbox 26) = true := by decide +kernel
