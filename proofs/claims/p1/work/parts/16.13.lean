theorem zq20 : zdrive 10000 200 (zbox 20) = true := by decide +kernel
theorem zq21 : zdrive 10000 200 (zbox 21) = true := by decide +kernel
theorem zq22 : zdrive 10000 200 (zbox 22) = true := by decide +kernel
theorem zq23_0 : zdrive 10000 200 [(-2147483648, 2147483647), (-2147483648, -1), (-2147483648, 2147483647), (-2147483648, 2147483647), (-2147483648, 2147483647), (-2147483648, 2147483647), (-2147483648, 2147483647), (23, 23)] = true := by decide +kernel
