theorem te116 : sckE tm tc tf tg tcs tC116 tU116 2000 = true := by decide +kernel
theorem ta116 : ∀ B ∈ tU116, sckA tm tc tf tg tcs tC116 tU116 2000 B = true := List.all_eq_true.mp (by decide +kernel)
theorem te117 : sckE tm tc tf tg tcs tC117 tU117 2000 = true := by decide +kernel
theorem ta117 : ∀ B ∈ tU117, sckA tm tc tf tg tcs tC117 tU117 2000 B = true := List.all_eq_true.mp (by decide +kernel)
theorem te118 : sckE tm tc tf tg tcs tC118 tU118 2000 = true := by decide +kernel
theorem ta118 : ∀ B ∈ tU118, sckA tm tc tf tg tcs tC118 tU118 2000 B = true := List.all_eq_true.mp (by decide +kernel)
theorem te119 : sckE tm tc tf tg tcs tC119 tU119 2000 = true := by decide +kernel
theorem ta119 : ∀ B ∈ tU119, sckA tm tc tf tg tcs tC119 tU119 2000 B = true := List.all_eq_true.mp (by decide +kernel)
