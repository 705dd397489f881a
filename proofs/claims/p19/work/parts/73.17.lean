theorem te153 : sckE tm tc tf tg tcs tC153 tU153 2000 = true := by decide +kernel
theorem ta153 : ∀ B ∈ tU153, sckA tm tc tf tg tcs tC153 tU153 2000 B = true := List.all_eq_true.mp (by decide +kernel)
theorem te154 : sckE tm tc tf tg tcs tC154 tU154 2000 = true := by decide +kernel
theorem ta154 : ∀ B ∈ tU154, sckA tm tc tf tg tcs tC154 tU154 2000 B = true := List.all_eq_true.mp (by decide +kernel)
theorem te155 : sckE tm tc tf tg tcs tC155 tU155 2000 = true := by decide +kernel
theorem ta155 : ∀ B ∈ tU155, sckA tm tc tf tg tcs tC155 tU155 2000 B = true := List.all_eq_true.mp (by decide +kernel)
