theorem te3 : sckE tm tc tf tg tcs tC3 tU3 2000 = true := by decide +kernel
theorem ta3 : ∀ B ∈ tU3, sckA tm tc tf tg tcs tC3 tU3 2000 B = true := List.all_eq_true.mp (by decide +kernel)
theorem te4 : sckE tm tc tf tg tcs tC4 tU4 2000 = true := by decide +kernel
theorem ta4 : ∀ B ∈ tU4, sckA tm tc tf tg tcs tC4 tU4 2000 B = true := List.all_eq_true.mp (by decide +kernel)
theorem te5 : sckE tm tc tf tg tcs tC5 tU5 2000 = true := by decide +kernel
theorem ta5 : ∀ B ∈ tU5, sckA tm tc tf tg tcs tC5 tU5 2000 B = true := List.all_eq_true.mp (by decide +kernel)
theorem te6 : sckE tm tc tf tg tcs tC6 tU6 2000 = true := by decide +kernel
theorem ta6 : ∀ B ∈ tU6, sckA tm tc tf tg tcs tC6 tU6 2000 B = true := List.all_eq_true.mp (by decide +kernel)
theorem te7 : sckE tm tc tf tg tcs tC7 tU7 2000 = true := by decide +kernel
theorem ta7 : ∀ B ∈ tU7, sckA tm tc tf tg tcs tC7 tU7 2000 B = true := List.all_eq_true.mp (by decide +kernel)
theorem te8 : sckE tm tc tf tg tcs tC8 tU8 2000 = true := by decide +kernel
