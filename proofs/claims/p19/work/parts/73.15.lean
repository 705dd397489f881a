theorem te148 : sckE tm tc tf tg tcs tC148 tU148 2000 = true := by decide +kernel
theorem ta148 : ∀ B ∈ tU148, sckA tm tc tf tg tcs tC148 tU148 2000 B = true := List.all_eq_true.mp (by decide +kernel)
theorem te149 : sckE tm tc tf tg tcs tC149 tU149 2000 = true := by decide +kernel
theorem ta149 : ∀ B ∈ tU149, sckA tm tc tf tg tcs tC149 tU149 2000 B = true := List.all_eq_true.mp (by decide +kernel)
theorem te150 : sckE tm tc tf tg tcs tC150 tU150 2000 = true := by decide +kernel
theorem ta150 : ∀ B ∈ tU150, sckA tm tc tf tg tcs tC150 tU150 2000 B = true := List.all_eq_true.mp (by decide +kernel)
