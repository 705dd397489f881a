theorem te146 : sckE tm tc tf tg tcs tC146 tU146 2000 = true := by decide +kernel
theorem ta146 : ∀ B ∈ tU146, sckA tm tc tf tg tcs tC146 tU146 2000 B = true := List.all_eq_true.mp (by decide +kernel)
theorem te147 : sckE tm tc tf tg tcs tC147 tU147 2000 = true := by decide +kernel
theorem ta147 : ∀ B ∈ tU147, sckA tm tc tf tg tcs tC147 tU147 2000 B = true := List.all_eq_true.mp (by decide +kernel)
theorem te148 : sckE tm tc tf tg tcs tC148 tU148 2000 = true := by decide +kernel
theorem ta148 : ∀ B ∈ tU148, sckA tm tc tf tg tcs tC148 tU148 2000 B = true := List.all_eq_true.mp (by decide +kernel)
