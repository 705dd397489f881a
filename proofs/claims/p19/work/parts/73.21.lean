theorem te163 : sckE tm tc tf tg tcs tC163 tU163 2000 = true := by decide +kernel
theorem ta163 : ∀ B ∈ tU163, sckA tm tc tf tg tcs tC163 tU163 2000 B = true := List.all_eq_true.mp (by decide +kernel)
theorem te164 : sckE tm tc tf tg tcs tC164 tU164 2000 = true := by decide +kernel
theorem ta164 : ∀ B ∈ tU164, sckA tm tc tf tg tcs tC164 tU164 2000 B = true := List.all_eq_true.mp (by decide +kernel)
theorem te165 : sckE tm tc tf tg tcs tC165 tU165 2000 = true := by decide +kernel
theorem ta165 : ∀ B ∈ tU165, sckA tm tc tf tg tcs tC165 tU165 2000 B = true := List.all_eq_true.mp (by decide +kernel)
