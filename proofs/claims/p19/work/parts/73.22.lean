theorem te166 : sckE tm tc tf tg tcs tC166 tU166 2000 = true := by decide +kernel
theorem ta166 : ∀ B ∈ tU166, sckA tm tc tf tg tcs tC166 tU166 2000 B = true := fun B h => absurd h List.not_mem_nil
theorem te167 : sckE tm tc tf tg tcs tC167 tU167 2000 = true := by decide +kernel
theorem ta167 : ∀ B ∈ tU167, sckA tm tc tf tg tcs tC167 tU167 2000 B = true := List.all_eq_true.mp (by decide +kernel)
