theorem te165 : sckE tm tc tf tg tcs tC165 tU165 2000 = true := by decide +kernel
theorem ta165 : ∀ B ∈ tU165, sckA tm tc tf tg tcs tC165 tU165 2000 B = true := fun B h => absurd h List.not_mem_nil
theorem te166 : sckE tm tc tf tg tcs tC166 tU166 2000 = true := by decide +kernel
theorem ta166 : ∀ B ∈ tU166, sckA tm tc tf tg tcs tC166 tU166 2000 B = true := List.all_eq_true.mp (by decide +kernel)
