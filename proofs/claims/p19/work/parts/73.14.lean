theorem te145 : sckE tm tc tf tg tcs tC145 tU145 2000 = true := by decide +kernel
theorem ta145 : ∀ B ∈ tU145, sckA tm tc tf tg tcs tC145 tU145 2000 B = true := List.all_eq_true.mp (by decide +kernel)
theorem te146 : sckE tm tc tf tg tcs tC146 tU146 2000 = true := by decide +kernel
theorem ta146 : ∀ B ∈ tU146, sckA tm tc tf tg tcs tC146 tU146 2000 B = true := fun B h => absurd h List.not_mem_nil
theorem te147 : sckE tm tc tf tg tcs tC147 tU147 2000 = true := by decide +kernel
theorem ta147 : ∀ B ∈ tU147, sckA tm tc tf tg tcs tC147 tU147 2000 B = true := List.all_eq_true.mp (by decide +kernel)
