theorem te143 : sckE tm tc tf tg tcs tC143 tU143 2000 = true := by decide +kernel
theorem ta143 : ∀ B ∈ tU143, sckA tm tc tf tg tcs tC143 tU143 2000 B = true := List.all_eq_true.mp (by decide +kernel)
theorem te144 : sckE tm tc tf tg tcs tC144 tU144 2000 = true := by decide +kernel
theorem ta144 : ∀ B ∈ tU144, sckA tm tc tf tg tcs tC144 tU144 2000 B = true := List.all_eq_true.mp (by decide +kernel)
theorem te145 : sckE tm tc tf tg tcs tC145 tU145 2000 = true := by decide +kernel
theorem ta145 : ∀ B ∈ tU145, sckA tm tc tf tg tcs tC145 tU145 2000 B = true := fun B h => absurd h List.not_mem_nil
theorem te146 : sckE tm tc tf tg tcs tC146 tU146 2000 = true := by decide +kernel
theorem ta146 : ∀ B ∈ tU146, sckA tm tc tf tg tcs tC146 tU146 2000 B = true := List.all_eq_true.mp (by decide +kernel)
