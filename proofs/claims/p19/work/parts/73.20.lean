theorem te161 : sckE tm tc tf tg tcs tC161 tU161 2000 = true := by decide +kernel
theorem ta161 : ∀ B ∈ tU161, sckA tm tc tf tg tcs tC161 tU161 2000 B = true := fun B h => absurd h List.not_mem_nil
theorem te162 : sckE tm tc tf tg tcs tC162 tU162 2000 = true := by decide +kernel
theorem ta162 : ∀ B ∈ tU162, sckA tm tc tf tg tcs tC162 tU162 2000 B = true := List.all_eq_true.mp (by decide +kernel)
