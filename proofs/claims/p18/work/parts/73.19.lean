theorem te160 : sckE tm tc tf tg tcs tC160 tU160 2000 = true := by decide +kernel
theorem ta160 : ∀ B ∈ tU160, sckA tm tc tf tg tcs tC160 tU160 2000 B = true := fun B h => absurd h List.not_mem_nil
theorem te161 : sckE tm tc tf tg tcs tC161 tU161 2000 = true := by decide +kernel
theorem ta161 : ∀ B ∈ tU161, sckA tm tc tf tg tcs tC161 tU161 2000 B = true := List.all_eq_true.mp (by decide +kernel)
