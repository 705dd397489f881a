theorem te208 : sckE tm tc tf tg tcs tC208 tU208 2000 = true := by decide +kernel
theorem ta208 : ∀ B ∈ tU208, sckA tm tc tf tg tcs tC208 tU208 2000 B = true := fun B h => absurd h List.not_mem_nil
theorem te209 : sckE tm tc tf tg tcs tC209 tU209 2000 = true := by decide +kernel
theorem ta209 : ∀ B ∈ tU209, sckA tm tc tf tg tcs tC209 tU209 2000 B = true := fun B h => absurd h List.not_mem_nil
