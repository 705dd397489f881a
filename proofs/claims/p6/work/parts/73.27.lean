theorem te209 : sckE tm tc tf tg tcs tC209 tU209 2000 = true := by decide +kernel
theorem ta209 : ∀ B ∈ tU209, sckA tm tc tf tg tcs tC209 tU209 2000 B = true := fun B h => absurd h List.not_mem_nil
theorem te210 : sckE tm tc tf tg tcs tC210 tU210 2000 = true := by decide +kernel
theorem ta210 : ∀ B ∈ tU210, sckA tm tc tf tg tcs tC210 tU210 2000 B = true := fun B h => absurd h List.not_mem_nil
