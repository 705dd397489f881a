theorem te210 : sckE tm tc tf tg tcs tC210 tU210 2000 = true := by decide +kernel
theorem ta210 : ∀ B ∈ tU210, sckA tm tc tf tg tcs tC210 tU210 2000 B = true := fun B h => absurd h List.not_mem_nil
theorem te211 : sckE tm tc tf tg tcs tC211 tU211 2000 = true := by decide +kernel
theorem ta211 : ∀ B ∈ tU211, sckA tm tc tf tg tcs tC211 tU211 2000 B = true := fun B h => absurd h List.not_mem_nil
