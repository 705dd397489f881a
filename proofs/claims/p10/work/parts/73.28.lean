theorem te211 : sckE tm tc tf tg tcs tC211 tU211 2000 = true := by decide +kernel
theorem ta211 : ∀ B ∈ tU211, sckA tm tc tf tg tcs tC211 tU211 2000 B = true := fun B h => absurd h List.not_mem_nil
theorem te212 : sckE tm tc tf tg tcs tC212 tU212 2000 = true := by decide +kernel
theorem ta212 : ∀ B ∈ tU212, sckA tm tc tf tg tcs tC212 tU212 2000 B = true := fun B h => absurd h List.not_mem_nil
