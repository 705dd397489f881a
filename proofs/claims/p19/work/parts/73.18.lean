theorem te156 : sckE tm tc tf tg tcs tC156 tU156 2000 = true := by decide +kernel
theorem ta156 : ∀ B ∈ tU156, sckA tm tc tf tg tcs tC156 tU156 2000 B = true := fun B h => absurd h List.not_mem_nil
theorem te157 : sckE tm tc tf tg tcs tC157 tU157 2000 = true := by decide +kernel
theorem ta157 : ∀ B ∈ tU157, sckA tm tc tf tg tcs tC157 tU157 2000 B = true := List.all_eq_true.mp (by decide +kernel)
