theorem te155 : sckE tm tc tf tg tcs tC155 tU155 2000 = true := by decide +kernel
theorem ta155 : ∀ B ∈ tU155, sckA tm tc tf tg tcs tC155 tU155 2000 B = true := fun B h => absurd h List.not_mem_nil
theorem te156 : sckE tm tc tf tg tcs tC156 tU156 2000 = true := by decide +kernel
theorem ta156 : ∀ B ∈ tU156, sckA tm tc tf tg tcs tC156 tU156 2000 B = true := List.all_eq_true.mp (by decide +kernel)
