theorem te151 : sckE tm tc tf tg tcs tC151 tU151 2000 = true := by decide +kernel
theorem ta151 : ∀ B ∈ tU151, sckA tm tc tf tg tcs tC151 tU151 2000 B = true := fun B h => absurd h List.not_mem_nil
theorem te152 : sckE tm tc tf tg tcs tC152 tU152 2000 = true := by decide +kernel
theorem ta152 : ∀ B ∈ tU152, sckA tm tc tf tg tcs tC152 tU152 2000 B = true := List.all_eq_true.mp (by decide +kernel)
