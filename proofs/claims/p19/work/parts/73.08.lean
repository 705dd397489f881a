theorem te96 : sckE tm tc tf tg tcs tC96 tU96 2000 = true := by decide +kernel
theorem ta96 : ∀ B ∈ tU96, sckA tm tc tf tg tcs tC96 tU96 2000 B = true := fun B h => absurd h List.not_mem_nil
theorem te97 : sckE tm tc tf tg tcs tC97 tU97 2000 = true := by decide +kernel
theorem ta97 : ∀ B ∈ tU97, sckA tm tc tf tg tcs tC97 tU97 2000 B = true := List.all_eq_true.mp (by decide +kernel)
theorem te98 : sckE tm tc tf tg tcs tC98 tU98 2000 = true := by decide +kernel
theorem ta98 : ∀ B ∈ tU98, sckA tm tc tf tg tcs tC98 tU98 2000 B = true := List.all_eq_true.mp (by decide +kernel)
theorem te99 : sckE tm tc tf tg tcs tC99 tU99 2000 = true := by decide +kernel
theorem ta99 : ∀ B ∈ tU99, sckA tm tc tf tg tcs tC99 tU99 2000 B = true := List.all_eq_true.mp (by decide +kernel)
theorem te100 : sckE tm tc tf tg tcs tC100 tU100 2000 = true := by decide +kernel
theorem ta100 : ∀ B ∈ tU100, sckA tm tc tf tg tcs tC100 tU100 2000 B = true := fun B h => absurd h List.not_mem_nil
theorem te101 : sckE tm tc tf tg tcs tC101 tU101 2000 = true := by decide +kernel
theorem ta101 : ∀ B ∈ tU101, sckA tm tc tf tg tcs tC101 tU101 2000 B = true := fun B h => absurd h List.not_mem_nil
theorem te102 : sckE tm tc tf tg tcs tC102 tU102 2000 = true := by decide +kernel
theorem ta102 : ∀ B ∈ tU102, sckA tm tc tf tg tcs tC102 tU102 2000 B = true := fun B h => absurd h List.not_mem_nil
