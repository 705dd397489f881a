theorem te48 : sckE tm tc tf tg tcs tC48 tU48 2000 = true := by decide +kernel
theorem ta48 : ∀ B ∈ tU48, sckA tm tc tf tg tcs tC48 tU48 2000 B = true := fun B h => absurd h List.not_mem_nil
theorem te49 : sckE tm tc tf tg tcs tC49 tU49 2000 = true := by decide +kernel
theorem ta49 : ∀ B ∈ tU49, sckA tm tc tf tg tcs tC49 tU49 2000 B = true := List.all_eq_true.mp (by decide +kernel)
theorem te50 : sckE tm tc tf tg tcs tC50 tU50 2000 = true := by decide +kernel
theorem ta50 : ∀ B ∈ tU50, sckA tm tc tf tg tcs tC50 tU50 2000 B = true := fun B h => absurd h List.not_mem_nil
theorem te51 : sckE tm tc tf tg tcs tC51 tU51 2000 = true := by decide +kernel
theorem ta51 : ∀ B ∈ tU51, sckA tm tc tf tg tcs tC51 tU51 2000 B = true := List.all_eq_true.mp (by decide +kernel)
