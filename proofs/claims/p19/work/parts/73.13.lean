theorem te138 : sckE tm tc tf tg tcs tC138 tU138 2000 = true := by decide +kernel
theorem ta138 : ∀ B ∈ tU138, sckA tm tc tf tg tcs tC138 tU138 2000 B = true := List.all_eq_true.mp (by decide +kernel)
theorem te139 : sckE tm tc tf tg tcs tC139 tU139 2000 = true := by decide +kernel
theorem ta139 : ∀ B ∈ tU139, sckA tm tc tf tg tcs tC139 tU139 2000 B = true := List.all_eq_true.mp (by decide +kernel)
theorem te140 : sckE tm tc tf tg tcs tC140 tU140 2000 = true := by decide +kernel
theorem ta140 : ∀ B ∈ tU140, sckA tm tc tf tg tcs tC140 tU140 2000 B = true := List.all_eq_true.mp (by decide +kernel)
theorem te141 : sckE tm tc tf tg tcs tC141 tU141 2000 = true := by decide +kernel
theorem ta141 : ∀ B ∈ tU141, sckA tm tc tf tg tcs tC141 tU141 2000 B = true := fun B h => absurd h List.not_mem_nil
theorem te142 : sckE tm tc tf tg tcs tC142 tU142 2000 = true := by decide +kernel
theorem ta142 : ∀ B ∈ tU142, sckA tm tc tf tg tcs tC142 tU142 2000 B = true := List.all_eq_true.mp (by decide +kernel)
theorem te143 : sckE tm tc tf tg tcs tC143 tU143 2000 = true := by decide +kernel
theorem ta143 : ∀ B ∈ tU143, sckA tm tc tf tg tcs tC143 tU143 2000 B = true := List.all_eq_true.mp (by decide +kernel)
theorem te144 : sckE tm tc tf tg tcs tC144 tU144 2000 = true := by decide +kernel
theorem ta144 : ∀ B ∈ tU144, sckA tm tc tf tg tcs tC144 tU144 2000 B = true := List.all_eq_true.mp (by decide +kernel)
