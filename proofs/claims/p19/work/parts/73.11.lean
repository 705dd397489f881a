theorem te120 : sckE tm tc tf tg tcs tC120 tU120 2000 = true := by decide +kernel
theorem ta120 : ∀ B ∈ tU120, sckA tm tc tf tg tcs tC120 tU120 2000 B = true := List.all_eq_true.mp (by decide +kernel)
theorem te121 : sckE tm tc tf tg tcs tC121 tU121 2000 = true := by decide +kernel
theorem ta121 : ∀ B ∈ tU121, sckA tm tc tf tg tcs tC121 tU121 2000 B = true := fun B h => absurd h List.not_mem_nil
theorem te122 : sckE tm tc tf tg tcs tC122 tU122 2000 = true := by decide +kernel
theorem ta122 : ∀ B ∈ tU122, sckA tm tc tf tg tcs tC122 tU122 2000 B = true := List.all_eq_true.mp (by decide +kernel)
theorem te123 : sckE tm tc tf tg tcs tC123 tU123 2000 = true := by decide +kernel
theorem ta123 : ∀ B ∈ tU123, sckA tm tc tf tg tcs tC123 tU123 2000 B = true := fun B h => absurd h List.not_mem_nil
theorem te124 : sckE tm tc tf tg tcs tC124 tU124 2000 = true := by decide +kernel
theorem ta124 : ∀ B ∈ tU124, sckA tm tc tf tg tcs tC124 tU124 2000 B = true := List.all_eq_true.mp (by decide +kernel)
theorem te125 : sckE tm tc tf tg tcs tC125 tU125 2000 = true := by decide +kernel
theorem ta125 : ∀ B ∈ tU125, sckA tm tc tf tg tcs tC125 tU125 2000 B = true := List.all_eq_true.mp (by decide +kernel)
theorem te126 : sckE tm tc tf tg tcs tC126 tU126 2000 = true := by decide +kernel
theorem ta126 : ∀ B ∈ tU126, sckA tm tc tf tg tcs tC126 tU126 2000 B = true := List.all_eq_true.mp (by decide +kernel)
theorem te127 : sckE tm tc tf tg tcs tC127 tU127 2000 = true := by decide +kernel
theorem ta127 : ∀ B ∈ tU127, sckA tm tc tf tg tcs tC127 tU127 2000 B = true := List.all_eq_true.mp (by decide +kernel)
theorem te128 : sckE tm tc tf tg tcs tC128 tU128 2000 = true := by decide +kernel
theorem ta128 : ∀ B ∈ tU128, sckA tm tc tf tg tcs tC128 tU128 2000 B = true := List.all_eq_true.mp (by decide +kernel)
theorem te129 : sckE tm tc tf tg tcs tC129 tU129 2000 = true := by decide +kernel
theorem ta129 : ∀ B ∈ tU129, sckA tm tc tf tg tcs tC129 tU129 2000 B = true := List.all_eq_true.mp (by decide +kernel)
