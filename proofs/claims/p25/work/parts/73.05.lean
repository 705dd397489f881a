theorem te58 : sckE tm tc tf tg tcs tC58 tU58 2000 = true := by decide +kernel
theorem ta58 : ∀ B ∈ tU58, sckA tm tc tf tg tcs tC58 tU58 2000 B = true := List.all_eq_true.mp (by decide +kernel)
