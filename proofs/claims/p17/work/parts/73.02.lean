theorem te31 : sckE tm tc tf tg tcs tC31 tU31 2000 = true := by decide +kernel
theorem ta31 : ∀ B ∈ tU31, sckA tm tc tf tg tcs tC31 tU31 2000 B = true := List.all_eq_true.mp (by decide +kernel)
