theorem te47 : sckE tm tc tf tg tcs tC47 tU47 2000 = true := by decide +kernel
theorem ta47 : ∀ B ∈ tU47, sckA tm tc tf tg tcs tC47 tU47 2000 B = true := List.all_eq_true.mp (by decide +kernel)
