theorem te158 : sckE tm tc tf tg tcs tC158 tU158 2000 = true := by decide +kernel
theorem ta158 : ∀ B ∈ tU158, sckA tm tc tf tg tcs tC158 tU158 2000 B = true := List.all_eq_true.mp (by decide +kernel)
theorem te159 : sckE tm tc tf tg tcs tC159 tU159 2000 = true := by decide +kernel
theorem ta159 : ∀ B ∈ tU159, sckA tm tc tf tg tcs tC159 tU159 2000 B = true := List.all_eq_true.mp (by decide +kernel)
theorem te160 : sckE tm tc tf tg tcs tC160 tU160 2000 = true := by decide +kernel
theorem ta160 : ∀ B ∈ tU160, sckA tm tc tf tg tcs tC160 tU160 2000 B = true := List.all_eq_true.mp (by decide +kernel)
