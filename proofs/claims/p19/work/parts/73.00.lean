theorem te3 : sckE tm tc tf tg tcs tC3 tU3 2000 = true := by decide +kernel
theorem ta3 : ∀ B ∈ tU3, sckA tm tc tf tg tcs tC3 tU3 2000 B = true := List.all_eq_true.mp (by decide +kernel)
theorem te4 : sckE tm tc tf tg tcs tC4 tU4 2000 = true := by decide +kernel
theorem ta4 : ∀ B ∈ tU4, sckA tm tc tf tg tcs tC4 tU4 2000 B = true := List.all_eq_true.mp (by decide +kernel)
theorem te5 : sckE tm tc tf tg tcs tC5 tU5 2000 = true := by decide +kernel
theorem ta5 : ∀ B ∈ tU5, sckA tm tc tf tg tcs tC5 tU5 2000 B = true := List.all_eq_true.mp (by decide +kernel)
theorem te6 : sckE tm tc tf tg tcs tC6 tU6 2000 = true := by decide +kernel
theorem ta6 : ∀ B ∈ tU6, sckA tm tc tf tg tcs tC6 tU6 2000 B = true := List.all_eq_true.mp (by decide +kernel)
theorem te7 : sckE tm tc tf tg tcs tC7 tU7 2000 = true := by decide +kernel
theorem ta7 : ∀ B ∈ tU7, sckA tm tc tf tg tcs tC7 tU7 2000 B = true := List.all_eq_true.mp (by decide +kernel)
theorem te8 : sckE tm tc tf tg tcs tC8 tU8 2000 = true := by decide +kernel
theorem ta8 : ∀ B ∈ tU8, sckA tm tc tf tg tcs tC8 tU8 2000 B = true := fun B h => absurd h List.not_mem_nil
theorem te9 : sckE tm tc tf tg tcs tC9 tU9 2000 = true := by decide +kernel
theorem ta9 : ∀ B ∈ tU9, sckA tm tc tf tg tcs tC9 tU9 2000 B = true := fun B h => absurd h List.not_mem_nil
theorem te10 : sckE tm tc tf tg tcs tC10 tU10 2000 = true := by decide +kernel
theorem ta10 : ∀ B ∈ tU10, sckA tm tc tf tg tcs tC10 tU10 2000 B = true := List.all_eq_true.mp (by decide +kernel)
theorem te11 : sckE tm tc tf tg tcs tC11 tU11 2000 = true := by decide +kernel
theorem ta11 : ∀ B ∈ tU11, sckA tm tc tf tg tcs tC11 tU11 2000 B = true := List.all_eq_true.mp (by decide +kernel)
theorem te12 : sckE tm tc tf tg tcs tC12 tU12 2000 = true := by decide +kernel
theorem ta12 : ∀ B ∈ tU12, sckA tm tc tf tg tcs tC12 tU12 2000 B = true := List.all_eq_true.mp (by decide +kernel)
theorem te13 : sckE tm tc tf tg tcs tC13 tU13 2000 = true := by decide +kernel
theorem ta13 : ∀ B ∈ tU13, sckA tm tc tf tg tcs tC13 tU13 2000 B = true := List.all_eq_true.mp (by decide +kernel)
theorem te14 : sckE tm tc tf tg tcs tC14 tU14 2000 = true := by decide +kernel
theorem ta14 : ∀ B ∈ tU14, sckA tm tc tf tg tcs tC14 tU14 2000 B = true := List.all_eq_true.mp (by decide +kernel)
theorem te15 : sckE tm tc tf tg tcs tC15 tU15 2000 = true := by decide +kernel
theorem ta15 : ∀ B ∈ tU15, sckA tm tc tf tg tcs tC15 tU15 2000 B = true := List.all_eq_true.mp (by decide +kernel)
