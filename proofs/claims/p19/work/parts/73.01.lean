theorem te16 : sckE tm tc tf tg tcs tC16 tU16 2000 = true := by decide +kernel
theorem ta16 : ∀ B ∈ tU16, sckA tm tc tf tg tcs tC16 tU16 2000 B = true := List.all_eq_true.mp (by decide +kernel)
theorem te17 : sckE tm tc tf tg tcs tC17 tU17 2000 = true := by decide +kernel
theorem ta17 : ∀ B ∈ tU17, sckA tm tc tf tg tcs tC17 tU17 2000 B = true := fun B h => absurd h List.not_mem_nil
theorem te18 : sckE tm tc tf tg tcs tC18 tU18 2000 = true := by decide +kernel
theorem ta18 : ∀ B ∈ tU18, sckA tm tc tf tg tcs tC18 tU18 2000 B = true := List.all_eq_true.mp (by decide +kernel)
theorem te19 : sckE tm tc tf tg tcs tC19 tU19 2000 = true := by decide +kernel
theorem ta19 : ∀ B ∈ tU19, sckA tm tc tf tg tcs tC19 tU19 2000 B = true := fun B h => absurd h List.not_mem_nil
theorem te20 : sckE tm tc tf tg tcs tC20 tU20 2000 = true := by decide +kernel
theorem ta20 : ∀ B ∈ tU20, sckA tm tc tf tg tcs tC20 tU20 2000 B = true := fun B h => absurd h List.not_mem_nil
theorem te21 : sckE tm tc tf tg tcs tC21 tU21 2000 = true := by decide +kernel
theorem ta21 : ∀ B ∈ tU21, sckA tm tc tf tg tcs tC21 tU21 2000 B = true := List.all_eq_true.mp (by decide +kernel)
theorem te22 : sckE tm tc tf tg tcs tC22 tU22 2000 = true := by decide +kernel
theorem ta22 : ∀ B ∈ tU22, sckA tm tc tf tg tcs tC22 tU22 2000 B = true := List.all_eq_true.mp (by decide +kernel)
theorem te23 : sckE tm tc tf tg tcs tC23 tU23 2000 = true := by decide +kernel
theorem ta23 : ∀ B ∈ tU23, sckA tm tc tf tg tcs tC23 tU23 2000 B = true := List.all_eq_true.mp (by decide +kernel)
theorem te24 : sckE tm tc tf tg tcs tC24 tU24 2000 = true := by decide +kernel
theorem ta24 : ∀ B ∈ tU24, sckA tm tc tf tg tcs tC24 tU24 2000 B = true := List.all_eq_true.mp (by decide +kernel)
theorem te25 : sckE tm tc tf tg tcs tC25 tU25 2000 = true := by decide +kernel
theorem ta25 : ∀ B ∈ tU25, sckA tm tc tf tg tcs tC25 tU25 2000 B = true := List.all_eq_true.mp (by decide +kernel)
theorem te26 : sckE tm tc tf tg tcs tC26 tU26 2000 = true := by decide +kernel
theorem ta26 : ∀ B ∈ tU26, sckA tm tc tf tg tcs tC26 tU26 2000 B = true := fun B h => absurd h List.not_mem_nil
theorem te27 : sckE tm tc tf tg tcs tC27 tU27 2000 = true := by decide +kernel
theorem ta27 : ∀ B ∈ tU27, sckA tm tc tf tg tcs tC27 tU27 2000 B = true := List.all_eq_true.mp (by decide +kernel)
theorem te28 : sckE tm tc tf tg tcs tC28 tU28 2000 = true := by decide +kernel
theorem ta28 : ∀ B ∈ tU28, sckA tm tc tf tg tcs tC28 tU28 2000 B = true := List.all_eq_true.mp (by decide +kernel)
theorem te29 : sckE tm tc tf tg tcs tC29 tU29 2000 = true := by decide +kernel
theorem ta29 : ∀ B ∈ tU29, sckA tm tc tf tg tcs tC29 tU29 2000 B = true := List.all_eq_true.mp (by decide +kernel)
