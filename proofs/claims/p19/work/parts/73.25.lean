theorem te182 : sckE tm tc tf tg tcs tC182 tU182 2000 = true := by decide +kernel
theorem ta182 : ∀ B ∈ tU182, sckA tm tc tf tg tcs tC182 tU182 2000 B = true := List.all_eq_true.mp (by decide +kernel)
theorem te183 : sckE tm tc tf tg tcs tC183 tU183 2000 = true := by decide +kernel
theorem ta183 : ∀ B ∈ tU183, sckA tm tc tf tg tcs tC183 tU183 2000 B = true := List.all_eq_true.mp (by decide +kernel)
theorem te184 : sckE tm tc tf tg tcs tC184 tU184 2000 = true := by decide +kernel
theorem ta184 : ∀ B ∈ tU184, sckA tm tc tf tg tcs tC184 tU184 2000 B = true := List.all_eq_true.mp (by decide +kernel)
theorem te185 : sckE tm tc tf tg tcs tC185 tU185 2000 = true := by decide +kernel
theorem ta185 : ∀ B ∈ tU185, sckA tm tc tf tg tcs tC185 tU185 2000 B = true := List.all_eq_true.mp (by decide +kernel)
theorem te186 : sckE tm tc tf tg tcs tC186 tU186 2000 = true := by decide +kernel
theorem ta186 : ∀ B ∈ tU186, sckA tm tc tf tg tcs tC186 tU186 2000 B = true := List.all_eq_true.mp (by decide +kernel)
theorem te187 : sckE tm tc tf tg tcs tC187 tU187 2000 = true := by decide +kernel
theorem ta187 : ∀ B ∈ tU187, sckA tm tc tf tg tcs tC187 tU187 2000 B = true := List.all_eq_true.mp (by decide +kernel)
theorem te188 : sckE tm tc tf tg tcs tC188 tU188 2000 = true := by decide +kernel
theorem ta188 : ∀ B ∈ tU188, sckA tm tc tf tg tcs tC188 tU188 2000 B = true := List.all_eq_true.mp (by decide +kernel)
theorem te189 : sckE tm tc tf tg tcs tC189 tU189 2000 = true := by decide +kernel
theorem ta189 : ∀ B ∈ tU189, sckA tm tc tf tg tcs tC189 tU189 2000 B = true := List.all_eq_true.mp (by decide +kernel)
theorem te190 : sckE tm tc tf tg tcs tC190 tU190 2000 = true := by decide +kernel
theorem ta190 : ∀ B ∈ tU190, sckA tm tc tf tg tcs tC190 tU190 2000 B = true := List.all_eq_true.mp (by decide +kernel)
theorem te191 : sckE tm tc tf tg tcs tC191 tU191 2000 = true := by decide +kernel
theorem ta191 : ∀ B ∈ tU191, sckA tm tc tf tg tcs tC191 tU191 2000 B = true := List.all_eq_true.mp (by decide +kernel)
theorem te192 : sckE tm tc tf tg tcs tC192 tU192 2000 = true := by decide +kernel
theorem ta192 : ∀ B ∈ tU192, sckA tm tc tf tg tcs tC192 tU192 2000 B = true := List.all_eq_true.mp (by decide +kernel)
