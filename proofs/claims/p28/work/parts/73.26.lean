theorem te198 : sckE tm tc tf tg tcs tC198 tU198 2000 = true := by decide +kernel
theorem ta198 : ∀ B ∈ tU198, sckA tm tc tf tg tcs tC198 tU198 2000 B = true := List.all_eq_true.mp (by decide +kernel)
theorem te199 : sckE tm tc tf tg tcs tC199 tU199 2000 = true := by decide +kernel
theorem ta199 : ∀ B ∈ tU199, sckA tm tc tf tg tcs tC199 tU199 2000 B = true := fun B h => absurd h List.not_mem_nil
theorem te200 : sckE tm tc tf tg tcs tC200 tU200 2000 = true := by decide +kernel
theorem ta200 : ∀ B ∈ tU200, sckA tm tc tf tg tcs tC200 tU200 2000 B = true := fun B h => absurd h List.not_mem_nil
theorem te201 : sckE tm tc tf tg tcs tC201 tU201 2000 = true := by decide +kernel
theorem ta201 : ∀ B ∈ tU201, sckA tm tc tf tg tcs tC201 tU201 2000 B = true := List.all_eq_true.mp (by decide +kernel)
theorem te202 : sckE tm tc tf tg tcs tC202 tU202 2000 = true := by decide +kernel
theorem ta202 : ∀ B ∈ tU202, sckA tm tc tf tg tcs tC202 tU202 2000 B = true := fun B h => absurd h List.not_mem_nil
theorem te203 : sckE tm tc tf tg tcs tC203 tU203 2000 = true := by decide +kernel
theorem ta203 : ∀ B ∈ tU203, sckA tm tc tf tg tcs tC203 tU203 2000 B = true := fun B h => absurd h List.not_mem_nil
theorem te204 : sckE tm tc tf tg tcs tC204 tU204 2000 = true := by decide +kernel
theorem ta204 : ∀ B ∈ tU204, sckA tm tc tf tg tcs tC204 tU204 2000 B = true := List.all_eq_true.mp (by decide +kernel)
theorem te205 : sckE tm tc tf tg tcs tC205 tU205 2000 = true := by decide +kernel
theorem ta205 : ∀ B ∈ tU205, sckA tm tc tf tg tcs tC205 tU205 2000 B = true := List.all_eq_true.mp (by decide +kernel)
theorem te206 : sckE tm tc tf tg tcs tC206 tU206 2000 = true := by decide +kernel
theorem ta206 : ∀ B ∈ tU206, sckA tm tc tf tg tcs tC206 tU206 2000 B = true := List.all_eq_true.mp (by decide +kernel)
theorem te207 : sckE tm tc tf tg tcs tC207 tU207 2000 = true := by decide +kernel
theorem ta207 : ∀ B ∈ tU207, sckA tm tc tf tg tcs tC207 tU207 2000 B = true := List.all_eq_true.mp (by decide +kernel)
