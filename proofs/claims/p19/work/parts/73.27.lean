theorem te200 : sckE tm tc tf tg tcs tC200 tU200 2000 = true := by decide +kernel
theorem ta200 : ∀ B ∈ tU200, sckA tm tc tf tg tcs tC200 tU200 2000 B = true := List.all_eq_true.mp (by decide +kernel)
theorem te201 : sckE tm tc tf tg tcs tC201 tU201 2000 = true := by decide +kernel
theorem ta201 : ∀ B ∈ tU201, sckA tm tc tf tg tcs tC201 tU201 2000 B = true := fun B h => absurd h List.not_mem_nil
theorem te202 : sckE tm tc tf tg tcs tC202 tU202 2000 = true := by decide +kernel
theorem ta202 : ∀ B ∈ tU202, sckA tm tc tf tg tcs tC202 tU202 2000 B = true := fun B h => absurd h List.not_mem_nil
theorem te203 : sckE tm tc tf tg tcs tC203 tU203 2000 = true := by decide +kernel
theorem ta203 : ∀ B ∈ tU203, sckA tm tc tf tg tcs tC203 tU203 2000 B = true := List.all_eq_true.mp (by decide +kernel)
theorem te204 : sckE tm tc tf tg tcs tC204 tU204 2000 = true := by decide +kernel
theorem ta204 : ∀ B ∈ tU204, sckA tm tc tf tg tcs tC204 tU204 2000 B = true := fun B h => absurd h List.not_mem_nil
theorem te205 : sckE tm tc tf tg tcs tC205 tU205 2000 = true := by decide +kernel
theorem ta205 : ∀ B ∈ tU205, sckA tm tc tf tg tcs tC205 tU205 2000 B = true := fun B h => absurd h List.not_mem_nil
theorem te206 : sckE tm tc tf tg tcs tC206 tU206 2000 = true := by decide +kernel
theorem ta206 : ∀ B ∈ tU206, sckA tm tc tf tg tcs tC206 tU206 2000 B = true := List.all_eq_true.mp (by decide +kernel)
theorem te207 : sckE tm tc tf tg tcs tC207 tU207 2000 = true := by decide +kernel
theorem ta207 : ∀ B ∈ tU207, sckA tm tc tf tg tcs tC207 tU207 2000 B = true := List.all_eq_true.mp (by decide +kernel)
theorem te208 : sckE tm tc tf tg tcs tC208 tU208 2000 = true := by decide +kernel
theorem ta208 : ∀ B ∈ tU208, sckA tm tc tf tg tcs tC208 tU208 2000 B = true := List.all_eq_true.mp (by decide +kernel)
theorem te209 : sckE tm tc tf tg tcs tC209 tU209 2000 = true := by decide +kernel
theorem ta209 : ∀ B ∈ tU209, sckA tm tc tf tg tcs tC209 tU209 2000 B = true := List.all_eq_true.mp (by decide +kernel)
