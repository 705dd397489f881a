theorem te212 : sckE tm tc tf tg tcs tC212 tU212 2000 = true := by decide +kernel
theorem ta212 : ∀ B ∈ tU212, sckA tm tc tf tg tcs tC212 tU212 2000 B = true := fun B h => absurd h List.not_mem_nil
theorem te213 : sckE tm tc tf tg tcs tC213 tU213 2000 = true := by decide +kernel
theorem ta213 : ∀ B ∈ tU213, sckA tm tc tf tg tcs tC213 tU213 2000 B = true := fun B h => absurd h List.not_mem_nil
theorem te214 : sckE tm tc tf tg tcs tC214 tU214 2000 = true := by decide +kernel
theorem ta214 : ∀ B ∈ tU214, sckA tm tc tf tg tcs tC214 tU214 2000 B = true := fun B h => absurd h List.not_mem_nil
theorem te215 : sckE tm tc tf tg tcs tC215 tU215 2000 = true := by decide +kernel
theorem ta215 : ∀ B ∈ tU215, sckA tm tc tf tg tcs tC215 tU215 2000 B = true := List.all_eq_true.mp (by decide +kernel)
theorem te216 : sckE tm tc tf tg tcs tC216 tU216 2000 = true := by decide +kernel
theorem ta216 : ∀ B ∈ tU216, sckA tm tc tf tg tcs tC216 tU216 2000 B = true := List.all_eq_true.mp (by decide +kernel)
theorem te217 : sckE tm tc tf tg tcs tC217 tU217 2000 = true := by decide +kernel
theorem ta217 : ∀ B ∈ tU217, sckA tm tc tf tg tcs tC217 tU217 2000 B = true := List.all_eq_true.mp (by decide +kernel)
theorem te218 : sckE tm tc tf tg tcs tC218 tU218 2000 = true := by decide +kernel
theorem ta218 : ∀ B ∈ tU218, sckA tm tc tf tg tcs tC218 tU218 2000 B = true := fun B h => absurd h List.not_mem_nil
theorem te219 : sckE tm tc tf tg tcs tC219 tU219 2000 = true := by decide +kernel
theorem ta219 : ∀ B ∈ tU219, sckA tm tc tf tg tcs tC219 tU219 2000 B = true := List.all_eq_true.mp (by decide +kernel)
