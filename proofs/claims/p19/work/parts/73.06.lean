theorem te64 : sckE tm tc tf tg tcs tC64 tU64 2000 = true := by decide +kernel
theorem ta64 : ∀ B ∈ tU64, sckA tm tc tf tg tcs tC64 tU64 2000 B = true := List.all_eq_true.mp (by decide +kernel)
theorem te65 : sckE tm tc tf tg tcs tC65 tU65 2000 = true := by decide +kernel
theorem ta65 : ∀ B ∈ tU65, sckA tm tc tf tg tcs tC65 tU65 2000 B = true := List.all_eq_true.mp (by decide +kernel)
theorem te66 : sckE tm tc tf tg tcs tC66 tU66 2000 = true := by decide +kernel
theorem ta66 : ∀ B ∈ tU66, sckA tm tc tf tg tcs tC66 tU66 2000 B = true := List.all_eq_true.mp (by decide +kernel)
theorem te67 : sckE tm tc tf tg tcs tC67 tU67 2000 = true := by decide +kernel
theorem ta67 : ∀ B ∈ tU67, sckA tm tc tf tg tcs tC67 tU67 2000 B = true := List.all_eq_true.mp (by decide +kernel)
theorem te68 : sckE tm tc tf tg tcs tC68 tU68 2000 = true := by decide +kernel
theorem ta68 : ∀ B ∈ tU68, sckA tm tc tf tg tcs tC68 tU68 2000 B = true := fun B h => absurd h List.not_mem_nil
theorem te69 : sckE tm tc tf tg tcs tC69 tU69 2000 = true := by decide +kernel
theorem ta69 : ∀ B ∈ tU69, sckA tm tc tf tg tcs tC69 tU69 2000 B = true := List.all_eq_true.mp (by decide +kernel)
theorem te70 : sckE tm tc tf tg tcs tC70 tU70 2000 = true := by decide +kernel
theorem ta70 : ∀ B ∈ tU70, sckA tm tc tf tg tcs tC70 tU70 2000 B = true := List.all_eq_true.mp (by decide +kernel)
theorem te71 : sckE tm tc tf tg tcs tC71 tU71 2000 = true := by decide +kernel
theorem ta71 : ∀ B ∈ tU71, sckA tm tc tf tg tcs tC71 tU71 2000 B = true := List.all_eq_true.mp (by decide +kernel)
theorem te72 : sckE tm tc tf tg tcs tC72 tU72 2000 = true := by decide +kernel
theorem ta72 : ∀ B ∈ tU72, sckA tm tc tf tg tcs tC72 tU72 2000 B = true := List.all_eq_true.mp (by decide +kernel)
theorem te73 : sckE tm tc tf tg tcs tC73 tU73 2000 = true := by decide +kernel
theorem ta73 : ∀ B ∈ tU73, sckA tm tc tf tg tcs tC73 tU73 2000 B = true := List.all_eq_true.mp (by decide +kernel)
theorem te74 : sckE tm tc tf tg tcs tC74 tU74 2000 = true := by decide +kernel
theorem ta74 : ∀ B ∈ tU74, sckA tm tc tf tg tcs tC74 tU74 2000 B = true := List.all_eq_true.mp (by decide +kernel)
theorem te75 : sckE tm tc tf tg tcs tC75 tU75 2000 = true := by decide +kernel
theorem ta75 : ∀ B ∈ tU75, sckA tm tc tf tg tcs tC75 tU75 2000 B = true := List.all_eq_true.mp (by decide +kernel)
theorem te76 : sckE tm tc tf tg tcs tC76 tU76 2000 = true := by decide +kernel
theorem ta76 : ∀ B ∈ tU76, sckA tm tc tf tg tcs tC76 tU76 2000 B = true := fun B h => absurd h List.not_mem_nil
theorem te77 : sckE tm tc tf tg tcs tC77 tU77 2000 = true := by decide +kernel
theorem ta77 : ∀ B ∈ tU77, sckA tm tc tf tg tcs tC77 tU77 2000 B = true := List.all_eq_true.mp (by decide +kernel)
theorem te78 : sckE tm tc tf tg tcs tC78 tU78 2000 = true := by decide +kernel
theorem ta78 : ∀ B ∈ tU78, sckA tm tc tf tg tcs tC78 tU78 2000 B = true := fun B h => absurd h List.not_mem_nil
