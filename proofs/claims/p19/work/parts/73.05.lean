theorem te52 : sckE tm tc tf tg tcs tC52 tU52 2000 = true := by decide +kernel
theorem ta52 : ∀ B ∈ tU52, sckA tm tc tf tg tcs tC52 tU52 2000 B = true := List.all_eq_true.mp (by decide +kernel)
theorem te53 : sckE tm tc tf tg tcs tC53 tU53 2000 = true := by decide +kernel
theorem ta53 : ∀ B ∈ tU53, sckA tm tc tf tg tcs tC53 tU53 2000 B = true := List.all_eq_true.mp (by decide +kernel)
theorem te54 : sckE tm tc tf tg tcs tC54 tU54 2000 = true := by decide +kernel
theorem ta54 : ∀ B ∈ tU54, sckA tm tc tf tg tcs tC54 tU54 2000 B = true := List.all_eq_true.mp (by decide +kernel)
theorem te55 : sckE tm tc tf tg tcs tC55 tU55 2000 = true := by decide +kernel
theorem ta55 : ∀ B ∈ tU55, sckA tm tc tf tg tcs tC55 tU55 2000 B = true := List.all_eq_true.mp (by decide +kernel)
theorem te56 : sckE tm tc tf tg tcs tC56 tU56 2000 = true := by decide +kernel
theorem ta56 : ∀ B ∈ tU56, sckA tm tc tf tg tcs tC56 tU56 2000 B = true := List.all_eq_true.mp (by decide +kernel)
theorem te57 : sckE tm tc tf tg tcs tC57 tU57 2000 = true := by decide +kernel
theorem ta57 : ∀ B ∈ tU57, sckA tm tc tf tg tcs tC57 tU57 2000 B = true := List.all_eq_true.mp (by decide +kernel)
theorem te58 : sckE tm tc tf tg tcs tC58 tU58 2000 = true := by decide +kernel
theorem ta58 : ∀ B ∈ tU58, sckA tm tc tf tg tcs tC58 tU58 2000 B = true := List.all_eq_true.mp (by decide +kernel)
theorem te59 : sckE tm tc tf tg tcs tC59 tU59 2000 = true := by decide +kernel
theorem ta59 : ∀ B ∈ tU59, sckA tm tc tf tg tcs tC59 tU59 2000 B = true := List.all_eq_true.mp (by decide +kernel)
theorem te60 : sckE tm tc tf tg tcs tC60 tU60 2000 = true := by decide +kernel
theorem ta60 : ∀ B ∈ tU60, sckA tm tc tf tg tcs tC60 tU60 2000 B = true := List.all_eq_true.mp (by decide +kernel)
theorem te61 : sckE tm tc tf tg tcs tC61 tU61 2000 = true := by decide +kernel
theorem ta61 : ∀ B ∈ tU61, sckA tm tc tf tg tcs tC61 tU61 2000 B = true := List.all_eq_true.mp (by decide +kernel)
theorem te62 : sckE tm tc tf tg tcs tC62 tU62 2000 = true := by decide +kernel
theorem ta62 : ∀ B ∈ tU62, sckA tm tc tf tg tcs tC62 tU62 2000 B = true := fun B h => absurd h List.not_mem_nil
theorem te63 : sckE tm tc tf tg tcs tC63 tU63 2000 = true := by decide +kernel
theorem ta63 : ∀ B ∈ tU63, sckA tm tc tf tg tcs tC63 tU63 2000 B = true := fun B h => absurd h List.not_mem_nil
