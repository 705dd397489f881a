theorem te30 : sckE tm tc tf tg tcs tC30 tU30 2000 = true := by decide +kernel
theorem ta30 : ∀ B ∈ tU30, sckA tm tc tf tg tcs tC30 tU30 2000 B = true := List.all_eq_true.mp (by decide +kernel)
theorem te31 : sckE tm tc tf tg tcs tC31 tU31 2000 = true := by decide +kernel
theorem ta31 : ∀ B ∈ tU31, sckA tm tc tf tg tcs tC31 tU31 2000 B = true := List.all_eq_true.mp (by decide +kernel)
theorem te32 : sckE tm tc tf tg tcs tC32 tU32 2000 = true := by decide +kernel
theorem ta32 : ∀ B ∈ tU32, sckA tm tc tf tg tcs tC32 tU32 2000 B = true := List.all_eq_true.mp (by decide +kernel)
theorem te33 : sckE tm tc tf tg tcs tC33 tU33 2000 = true := by decide +kernel
theorem ta33 : ∀ B ∈ tU33, sckA tm tc tf tg tcs tC33 tU33 2000 B = true := fun B h => absurd h List.not_mem_nil
theorem te34 : sckE tm tc tf tg tcs tC34 tU34 2000 = true := by decide +kernel
theorem ta34 : ∀ B ∈ tU34, sckA tm tc tf tg tcs tC34 tU34 2000 B = true := List.all_eq_true.mp (by decide +kernel)
theorem te35 : sckE tm tc tf tg tcs tC35 tU35 2000 = true := by decide +kernel
theorem ta35 : ∀ B ∈ tU35, sckA tm tc tf tg tcs tC35 tU35 2000 B = true := List.all_eq_true.mp (by decide +kernel)
theorem te36 : sckE tm tc tf tg tcs tC36 tU36 2000 = true := by decide +kernel
theorem ta36 : ∀ B ∈ tU36, sckA tm tc tf tg tcs tC36 tU36 2000 B = true := List.all_eq_true.mp (by decide +kernel)
theorem te37 : sckE tm tc tf tg tcs tC37 tU37 2000 = true := by decide +kernel
theorem ta37 : ∀ B ∈ tU37, sckA tm tc tf tg tcs tC37 tU37 2000 B = true := fun B h => absurd h List.not_mem_nil
theorem te38 : sckE tm tc tf tg tcs tC38 tU38 2000 = true := by decide +kernel
theorem ta38 : ∀ B ∈ tU38, sckA tm tc tf tg tcs tC38 tU38 2000 B = true := fun B h => absurd h List.not_mem_nil
theorem te39 : sckE tm tc tf tg tcs tC39 tU39 2000 = true := by decide +kernel
theorem ta39 : ∀ B ∈ tU39, sckA tm tc tf tg tcs tC39 tU39 2000 B = true := fun B h => absurd h List.not_mem_nil
theorem te40 : sckE tm tc tf tg tcs tC40 tU40 2000 = true := by decide +kernel
theorem ta40 : ∀ B ∈ tU40, sckA tm tc tf tg tcs tC40 tU40 2000 B = true := fun B h => absurd h List.not_mem_nil
theorem te41 : sckE tm tc tf tg tcs tC41 tU41 2000 = true := by decide +kernel
theorem ta41 : ∀ B ∈ tU41, sckA tm tc tf tg tcs tC41 tU41 2000 B = true := List.all_eq_true.mp (by decide +kernel)
theorem te42 : sckE tm tc tf tg tcs tC42 tU42 2000 = true := by decide +kernel
theorem ta42 : ∀ B ∈ tU42, sckA tm tc tf tg tcs tC42 tU42 2000 B = true := List.all_eq_true.mp (by decide +kernel)
theorem te43 : sckE tm tc tf tg tcs tC43 tU43 2000 = true := by decide +kernel
theorem ta43 : ∀ B ∈ tU43, sckA tm tc tf tg tcs tC43 tU43 2000 B = true := List.all_eq_true.mp (by decide +kernel)
theorem te44 : sckE tm tc tf tg tcs tC44 tU44 2000 = true := by decide +kernel
theorem ta44 : ∀ B ∈ tU44, sckA tm tc tf tg tcs tC44 tU44 2000 B = true := List.all_eq_true.mp (by decide +kernel)
theorem te45 : sckE tm tc tf tg tcs tC45 tU45 2000 = true := by decide +kernel
theorem ta45 : ∀ B ∈ tU45, sckA tm tc tf tg tcs tC45 tU45 2000 B = true := List.all_eq_true.mp (by decide +kernel)
theorem te46 : sckE tm tc tf tg tcs tC46 tU46 2000 = true := by decide +kernel
theorem ta46 : ∀ B ∈ tU46, sckA tm tc tf tg tcs tC46 tU46 2000 B = true := List.all_eq_true.mp (by decide +kernel)
