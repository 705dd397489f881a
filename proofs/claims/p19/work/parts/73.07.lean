theorem te79 : sckE tm tc tf tg tcs tC79 tU79 2000 = true := by decide +kernel
theorem ta79 : ∀ B ∈ tU79, sckA tm tc tf tg tcs tC79 tU79 2000 B = true := fun B h => absurd h List.not_mem_nil
theorem te80 : sckE tm tc tf tg tcs tC80 tU80 2000 = true := by decide +kernel
theorem ta80 : ∀ B ∈ tU80, sckA tm tc tf tg tcs tC80 tU80 2000 B = true := fun B h => absurd h List.not_mem_nil
theorem te81 : sckE tm tc tf tg tcs tC81 tU81 2000 = true := by decide +kernel
theorem ta81 : ∀ B ∈ tU81, sckA tm tc tf tg tcs tC81 tU81 2000 B = true := fun B h => absurd h List.not_mem_nil
theorem te82 : sckE tm tc tf tg tcs tC82 tU82 2000 = true := by decide +kernel
theorem ta82 : ∀ B ∈ tU82, sckA tm tc tf tg tcs tC82 tU82 2000 B = true := fun B h => absurd h List.not_mem_nil
theorem te83 : sckE tm tc tf tg tcs tC83 tU83 2000 = true := by decide +kernel
theorem ta83 : ∀ B ∈ tU83, sckA tm tc tf tg tcs tC83 tU83 2000 B = true := fun B h => absurd h List.not_mem_nil
theorem te84 : sckE tm tc tf tg tcs tC84 tU84 2000 = true := by decide +kernel
theorem ta84 : ∀ B ∈ tU84, sckA tm tc tf tg tcs tC84 tU84 2000 B = true := List.all_eq_true.mp (by decide +kernel)
theorem te85 : sckE tm tc tf tg tcs tC85 tU85 2000 = true := by decide +kernel
theorem ta85 : ∀ B ∈ tU85, sckA tm tc tf tg tcs tC85 tU85 2000 B = true := List.all_eq_true.mp (by decide +kernel)
theorem te86 : sckE tm tc tf tg tcs tC86 tU86 2000 = true := by decide +kernel
theorem ta86 : ∀ B ∈ tU86, sckA tm tc tf tg tcs tC86 tU86 2000 B = true := List.all_eq_true.mp (by decide +kernel)
theorem te87 : sckE tm tc tf tg tcs tC87 tU87 2000 = true := by decide +kernel
theorem ta87 : ∀ B ∈ tU87, sckA tm tc tf tg tcs tC87 tU87 2000 B = true := List.all_eq_true.mp (by decide +kernel)
theorem te88 : sckE tm tc tf tg tcs tC88 tU88 2000 = true := by decide +kernel
theorem ta88 : ∀ B ∈ tU88, sckA tm tc tf tg tcs tC88 tU88 2000 B = true := List.all_eq_true.mp (by decide +kernel)
theorem te89 : sckE tm tc tf tg tcs tC89 tU89 2000 = true := by decide +kernel
theorem ta89 : ∀ B ∈ tU89, sckA tm tc tf tg tcs tC89 tU89 2000 B = true := List.all_eq_true.mp (by decide +kernel)
theorem te90 : sckE tm tc tf tg tcs tC90 tU90 2000 = true := by decide +kernel
theorem ta90 : ∀ B ∈ tU90, sckA tm tc tf tg tcs tC90 tU90 2000 B = true := fun B h => absurd h List.not_mem_nil
theorem te91 : sckE tm tc tf tg tcs tC91 tU91 2000 = true := by decide +kernel
theorem ta91 : ∀ B ∈ tU91, sckA tm tc tf tg tcs tC91 tU91 2000 B = true := List.all_eq_true.mp (by decide +kernel)
theorem te92 : sckE tm tc tf tg tcs tC92 tU92 2000 = true := by decide +kernel
theorem ta92 : ∀ B ∈ tU92, sckA tm tc tf tg tcs tC92 tU92 2000 B = true := fun B h => absurd h List.not_mem_nil
theorem te93 : sckE tm tc tf tg tcs tC93 tU93 2000 = true := by decide +kernel
theorem ta93 : ∀ B ∈ tU93, sckA tm tc tf tg tcs tC93 tU93 2000 B = true := fun B h => absurd h List.not_mem_nil
theorem te94 : sckE tm tc tf tg tcs tC94 tU94 2000 = true := by decide +kernel
theorem ta94 : ∀ B ∈ tU94, sckA tm tc tf tg tcs tC94 tU94 2000 B = true := fun B h => absurd h List.not_mem_nil
theorem te95 : sckE tm tc tf tg tcs tC95 tU95 2000 = true := by decide +kernel
theorem ta95 : ∀ B ∈ tU95, sckA tm tc tf tg tcs tC95 tU95 2000 B = true := fun B h => absurd h List.not_mem_nil
