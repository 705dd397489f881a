theorem te130 : sckE tm tc tf tg tcs tC130 tU130 2000 = true := by decide +kernel
theorem ta130 : ∀ B ∈ tU130, sckA tm tc tf tg tcs tC130 tU130 2000 B = true := List.all_eq_true.mp (by decide +kernel)
theorem te131 : sckE tm tc tf tg tcs tC131 tU131 2000 = true := by decide +kernel
theorem ta131 : ∀ B ∈ tU131, sckA tm tc tf tg tcs tC131 tU131 2000 B = true := List.all_eq_true.mp (by decide +kernel)
theorem te132 : sckE tm tc tf tg tcs tC132 tU132 2000 = true := by decide +kernel
theorem ta132 : ∀ B ∈ tU132, sckA tm tc tf tg tcs tC132 tU132 2000 B = true := List.all_eq_true.mp (by decide +kernel)
theorem te133 : sckE tm tc tf tg tcs tC133 tU133 2000 = true := by decide +kernel
theorem ta133 : ∀ B ∈ tU133, sckA tm tc tf tg tcs tC133 tU133 2000 B = true := List.all_eq_true.mp (by decide +kernel)
theorem te134 : sckE tm tc tf tg tcs tC134 tU134 2000 = true := by decide +kernel
theorem ta134 : ∀ B ∈ tU134, sckA tm tc tf tg tcs tC134 tU134 2000 B = true := fun B h => absurd h List.not_mem_nil
theorem te135 : sckE tm tc tf tg tcs tC135 tU135 2000 = true := by decide +kernel
theorem ta135 : ∀ B ∈ tU135, sckA tm tc tf tg tcs tC135 tU135 2000 B = true := fun B h => absurd h List.not_mem_nil
theorem te136 : sckE tm tc tf tg tcs tC136 tU136 2000 = true := by decide +kernel
theorem ta136 : ∀ B ∈ tU136, sckA tm tc tf tg tcs tC136 tU136 2000 B = true := fun B h => absurd h List.not_mem_nil
theorem te137 : sckE tm tc tf tg tcs tC137 tU137 2000 = true := by decide +kernel
theorem ta137 : ∀ B ∈ tU137, sckA tm tc tf tg tcs tC137 tU137 2000 B = true := List.all_eq_true.mp (by decide +kernel)
theorem te138 : sckE tm tc tf tg tcs tC138 tU138 2000 = true := by decide +kernel
theorem ta138 : ∀ B ∈ tU138, sckA tm tc tf tg tcs tC138 tU138 2000 B = true := List.all_eq_true.mp (by decide +kernel)
theorem te139 : sckE tm tc tf tg tcs tC139 tU139 2000 = true := by decide +kernel
theorem ta139 : ∀ B ∈ tU139, sckA tm tc tf tg tcs tC139 tU139 2000 B = true := List.all_eq_true.mp (by decide +kernel)
theorem te140 : sckE tm tc tf tg tcs tC140 tU140 2000 = true := by decide +kernel
theorem ta140 : ∀ B ∈ tU140, sckA tm tc tf tg tcs tC140 tU140 2000 B = true := fun B h => absurd h List.not_mem_nil
theorem te141 : sckE tm tc tf tg tcs tC141 tU141 2000 = true := by decide +kernel
theorem ta141 : ∀ B ∈ tU141, sckA tm tc tf tg tcs tC141 tU141 2000 B = true := List.all_eq_true.mp (by decide +kernel)
theorem te142 : sckE tm tc tf tg tcs tC142 tU142 2000 = true := by decide +kernel
theorem ta142 : ∀ B ∈ tU142, sckA tm tc tf tg tcs tC142 tU142 2000 B = true := List.all_eq_true.mp (by decide +kernel)
