theorem te103 : sckE tm tc tf tg tcs tC103 tU103 2000 = true := by decide +kernel
theorem ta103 : ∀ B ∈ tU103, sckA tm tc tf tg tcs tC103 tU103 2000 B = true := fun B h => absurd h List.not_mem_nil
theorem te104 : sckE tm tc tf tg tcs tC104 tU104 2000 = true := by decide +kernel
theorem ta104 : ∀ B ∈ tU104, sckA tm tc tf tg tcs tC104 tU104 2000 B = true := fun B h => absurd h List.not_mem_nil
theorem te105 : sckE tm tc tf tg tcs tC105 tU105 2000 = true := by decide +kernel
theorem ta105 : ∀ B ∈ tU105, sckA tm tc tf tg tcs tC105 tU105 2000 B = true := fun B h => absurd h List.not_mem_nil
theorem te106 : sckE tm tc tf tg tcs tC106 tU106 2000 = true := by decide +kernel
theorem ta106 : ∀ B ∈ tU106, sckA tm tc tf tg tcs tC106 tU106 2000 B = true := List.all_eq_true.mp (by decide +kernel)
theorem te107 : sckE tm tc tf tg tcs tC107 tU107 2000 = true := by decide +kernel
theorem ta107 : ∀ B ∈ tU107, sckA tm tc tf tg tcs tC107 tU107 2000 B = true := List.all_eq_true.mp (by decide +kernel)
theorem te108 : sckE tm tc tf tg tcs tC108 tU108 2000 = true := by decide +kernel
theorem ta108 : ∀ B ∈ tU108, sckA tm tc tf tg tcs tC108 tU108 2000 B = true := List.all_eq_true.mp (by decide +kernel)
theorem te109 : sckE tm tc tf tg tcs tC109 tU109 2000 = true := by decide +kernel
theorem ta109 : ∀ B ∈ tU109, sckA tm tc tf tg tcs tC109 tU109 2000 B = true := fun B h => absurd h List.not_mem_nil
theorem te110 : sckE tm tc tf tg tcs tC110 tU110 2000 = true := by decide +kernel
theorem ta110 : ∀ B ∈ tU110, sckA tm tc tf tg tcs tC110 tU110 2000 B = true := List.all_eq_true.mp (by decide +kernel)
theorem te111 : sckE tm tc tf tg tcs tC111 tU111 2000 = true := by decide +kernel
theorem ta111 : ∀ B ∈ tU111, sckA tm tc tf tg tcs tC111 tU111 2000 B = true := fun B h => absurd h List.not_mem_nil
theorem te112 : sckE tm tc tf tg tcs tC112 tU112 2000 = true := by decide +kernel
theorem ta112_0 : sckI tm tc tf tg tcs tC112 tU112 2000 0 = true := by decide +kernel
theorem ta112_1 : sckI tm tc tf tg tcs tC112 tU112 2000 1 = true := by decide +kernel
theorem ta112_2 : sckI tm tc tf tg tcs tC112 tU112 2000 2 = true := by decide +kernel
theorem ta112_3 : sckI tm tc tf tg tcs tC112 tU112 2000 3 = true := by decide +kernel
theorem ta112_4 : sckI tm tc tf tg tcs tC112 tU112 2000 4 = true := by decide +kernel
theorem ta112 : ∀ B ∈ tU112, sckA tm tc tf tg tcs tC112 tU112 2000 B = true := by
  intro B hB
  obtain ⟨i, hi⟩ := List.getElem?_of_mem hB
  match i, hi with
  | 0, hi => exact sckI_ok ta112_0 hi
  | 1, hi => exact sckI_ok ta112_1 hi
  | 2, hi => exact sckI_ok ta112_2 hi
  | 3, hi => exact sckI_ok ta112_3 hi
  | 4, hi => exact sckI_ok ta112_4 hi
  | k + 5, hi => cases hi
theorem te113 : sckE tm tc tf tg tcs tC113 tU113 2000 = true := by decide +kernel
theorem ta113 : ∀ B ∈ tU113, sckA tm tc tf tg tcs tC113 tU113 2000 B = true := List.all_eq_true.mp (by decide +kernel)
theorem te114 : sckE tm tc tf tg tcs tC114 tU114 2000 = true := by decide +kernel
theorem ta114 : ∀ B ∈ tU114, sckA tm tc tf tg tcs tC114 tU114 2000 B = true := List.all_eq_true.mp (by decide +kernel)
theorem te115 : sckE tm tc tf tg tcs tC115 tU115 2000 = true := by decide +kernel
theorem ta115 : ∀ B ∈ tU115, sckA tm tc tf tg tcs tC115 tU115 2000 B = true := List.all_eq_true.mp (by decide +kernel)
