theorem te130 : sckE tm tc tf tg tcs tC130 tU130 2000 = true := by decide +kernel
theorem ta130 : ∀ B ∈ tU130, sckA tm tc tf tg tcs tC130 tU130 2000 B = true := List.all_eq_true.mp (by decide +kernel)
theorem te131 : sckE tm tc tf tg tcs tC131 tU131 2000 = true := by decide +kernel
theorem ta131 : ∀ B ∈ tU131, sckA tm tc tf tg tcs tC131 tU131 2000 B = true := List.all_eq_true.mp (by decide +kernel)
theorem te132 : sckE tm tc tf tg tcs tC132 tU132 2000 = true := by decide +kernel
theorem ta132 : ∀ B ∈ tU132, sckA tm tc tf tg tcs tC132 tU132 2000 B = true := List.all_eq_true.mp (by decide +kernel)
theorem te133 : sckE tm tc tf tg tcs tC133 tU133 2000 = true := by decide +kernel
theorem ta133 : ∀ B ∈ tU133, sckA tm tc tf tg tcs tC133 tU133 2000 B = true := List.all_eq_true.mp (by decide +kernel)
theorem te134 : sckE tm tc tf tg tcs tC134 tU134 2000 = true := by decide +kernel
theorem ta134 : ∀ B ∈ tU134, sckA tm tc tf tg tcs tC134 tU134 2000 B = true := fun B h => absurd h List.not_mem_nil
theorem te135 : sckE tm tc tf tg tcs tC135 tU135 2000 = true := by decide +kernel
theorem ta135 : ∀ B ∈ tU135, sckA tm tc tf tg tcs tC135 tU135 2000 B = true := fun B h => absurd h List.not_mem_nil
theorem te136 : sckE tm tc tf tg tcs tC136 tU136 2000 = true := by decide +kernel
theorem ta136 : ∀ B ∈ tU136, sckA tm tc tf tg tcs tC136 tU136 2000 B = true := fun B h => absurd h List.not_mem_nil
theorem te137 : sckE tm tc tf tg tcs tC137 tU137 2000 = true := by decide +kernel
theorem ta137_0 : sckI tm tc tf tg tcs tC137 tU137 2000 0 = true := by decide +kernel
theorem ta137_1 : sckI tm tc tf tg tcs tC137 tU137 2000 1 = true := by decide +kernel
theorem ta137_2 : sckI tm tc tf tg tcs tC137 tU137 2000 2 = true := by decide +kernel
theorem ta137_3 : sckI tm tc tf tg tcs tC137 tU137 2000 3 = true := by decide +kernel
theorem ta137_4 : sckI tm tc tf tg tcs tC137 tU137 2000 4 = true := by decide +kernel
theorem ta137_5 : sckI tm tc tf tg tcs tC137 tU137 2000 5 = true := by decide +kernel
theorem ta137_6 : sckI tm tc tf tg tcs tC137 tU137 2000 6 = true := by decide +kernel
theorem ta137_7 : sckI tm tc tf tg tcs tC137 tU137 2000 7 = true := by decide +kernel
theorem ta137_8 : sckI tm tc tf tg tcs tC137 tU137 2000 8 = true := by decide +kernel
theorem ta137_9 : sckI tm tc tf tg tcs tC137 tU137 2000 9 = true := by decide +kernel
theorem ta137_10 : sckI tm tc tf tg tcs tC137 tU137 2000 10 = true := by decide +kernel
theorem ta137_11 : sckI tm tc tf tg tcs tC137 tU137 2000 11 = true := by decide +kernel
theorem ta137_12 : sckI tm tc tf tg tcs tC137 tU137 2000 12 = true := by decide +kernel
theorem ta137_13 : sckI tm tc tf tg tcs tC137 tU137 2000 13 = true := by decide +kernel
theorem ta137_14 : sckI tm tc tf tg tcs tC137 tU137 2000 14 = true := by decide +kernel
theorem ta137 : ∀ B ∈ tU137, sckA tm tc tf tg tcs tC137 tU137 2000 B = true := by
  intro B hB
  obtain ⟨i, hi⟩ := List.getElem?_of_mem hB
  match i, hi with
  | 0, hi => exact sckI_ok ta137_0 hi
  | 1, hi => exact sckI_ok ta137_1 hi
  | 2, hi => exact sckI_ok ta137_2 hi
  | 3, hi => exact sckI_ok ta137_3 hi
  | 4, hi => exact sckI_ok ta137_4 hi
  | 5, hi => exact sckI_ok ta137_5 hi
  | 6, hi => exact sckI_ok ta137_6 hi
  | 7, hi => exact sckI_ok ta137_7 hi
  | 8, hi => exact sckI_ok ta137_8 hi
  | 9, hi => exact sckI_ok ta137_9 hi
  | 10, hi => exact sckI_ok ta137_10 hi
  | 11, hi => exact sckI_ok ta137_11 hi
  | 12, hi => exact sckI_ok ta137_12 hi
  | 13, hi => exact sckI_ok ta137_13 hi
  | 14, hi => exact sckI_ok ta137_14 hi
  | k + 15, hi => cases hi
