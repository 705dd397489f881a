theorem te128 : sckE tm tc tf tg tcs tC128 tU128 2000 = true := by decide +kernel
theorem ta128 : ∀ B ∈ tU128, sckA tm tc tf tg tcs tC128 tU128 2000 B = true := List.all_eq_true.mp (by decide +kernel)
theorem te129 : sckE tm tc tf tg tcs tC129 tU129 2000 = true := by decide +kernel
theorem ta129 : ∀ B ∈ tU129, sckA tm tc tf tg tcs tC129 tU129 2000 B = true := List.all_eq_true.mp (by decide +kernel)
theorem te130 : sckE tm tc tf tg tcs tC130 tU130 2000 = true := by decide +kernel
theorem ta130 : ∀ B ∈ tU130, sckA tm tc tf tg tcs tC130 tU130 2000 B = true := List.all_eq_true.mp (by decide +kernel)
theorem te131 : sckE tm tc tf tg tcs tC131 tU131 2000 = true := by decide +kernel
theorem ta131 : ∀ B ∈ tU131, sckA tm tc tf tg tcs tC131 tU131 2000 B = true := List.all_eq_true.mp (by decide +kernel)
theorem te132 : sckE tm tc tf tg tcs tC132 tU132 2000 = true := by decide +kernel
theorem ta132 : ∀ B ∈ tU132, sckA tm tc tf tg tcs tC132 tU132 2000 B = true := fun B h => absurd h List.not_mem_nil
theorem te133 : sckE tm tc tf tg tcs tC133 tU133 2000 = true := by decide +kernel
theorem ta133 : ∀ B ∈ tU133, sckA tm tc tf tg tcs tC133 tU133 2000 B = true := fun B h => absurd h List.not_mem_nil
theorem te134 : sckE tm tc tf tg tcs tC134 tU134 2000 = true := by decide +kernel
theorem ta134 : ∀ B ∈ tU134, sckA tm tc tf tg tcs tC134 tU134 2000 B = true := fun B h => absurd h List.not_mem_nil
theorem te135 : sckE tm tc tf tg tcs tC135 tU135 2000 = true := by decide +kernel
theorem ta135_0 : sckI tm tc tf tg tcs tC135 tU135 2000 0 = true := by decide +kernel
theorem ta135_1 : sckI tm tc tf tg tcs tC135 tU135 2000 1 = true := by decide +kernel
theorem ta135_2 : sckI tm tc tf tg tcs tC135 tU135 2000 2 = true := by decide +kernel
theorem ta135_3 : sckI tm tc tf tg tcs tC135 tU135 2000 3 = true := by decide +kernel
theorem ta135_4 : sckI tm tc tf tg tcs tC135 tU135 2000 4 = true := by decide +kernel
theorem ta135_5 : sckI tm tc tf tg tcs tC135 tU135 2000 5 = true := by decide +kernel
theorem ta135_6 : sckI tm tc tf tg tcs tC135 tU135 2000 6 = true := by decide +kernel
theorem ta135_7 : sckI tm tc tf tg tcs tC135 tU135 2000 7 = true := by decide +kernel
theorem ta135_8 : sckI tm tc tf tg tcs tC135 tU135 2000 8 = true := by decide +kernel
theorem ta135_9 : sckI tm tc tf tg tcs tC135 tU135 2000 9 = true := by decide +kernel
theorem ta135_10 : sckI tm tc tf tg tcs tC135 tU135 2000 10 = true := by decide +kernel
theorem ta135_11 : sckI tm tc tf tg tcs tC135 tU135 2000 11 = true := by decide +kernel
theorem ta135_12 : sckI tm tc tf tg tcs tC135 tU135 2000 12 = true := by decide +kernel
theorem ta135_13 : sckI tm tc tf tg tcs tC135 tU135 2000 13 = true := by decide +kernel
theorem ta135_14 : sckI tm tc tf tg tcs tC135 tU135 2000 14 = true := by decide +kernel
theorem ta135 : ∀ B ∈ tU135, sckA tm tc tf tg tcs tC135 tU135 2000 B = true := by
  intro B hB
  obtain ⟨i, hi⟩ := List.getElem?_of_mem hB
  match i, hi with
  | 0, hi => exact sckI_ok ta135_0 hi
  | 1, hi => exact sckI_ok ta135_1 hi
  | 2, hi => exact sckI_ok ta135_2 hi
  | 3, hi => exact sckI_ok ta135_3 hi
  | 4, hi => exact sckI_ok ta135_4 hi
  | 5, hi => exact sckI_ok ta135_5 hi
  | 6, hi => exact sckI_ok ta135_6 hi
  | 7, hi => exact sckI_ok ta135_7 hi
  | 8, hi => exact sckI_ok ta135_8 hi
  | 9, hi => exact sckI_ok ta135_9 hi
  | 10, hi => exact sckI_ok ta135_10 hi
  | 11, hi => exact sckI_ok ta135_11 hi
  | 12, hi => exact sckI_ok ta135_12 hi
  | 13, hi => exact sckI_ok ta135_13 hi
  | 14, hi => exact sckI_ok ta135_14 hi
  | k + 15, hi => cases hi
