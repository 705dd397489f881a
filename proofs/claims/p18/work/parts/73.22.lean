theorem te167 : sckE tm tc tf tg tcs tC167 tU167 2000 = true := by decide +kernel
theorem ta167_0 : sckI tm tc tf tg tcs tC167 tU167 2000 0 = true := by decide +kernel
theorem ta167_1 : sckI tm tc tf tg tcs tC167 tU167 2000 1 = true := by decide +kernel
theorem ta167 : ∀ B ∈ tU167, sckA tm tc tf tg tcs tC167 tU167 2000 B = true := by
  intro B hB
  obtain ⟨i, hi⟩ := List.getElem?_of_mem hB
  match i, hi with
  | 0, hi => exact sckI_ok ta167_0 hi
  | 1, hi => exact sckI_ok ta167_1 hi
  | k + 2, hi => cases hi
