theorem te167 : sckE tm tc tf tg tcs tC167 tU167 2000 = true := by decide +kernel
theorem ta167_0 : sckI tm tc tf tg tcs tC167 tU167 2000 0 = true := by decide +kernel
theorem ta167_1 : sckI tm tc tf tg tcs tC167 tU167 2000 1 = true := by decide +kernel
theorem ta167_2 : sckI tm tc tf tg tcs tC167 tU167 2000 2 = true := by decide +kernel
theorem ta167_3 : sckI tm tc tf tg tcs tC167 tU167 2000 3 = true := by decide +kernel
theorem ta167_4 : sckI tm tc tf tg tcs tC167 tU167 2000 4 = true := by decide +kernel
theorem ta167_5 : sckI tm tc tf tg tcs tC167 tU167 2000 5 = true := by decide +kernel
theorem ta167_6 : sckI tm tc tf tg tcs tC167 tU167 2000 6 = true := by decide +kernel
theorem ta167_7 : sckI tm tc tf tg tcs tC167 tU167 2000 7 = true := by decide +kernel
theorem ta167_8 : sckI tm tc tf tg tcs tC167 tU167 2000 8 = true := by decide +kernel
theorem ta167_9 : sckI tm tc tf tg tcs tC167 tU167 2000 9 = true := by decide +kernel
theorem ta167_10 : sckI tm tc tf tg tcs tC167 tU167 2000 10 = true := by decide +kernel
theorem ta167_11 : sckI tm tc tf tg tcs tC167 tU167 2000 11 = true := by decide +kernel
theorem ta167_12 : sckI tm tc tf tg tcs tC167 tU167 2000 12 = true := by decide +kernel
theorem ta167_13 : sckI tm tc tf tg tcs tC167 tU167 2000 13 = true := by decide +kernel
theorem ta167_14 : sckI tm tc tf tg tcs tC167 tU167 2000 14 = true := by decide +kernel
theorem ta167 : ∀ B ∈ tU167, sckA tm tc tf tg tcs tC167 tU167 2000 B = true := by
  intro B hB
  obtain ⟨i, hi⟩ := List.getElem?_of_mem hB
  match i, hi with
  | 0, hi => exact sckI_ok ta167_0 hi
  | 1, hi => exact sckI_ok ta167_1 hi
  | 2, hi => exact sckI_ok ta167_2 hi
  | 3, hi => exact sckI_ok ta167_3 hi
  | 4, hi => exact sckI_ok ta167_4 hi
  | 5, hi => exact sckI_ok ta167_5 hi
  | 6, hi => exact sckI_ok ta167_6 hi
  | 7, hi => exact sckI_ok ta167_7 hi
  | 8, hi => exact sckI_ok ta167_8 hi
  | 9, hi => exact sckI_ok ta167_9 hi
  | 10, hi => exact sckI_ok ta167_10 hi
  | 11, hi => exact sckI_ok ta167_11 hi
  | 12, hi => exact sckI_ok ta167_12 hi
  | 13, hi => exact sckI_ok ta167_13 hi
  | 14, hi => exact sckI_ok ta167_14 hi
  | k + 15, hi => cases hi
