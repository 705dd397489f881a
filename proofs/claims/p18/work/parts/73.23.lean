theorem te168 : sckE tm tc tf tg tcs tC168 tU168 2000 = true := by decide +kernel
theorem ta168_0 : sckI tm tc tf tg tcs tC168 tU168 2000 0 = true := by decide +kernel
theorem ta168_1 : sckI tm tc tf tg tcs tC168 tU168 2000 1 = true := by decide +kernel
theorem ta168_2 : sckI tm tc tf tg tcs tC168 tU168 2000 2 = true := by decide +kernel
theorem ta168_3 : sckI tm tc tf tg tcs tC168 tU168 2000 3 = true := by decide +kernel
theorem ta168_4 : sckI tm tc tf tg tcs tC168 tU168 2000 4 = true := by decide +kernel
theorem ta168_5 : sckI tm tc tf tg tcs tC168 tU168 2000 5 = true := by decide +kernel
theorem ta168_6 : sckI tm tc tf tg tcs tC168 tU168 2000 6 = true := by decide +kernel
theorem ta168_7 : sckI tm tc tf tg tcs tC168 tU168 2000 7 = true := by decide +kernel
theorem ta168_8 : sckI tm tc tf tg tcs tC168 tU168 2000 8 = true := by decide +kernel
theorem ta168_9 : sckI tm tc tf tg tcs tC168 tU168 2000 9 = true := by decide +kernel
theorem ta168_10 : sckI tm tc tf tg tcs tC168 tU168 2000 10 = true := by decide +kernel
theorem ta168_11 : sckI tm tc tf tg tcs tC168 tU168 2000 11 = true := by decide +kernel
theorem ta168_12 : sckI tm tc tf tg tcs tC168 tU168 2000 12 = true := by decide +kernel
theorem ta168_13 : sckI tm tc tf tg tcs tC168 tU168 2000 13 = true := by decide +kernel
theorem ta168_14 : sckI tm tc tf tg tcs tC168 tU168 2000 14 = true := by decide +kernel
theorem ta168 : ∀ B ∈ tU168, sckA tm tc tf tg tcs tC168 tU168 2000 B = true := by
  intro B hB
  obtain ⟨i, hi⟩ := List.getElem?_of_mem hB
  match i, hi with
  | 0, hi => exact sckI_ok ta168_0 hi
  | 1, hi => exact sckI_ok ta168_1 hi
  | 2, hi => exact sckI_ok ta168_2 hi
  | 3, hi => exact sckI_ok ta168_3 hi
  | 4, hi => exact sckI_ok ta168_4 hi
  | 5, hi => exact sckI_ok ta168_5 hi
  | 6, hi => exact sckI_ok ta168_6 hi
  | 7, hi => exact sckI_ok ta168_7 hi
  | 8, hi => exact sckI_ok ta168_8 hi
  | 9, hi => exact sckI_ok ta168_9 hi
  | 10, hi => exact sckI_ok ta168_10 hi
  | 11, hi => exact sckI_ok ta168_11 hi
  | 12, hi => exact sckI_ok ta168_12 hi
  | 13, hi => exact sckI_ok ta168_13 hi
  | 14, hi => exact sckI_ok ta168_14 hi
  | k + 15, hi => cases hi
