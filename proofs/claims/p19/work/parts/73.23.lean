theorem te168 : sckE tm tc tf tg tcs tC168 tU168 2000 = true := by decide +kernel
theorem ta168_0 : sckI tm tc tf tg tcs tC168 tU168 2000 0 = true := by decide +kernel
theorem ta168_1 : sckI tm tc tf tg tcs tC168 tU168 2000 1 = true := by decide +kernel
theorem ta168 : ∀ B ∈ tU168, sckA tm tc tf tg tcs tC168 tU168 2000 B = true := by
  intro B hB
  obtain ⟨i, hi⟩ := List.getElem?_of_mem hB
  match i, hi with
  | 0, hi => exact sckI_ok ta168_0 hi
  | 1, hi => exact sckI_ok ta168_1 hi
  | k + 2, hi => cases hi
