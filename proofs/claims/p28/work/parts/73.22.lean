theorem te166 : sckE tm tc tf tg tcs tC166 tU166 2000 = true := by decide +kernel
theorem ta166_0 : sckI tm tc tf tg tcs tC166 tU166 2000 0 = true := by decide +kernel
theorem ta166_1 : sckI tm tc tf tg tcs tC166 tU166 2000 1 = true := by decide +kernel
theorem ta166 : ∀ B ∈ tU166, sckA tm tc tf tg tcs tC166 tU166 2000 B = true := by
  intro B hB
  obtain ⟨i, hi⟩ := List.getElem?_of_mem hB
  match i, hi with
  | 0, hi => exact sckI_ok ta166_0 hi
  | 1, hi => exact sckI_ok ta166_1 hi
  | k + 2, hi => cases hi
