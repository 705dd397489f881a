theorem te169 : sckE tm tc tf tg tcs tC169 tU169 2000 = true := by decide +kernel
theorem ta169_0 : sckI tm tc tf tg tcs tC169 tU169 2000 0 = true := by decide +kernel
theorem ta169_1 : sckI tm tc tf tg tcs tC169 tU169 2000 1 = true := by decide +kernel
theorem ta169_2 : sckI tm tc tf tg tcs tC169 tU169 2000 2 = true := by decide +kernel
theorem ta169_3 : sckI tm tc tf tg tcs tC169 tU169 2000 3 = true := by decide +kernel
theorem ta169 : ∀ B ∈ tU169, sckA tm tc tf tg tcs tC169 tU169 2000 B = true := by
  intro B hB
  obtain ⟨i, hi⟩ := List.getElem?_of_mem hB
  match i, hi with
  | 0, hi => exact sckI_ok ta169_0 hi
  | 1, hi => exact sckI_ok ta169_1 hi
  | 2, hi => exact sckI_ok ta169_2 hi
  | 3, hi => exact sckI_ok ta169_3 hi
  | k + 4, hi => cases hi
theorem te170 : sckE tm tc tf tg tcs tC170 tU170 2000 = true := by decide +kernel
theorem ta170 : ∀ B ∈ tU170, sckA tm tc tf tg tcs tC170 tU170 2000 B = true := List.all_eq_true.mp (by decide +kernel)
theorem te171 : sckE tm tc tf tg tcs tC171 tU171 2000 = true := by decide +kernel
theorem ta171 : ∀ B ∈ tU171, sckA tm tc tf tg tcs tC171 tU171 2000 B = true := List.all_eq_true.mp (by decide +kernel)
theorem te172 : sckE tm tc tf tg tcs tC172 tU172 2000 = true := by decide +kernel
theorem ta172 : ∀ B ∈ tU172, sckA tm tc tf tg tcs tC172 tU172 2000 B = true := List.all_eq_true.mp (by decide +kernel)
theorem te173 : sckE tm tc tf tg tcs tC173 tU173 2000 = true := by decide +kernel
theorem ta173 : ∀ B ∈ tU173, sckA tm tc tf tg tcs tC173 tU173 2000 B = true := List.all_eq_true.mp (by decide +kernel)
theorem te174 : sckE tm tc tf tg tcs tC174 tU174 2000 = true := by decide +kernel
theorem ta174 : ∀ B ∈ tU174, sckA tm tc tf tg tcs tC174 tU174 2000 B = true := List.all_eq_true.mp (by decide +kernel)
theorem te175 : sckE tm tc tf tg tcs tC175 tU175 2000 = true := by decide +kernel
theorem ta175 : ∀ B ∈ tU175, sckA tm tc tf tg tcs tC175 tU175 2000 B = true := List.all_eq_true.mp (by decide +kernel)
theorem te176 : sckE tm tc tf tg tcs tC176 tU176 2000 = true := by decide +kernel
theorem ta176 : ∀ B ∈ tU176, sckA tm tc tf tg tcs tC176 tU176 2000 B = true := List.all_eq_true.mp (by decide +kernel)
theorem te177 : sckE tm tc tf tg tcs tC177 tU177 2000 = true := by decide +kernel
theorem ta177 : ∀ B ∈ tU177, sckA tm tc tf tg tcs tC177 tU177 2000 B = true := List.all_eq_true.mp (by decide +kernel)
theorem te178 : sckE tm tc tf tg tcs tC178 tU178 2000 = true := by decide +kernel
theorem ta178 : ∀ B ∈ tU178, sckA tm tc tf tg tcs tC178 tU178 2000 B = true := List.all_eq_true.mp (by decide +kernel)
theorem te179 : sckE tm tc tf tg tcs tC179 tU179 2000 = true := by decide +kernel
theorem ta179 : ∀ B ∈ tU179, sckA tm tc tf tg tcs tC179 tU179 2000 B = true := List.all_eq_true.mp (by decide +kernel)
theorem te180 : sckE tm tc tf tg tcs tC180 tU180 2000 = true := by decide +kernel
theorem ta180 : ∀ B ∈ tU180, sckA tm tc tf tg tcs tC180 tU180 2000 B = true := List.all_eq_true.mp (by decide +kernel)
theorem te181 : sckE tm tc tf tg tcs tC181 tU181 2000 = true := by decide +kernel
theorem ta181 : ∀ B ∈ tU181, sckA tm tc tf tg tcs tC181 tU181 2000 B = true := List.all_eq_true.mp (by decide +kernel)
