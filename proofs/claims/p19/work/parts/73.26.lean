theorem te193 : sckE tm tc tf tg tcs tC193 tU193 2000 = true := by decide +kernel
theorem ta193 : ∀ B ∈ tU193, sckA tm tc tf tg tcs tC193 tU193 2000 B = true := List.all_eq_true.mp (by decide +kernel)
theorem te194 : sckE tm tc tf tg tcs tC194 tU194 2000 = true := by decide +kernel
theorem ta194 : ∀ B ∈ tU194, sckA tm tc tf tg tcs tC194 tU194 2000 B = true := List.all_eq_true.mp (by decide +kernel)
theorem te195 : sckE tm tc tf tg tcs tC195 tU195 2000 = true := by decide +kernel
theorem ta195 : ∀ B ∈ tU195, sckA tm tc tf tg tcs tC195 tU195 2000 B = true := List.all_eq_true.mp (by decide +kernel)
theorem te196 : sckE tm tc tf tg tcs tC196 tU196 2000 = true := by decide +kernel
theorem ta196 : ∀ B ∈ tU196, sckA tm tc tf tg tcs tC196 tU196 2000 B = true := List.all_eq_true.mp (by decide +kernel)
theorem te197 : sckE tm tc tf tg tcs tC197 tU197 2000 = true := by decide +kernel
theorem ta197 : ∀ B ∈ tU197, sckA tm tc tf tg tcs tC197 tU197 2000 B = true := List.all_eq_true.mp (by decide +kernel)
theorem te198 : sckE tm tc tf tg tcs tC198 tU198 2000 = true := by decide +kernel
theorem ta198 : ∀ B ∈ tU198, sckA tm tc tf tg tcs tC198 tU198 2000 B = true := List.all_eq_true.mp (by decide +kernel)
theorem te199 : sckE tm tc tf tg tcs tC199 tU199 2000 = true := by decide +kernel
theorem ta199_0 : sckI tm tc tf tg tcs tC199 tU199 2000 0 = true := by decide +kernel
theorem ta199_1 : sckI tm tc tf tg tcs tC199 tU199 2000 1 = true := by decide +kernel
theorem ta199_2 : sckI tm tc tf tg tcs tC199 tU199 2000 2 = true := by decide +kernel
theorem ta199_3 : sckI tm tc tf tg tcs tC199 tU199 2000 3 = true := by decide +kernel
theorem ta199_4 : sckI tm tc tf tg tcs tC199 tU199 2000 4 = true := by decide +kernel
theorem ta199_5 : sckI tm tc tf tg tcs tC199 tU199 2000 5 = true := by decide +kernel
theorem ta199 : ∀ B ∈ tU199, sckA tm tc tf tg tcs tC199 tU199 2000 B = true := by
  intro B hB
  obtain ⟨i, hi⟩ := List.getElem?_of_mem hB
  match i, hi with
  | 0, hi => exact sckI_ok ta199_0 hi
  | 1, hi => exact sckI_ok ta199_1 hi
  | 2, hi => exact sckI_ok ta199_2 hi
  | 3, hi => exact sckI_ok ta199_3 hi
  | 4, hi => exact sckI_ok ta199_4 hi
  | 5, hi => exact sckI_ok ta199_5 hi
  | k + 6, hi => cases hi
