/-! the classes, and that the tables are the code's: by the kernel -/
theorem zin0 : ∀ w ∈ u_ws RX1 TX1 7, w ∈ zT := zchk_ok (is := [506, 508, 510, 512, 514, 516, 518]) (by decide +kernel)
theorem zcl0 : ∃ ty0 : Nat → FieldType, (∀ k, k < 7 → parseFieldDescriptor (TX1 k).2.2.1 = some (ty0 k)) ∧ (∀ a, a < 7 → ∀ b, b < 7 → a ≠ b → (TX1 a).2.1 ≠ (TX1 b).2.1) ∧ ∃ fs, zzd[0]? = some fs ∧ fs.all zpl = true ∧ ∀ j, j < 7 → defaultValue (ty0 j) = vp_V fs j := ⟨tyX1, tyX1_ok, nmX1, _, rfl, by decide +kernel, by decide +kernel⟩
theorem zin1 : ∀ w ∈ u_ws RX2 TX2 6, w ∈ zT := zchk_ok (is := [193, 195, 197, 199, 201, 203]) (by decide +kernel)
theorem zcl1 : ∃ ty0 : Nat → FieldType, (∀ k, k < 6 → parseFieldDescriptor (TX2 k).2.2.1 = some (ty0 k)) ∧ (∀ a, a < 6 → ∀ b, b < 6 → a ≠ b → (TX2 a).2.1 ≠ (TX2 b).2.1) ∧ ∃ fs, zzd[1]? = some fs ∧ fs.all zpl = true ∧ ∀ j, j < 6 → defaultValue (ty0 j) = vp_V fs j := ⟨tyX2, tyX2_ok, nmX2, _, rfl, by decide +kernel, by decide +kernel⟩
theorem zin2 : ∀ w ∈ u_ws RX3 TX3 7, w ∈ zT := zchk_ok (is := [371, 373, 375, 377, 379, 381, 383]) (by decide +kernel)
theorem zcl2 : ∃ ty0 : Nat → FieldType, (∀ k, k < 7 → parseFieldDescriptor (TX3 k).2.2.1 = some (ty0 k)) ∧ (∀ a, a < 7 → ∀ b, b < 7 → a ≠ b → (TX3 a).2.1 ≠ (TX3 b).2.1) ∧ ∃ fs, zzd[2]? = some fs ∧ fs.all zpl = true ∧ ∀ j, j < 7 → defaultValue (ty0 j) = vp_V fs j := ⟨tyX3, tyX3_ok, nmX3, _, rfl, by decide +kernel, by decide +kernel⟩
theorem zin3 : ∀ w ∈ u_ws RX4 TX4 12, w ∈ zT := zchk_ok (is := [407, 409, 411, 413, 415, 417, 419, 421, 423, 425, 427, 429]) (by decide +kernel)
theorem zcl3 : ∃ ty0 : Nat → FieldType, (∀ k, k < 12 → parseFieldDescriptor (TX4 k).2.2.1 = some (ty0 k)) ∧ (∀ a, a < 12 → ∀ b, b < 12 → a ≠ b → (TX4 a).2.1 ≠ (TX4 b).2.1) ∧ ∃ fs, zzd[3]? = some fs ∧ fs.all zpl = true ∧ ∀ j, j < 12 → defaultValue (ty0 j) = vp_V fs j := ⟨tyX4, tyX4_ok, nmX4, _, rfl, by decide +kernel, by decide +kernel⟩
theorem zin4 : ∀ w ∈ u_ws RX5 TX5 14, w ∈ zT := zchk_ok (is := [461, 463, 465, 467, 469, 471, 473, 475, 477, 479, 481, 483, 485, 487]) (by decide +kernel)
theorem zcl4 : ∃ ty0 : Nat → FieldType, (∀ k, k < 14 → parseFieldDescriptor (TX5 k).2.2.1 = some (ty0 k)) ∧ (∀ a, a < 14 → ∀ b, b < 14 → a ≠ b → (TX5 a).2.1 ≠ (TX5 b).2.1) ∧ ∃ fs, zzd[4]? = some fs ∧ fs.all zpl = true ∧ ∀ j, j < 14 → defaultValue (ty0 j) = vp_V fs j := ⟨tyX5, tyX5_ok, nmX5, _, rfl, by decide +kernel, by decide +kernel⟩
theorem zin5 : ∀ w ∈ u_ws RX6 TX6 19, w ∈ zT := zchk_ok (is := [302, 304, 306, 308, 310, 312, 314, 316, 318, 320, 322, 324, 326, 328, 330, 332, 334, 336, 338]) (by decide +kernel)
theorem zcl5 : ∃ ty0 : Nat → FieldType, (∀ k, k < 19 → parseFieldDescriptor (TX6 k).2.2.1 = some (ty0 k)) ∧ (∀ a, a < 19 → ∀ b, b < 19 → a ≠ b → (TX6 a).2.1 ≠ (TX6 b).2.1) ∧ ∃ fs, zzd[5]? = some fs ∧ fs.all zpl = true ∧ ∀ j, j < 19 → defaultValue (ty0 j) = vp_V fs j := ⟨tyX6, tyX6_ok, nmX6, _, rfl, by decide +kernel, by decide +kernel⟩
theorem zin6 : ∀ w ∈ u_ws RX7 TX7 4, w ∈ zT := zchk_ok (is := [165, 167, 169, 171]) (by decide +kernel)
theorem zcl6 : ∃ ty0 : Nat → FieldType, (∀ k, k < 4 → parseFieldDescriptor (TX7 k).2.2.1 = some (ty0 k)) ∧ (∀ a, a < 4 → ∀ b, b < 4 → a ≠ b → (TX7 a).2.1 ≠ (TX7 b).2.1) ∧ ∃ fs, zzd[6]? = some fs ∧ fs.all zpl = true ∧ ∀ j, j < 4 → defaultValue (ty0 j) = vp_V fs j := ⟨tyX7, tyX7_ok, nmX7, _, rfl, by decide +kernel, by decide +kernel⟩
theorem zin7 : ∀ w ∈ u_ws RX8 TX8 11, w ∈ zT := zchk_ok (is := [250, 252, 254, 256, 258, 260, 262, 264, 266, 268, 270]) (by decide +kernel)
theorem zcl7 : ∃ ty0 : Nat → FieldType, (∀ k, k < 11 → parseFieldDescriptor (TX8 k).2.2.1 = some (ty0 k)) ∧ (∀ a, a < 11 → ∀ b, b < 11 → a ≠ b → (TX8 a).2.1 ≠ (TX8 b).2.1) ∧ ∃ fs, zzd[7]? = some fs ∧ fs.all zpl = true ∧ ∀ j, j < 11 → defaultValue (ty0 j) = vp_V fs j := ⟨tyX8, tyX8_ok, nmX8, _, rfl, by decide +kernel, by decide +kernel⟩
theorem zin8 : ∀ w ∈ u_ws RX9 TX9 9, w ∈ zT := zchk_ok (is := [530, 532, 534, 536, 538, 540, 542, 544, 546]) (by decide +kernel)
theorem zcl8 : ∃ ty0 : Nat → FieldType, (∀ k, k < 9 → parseFieldDescriptor (TX9 k).2.2.1 = some (ty0 k)) ∧ (∀ a, a < 9 → ∀ b, b < 9 → a ≠ b → (TX9 a).2.1 ≠ (TX9 b).2.1) ∧ ∃ fs, zzd[8]? = some fs ∧ fs.all zpl = true ∧ ∀ j, j < 9 → defaultValue (ty0 j) = vp_V fs j := ⟨tyX9, tyX9_ok, nmX9, _, rfl, by decide +kernel, by decide +kernel⟩
theorem zin9 : ∀ w ∈ u_ws RX10 TX10 58, w ∈ zT := zchk_ok (is := [1348, 1350, 1352, 1354, 1356, 1358, 1360, 1362, 1364, 1366, 1368, 1370, 1372, 1374, 1376, 1378, 1380, 1382, 1384, 1386, 1388, 1390, 1392, 1394, 1396, 1398, 1400, 1402, 1404, 1406, 1408, 1410, 1412, 1414, 1416, 1418, 1420, 1422, 1424, 1426, 1428, 1430, 1432, 1434, 1436, 1438, 1440, 1442, 1444, 1446, 1448, 1450, 1452, 1454, 1456, 1458, 1460, 1462]) (by decide +kernel)
theorem zcl9 : ∃ ty0 : Nat → FieldType, (∀ k, k < 58 → parseFieldDescriptor (TX10 k).2.2.1 = some (ty0 k)) ∧ (∀ a, a < 58 → ∀ b, b < 58 → a ≠ b → (TX10 a).2.1 ≠ (TX10 b).2.1) ∧ ∃ fs, zzd[9]? = some fs ∧ fs.all zpl = true ∧ ∀ j, j < 58 → defaultValue (ty0 j) = vp_V fs j := ⟨tyX10, tyX10_ok, nmX10, _, rfl, by decide +kernel, by decide +kernel⟩
theorem zzcl : zCl zzd := by
  intro ci C T N h
  match ci, h with
  | 0, h => cases h; exact ⟨zin0, zcl0⟩
  | 1, h => cases h; exact ⟨zin1, zcl1⟩
  | 2, h => cases h; exact ⟨zin2, zcl2⟩
  | 3, h => cases h; exact ⟨zin3, zcl3⟩
  | 4, h => cases h; exact ⟨zin4, zcl4⟩
  | 5, h => cases h; exact ⟨zin5, zcl5⟩
  | 6, h => cases h; exact ⟨zin6, zcl6⟩
  | 7, h => cases h; exact ⟨zin7, zcl7⟩
  | 8, h => cases h; exact ⟨zin8, zcl8⟩
  | 9, h => cases h; exact ⟨zin9, zcl9⟩
  | n + 10, h => cases h
