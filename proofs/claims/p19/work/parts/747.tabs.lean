theorem zk0 : ∀ q ∈ zt0, zok zzm (RL, yL_law, cL_law, 7, (some .boolean), 600000, 7290000) q = true := zk0_0
theorem zk1 : ∀ q ∈ zt1, zok zzm (RX9, yX9_init, cX9_init, 2, none, 154, 10257) q = true := fun q h => (fun h => (List.mem_append.mp h).elim (zk1_0 q) (fun h => (List.mem_append.mp h).elim (zk1_1 q) (zk1_2 q))) h
theorem zk2 : ∀ q ∈ zt2, zok zzm (RX7, yX7_init, cX7_init, 1, none, 1, 1000) q = true := zk2_0
theorem zk3 : ∀ q ∈ zt3, zok zzm (RX2, yX2_init, cX2_init, 1, none, 6, 104) q = true := zk3_0
theorem zk4 : ∀ q ∈ zt4, zok zzm (RX8, yX8_init, cX8_init, 1, none, 5, 72) q = true := fun q h => (fun h => (List.mem_append.mp h).elim (zk4_0 q) (zk4_1 q)) h
theorem zk5 : ∀ q ∈ zt5, zok zzm (RX6, yX6_init, cX6_init, 4, none, 9, 186) q = true := fun q h => (fun h => (List.mem_append.mp h).elim (zk5_0 q) (zk5_1 q)) h
theorem zk6 : ∀ q ∈ zt6, zok zzm (RX3, yX3_init, cX3_init, 2, none, 5, 1048) q = true := zk6_0
theorem zk7 : ∀ q ∈ zt7, zok zzm (RX4, yX4_init, cX4_init, 3, none, 7, 1119) q = true := fun q h => (fun h => (List.mem_append.mp h).elim (zk7_0 q) (zk7_1 q)) h
theorem zk8 : ∀ q ∈ zt8, zok zzm (RX5, yX5_init, cX5_init, 5, none, 9, 382) q = true := fun q h => (fun h => (List.mem_append.mp h).elim (zk8_0 q) (zk8_1 q)) h
theorem zk9 : ∀ q ∈ zt9, zok zzm (RX1, yX1_init, cX1_init, 1, none, 5, 54) q = true := zk9_0
theorem zk10 : ∀ q ∈ zt10, zok zzm (RX10, yX10_init, cX10_init, 2, none, 45, 68793) q = true := fun q h => (fun h => (List.mem_append.mp h).elim (zk10_0 q) (fun h => (List.mem_append.mp h).elim (zk10_1 q) (fun h => (List.mem_append.mp h).elim (zk10_2 q) (fun h => (List.mem_append.mp h).elim (zk10_3 q) (fun h => (List.mem_append.mp h).elim (zk10_4 q) (fun h => (List.mem_append.mp h).elim (zk10_5 q) (zk10_6 q))))))) h
theorem zztab : zTab zzm zzc := by
  intro k me tb h1 h2
  match k, h1, h2 with
  | 0, h1, h2 => cases h1; cases h2; exact fun q h => absurd h List.not_mem_nil
  | 1, h1, h2 => cases h1; cases h2; exact zk0
  | 2, h1, h2 => cases h1; cases h2; exact zk1
  | 3, h1, h2 => cases h1; cases h2; exact zk2
  | 4, h1, h2 => cases h1; cases h2; exact zk3
  | 5, h1, h2 => cases h1; cases h2; exact zk4
  | 6, h1, h2 => cases h1; cases h2; exact zk5
  | 7, h1, h2 => cases h1; cases h2; exact zk6
  | 8, h1, h2 => cases h1; cases h2; exact zk7
  | 9, h1, h2 => cases h1; cases h2; exact zk8
  | 10, h1, h2 => cases h1; cases h2; exact zk9
  | 11, h1, h2 => cases h1; cases h2; exact zk10
  | n + 12, h1, h2 => cases h1
