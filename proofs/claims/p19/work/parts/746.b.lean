theorem zk10_6 : ∀ q ∈ zt10_6, zok zzm (RX10, yX10_init, cX10_init, 2, none, 45, 68793) q = true := List.all_eq_true.mp (by decide +kernel)
