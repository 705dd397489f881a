/-! the law from its entry, by the kernel -/
noncomputable def zrunL (L : Nat) : Bool := match zgo zzm zzc zzd [] L 99999 5000 0 20 0 [(0, .float 0)] [] [] 0 0 with
  | .ok r => zfin1 r
  | .error _ => false
theorem zrL0 : zrunL 0 = true := by decide +kernel
theorem zrL1 : zrunL 1 = true := by decide +kernel
theorem zrL2 : zrunL 2 = true := by decide +kernel
theorem zrL3 : zrunL 3 = true := by decide +kernel
theorem zrL4 : zrunL 4 = true := by decide +kernel
theorem zrL5 : zrunL 5 = true := by decide +kernel
theorem zrL6 : zrunL 6 = true := by decide +kernel
theorem zrL7 : zgo zzm zzc zzd [] 7 23 5000 0 20 0 [(0, .float 0)] [] [] 0 0 = .ok (23, zzl, [], zzh, zzn, zzs) := zeq_ok (by decide +kernel)
