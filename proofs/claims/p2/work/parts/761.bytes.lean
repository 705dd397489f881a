/-! feed: how many signs come, by both; a tape of 1000 signs -/
def zkb (x : Int32) : Nat := if x = 10 ∨ (¬ x < 32 ∧ ¬ 126 < x) then 1 else 0
theorem zkb_le (x : Int32) : zkb x ≤ 1 := by
  unfold zkb
  split <;> omega
def zsh (i : Nat) : Int32 := 56 - 8 * nI i
def zby (v : Int64) (i : Nat) : Int32 := (v.toUInt64 >>> ((zsh i).toInt64.toUInt64 &&& Int64.toUInt64 63)).toInt64.toInt32 &&& 255
def zbm (v : Int64) (i : Nat) : Int32 := (v >>> ((zsh i).toInt64 &&& 63)).toInt32 &&& 255
theorem zsh_nn : ∀ i, i < 8 → ¬ zsh i < 0 := by decide +kernel
theorem zsh_8 : zsh 8 < 0 := by decide +kernel
theorem zsh_dn : ∀ i, i < 8 → zsh i + Int32.ofInt (-8) = zsh (i + 1) := by decide +kernel
theorem zbits (k : Nat) (hk : k + 8 ≤ 64) (x : BitVec 64) : (x >>> k).setWidth 32 &&& 255#32 = (x.sshiftRight k).setWidth 32 &&& 255#32 := by
  apply BitVec.eq_of_getLsbD_eq
  intro j hj
  rw [BitVec.getLsbD_and, BitVec.getLsbD_and]
  by_cases h8 : j < 8
  · congr 1
    rw [BitVec.getLsbD_setWidth, BitVec.getLsbD_setWidth, BitVec.getLsbD_ushiftRight, BitVec.getLsbD_sshiftRight]
    have h1 : k + j < 64 := by omega
    simp [h1, show ¬ 64 ≤ j by omega]
  · have h2 : ∀ j, j < 32 → ¬ j < 8 → (255#32).getLsbD j = false := by decide +kernel
    rw [h2 j hj h8]
    simp
theorem zbyu (v : Int64) (k : Nat) (hk : k + 8 ≤ 64) : ((v.toUInt64 >>> UInt64.ofNat k).toInt64.toInt32 &&& 255).toBitVec = (v.toBitVec >>> k).setWidth 32 &&& 255#32 := by
  have hm : k % 18446744073709551616 % 64 = k := by omega
  rw [Int32.toBitVec_and]
  show (BitVec.signExtend 32 (v.toUInt64 >>> UInt64.ofNat k).toBitVec) &&& 255#32 = _
  rw [BitVec.signExtend_eq_setWidth_of_le _ (by decide), UInt64.toBitVec_shiftRight]
  congr 2
  show v.toBitVec >>> ((UInt64.ofNat k).toBitVec % 64#64) = _
  rw [BitVec.ushiftRight_eq']
  congr 1
theorem zbys (v : Int64) (k : Nat) (hk : k + 8 ≤ 64) : ((v >>> Int64.ofNat k).toInt32 &&& 255).toBitVec = (v.toBitVec.sshiftRight k).setWidth 32 &&& 255#32 := by
  have hm : ∀ k, k < 57 → ((Int64.ofNat k).toBitVec.smod 64).toNat = k := by decide +kernel
  rw [Int32.toBitVec_and]
  show (BitVec.signExtend 32 (v >>> Int64.ofNat k).toBitVec) &&& 255#32 = _
  rw [BitVec.signExtend_eq_setWidth_of_le _ (by decide), Int64.toBitVec_shiftRight]
  congr 2
  show v.toBitVec.sshiftRight ((Int64.ofNat k).toBitVec.smod 64).toNat = _
  rw [hm k (by omega)]
theorem zbyte (v : Int64) : ∀ i, i < 8 → zby v i = zbm v i := by
  intro i hi
  have key : ∀ k : Nat, k + 8 ≤ 64 → (zsh i).toInt64.toUInt64 &&& Int64.toUInt64 63 = UInt64.ofNat k → (zsh i).toInt64 &&& 63 = Int64.ofNat k → zby v i = zbm v i := by
    intro k hk e1 e2
    unfold zby zbm
    rw [e1, e2]
    apply Int32.toBitVec_inj.mp
    rw [zbyu v k hk, zbys v k hk, zbits k hk v.toBitVec]
  have e : ∀ i, i < 8 → (zsh i).toInt64.toUInt64 &&& Int64.toUInt64 63 = UInt64.ofNat (56 - 8 * i) ∧ (zsh i).toInt64 &&& 63 = Int64.ofNat (56 - 8 * i) := by decide +kernel
  exact key (56 - 8 * i) (by omega) (e i hi).1 (e i hi).2
def zst (n : Nat) (x : Int32) : Nat := if zkb x = 1 ∧ n < 1000 then n + 1 else n
theorem zst_le {n : Nat} {x : Int32} (h : n ≤ 1000) : zst n x ≤ 1000 := by
  unfold zst
  split <;> omega
noncomputable def zfd (f : Nat → Int32) (n0 : Nat) (n : Nat) : Nat := Nat.rec (motive := fun _ => Nat) n0 (fun i a => zst a (f i)) n
theorem zfd_s (f : Nat → Int32) (n0 n : Nat) : zfd f n0 (n + 1) = zst (zfd f n0 n) (f n) := rfl
theorem zfd_le {f : Nat → Int32} {n0 : Nat} (h : n0 ≤ 1000) : ∀ n, zfd f n0 n ≤ 1000 := by
  intro n
  induction n with
  | zero => exact h
  | succ n ih =>
    rw [zfd_s]
    exact zst_le ih
theorem zfd_eq {f g : Nat → Int32} {n0 : Nat} : ∀ n, (∀ i, i < n → f i = g i) → zfd f n0 n = zfd g n0 n := by
  intro n
  induction n with
  | zero => exact fun _ => rfl
  | succ n ih =>
    intro h
    rw [zfd_s, zfd_s, ih (fun i hi => h i (by omega)), h n (by omega)]
theorem dX7_take_0 : decode cX7_take 0 = .ok (.bipush 56, 2) := by decide +kernel
theorem dX7_take_2 : decode cX7_take 2 = .ok (.istore_n 3, 1) := by decide +kernel
theorem dX7_take_3 : decode cX7_take 3 = .ok (.iload_n 3, 1) := by decide +kernel
theorem dX7_take_4 : decode cX7_take 4 = .ok (.ifCond .lt 21, 3) := by decide +kernel
theorem dX7_take_7 : decode cX7_take 7 = .ok (.aload_n 0, 1) := by decide +kernel
theorem dX7_take_8 : decode cX7_take 8 = .ok (.lload_n 1, 1) := by decide +kernel
theorem dX7_take_9 : decode cX7_take 9 = .ok (.iload_n 3, 1) := by decide +kernel
theorem dX7_take_10 : decode cX7_take 10 = .ok (.lushr, 1) := by decide +kernel
theorem dX7_take_11 : decode cX7_take 11 = .ok (.l2i, 1) := by decide +kernel
theorem dX7_take_12 : decode cX7_take 12 = .ok (.sipush 255, 3) := by decide +kernel
theorem dX7_take_15 : decode cX7_take 15 = .ok (.iand, 1) := by decide +kernel
theorem dX7_take_16 : decode cX7_take 16 = .ok (.invokevirtual 25, 3) := by decide +kernel
theorem dX7_take_19 : decode cX7_take 19 = .ok (.iinc 3 (-8), 3) := by decide +kernel
theorem dX7_take_22 : decode cX7_take 22 = .ok (.goto (-19), 3) := by decide +kernel
theorem dX7_take_25 : decode cX7_take 25 = .ok (.return_, 1) := by decide +kernel
theorem dX7_addSign_0 : decode cX7_addSign 0 = .ok (.iload_n 1, 1) := by decide +kernel
theorem dX7_addSign_1 : decode cX7_addSign 1 = .ok (.bipush 10, 2) := by decide +kernel
theorem dX7_addSign_3 : decode cX7_addSign 3 = .ok (.if_icmp .eq 15, 3) := by decide +kernel
theorem dX7_addSign_6 : decode cX7_addSign 6 = .ok (.iload_n 1, 1) := by decide +kernel
theorem dX7_addSign_7 : decode cX7_addSign 7 = .ok (.bipush 32, 2) := by decide +kernel
theorem dX7_addSign_9 : decode cX7_addSign 9 = .ok (.if_icmp .lt 13, 3) := by decide +kernel
theorem dX7_addSign_12 : decode cX7_addSign 12 = .ok (.iload_n 1, 1) := by decide +kernel
theorem dX7_addSign_13 : decode cX7_addSign 13 = .ok (.bipush 126, 2) := by decide +kernel
theorem dX7_addSign_15 : decode cX7_addSign 15 = .ok (.if_icmp .gt 7, 3) := by decide +kernel
theorem dX7_addSign_18 : decode cX7_addSign 18 = .ok (.iconst 1, 1) := by decide +kernel
theorem dX7_addSign_19 : decode cX7_addSign 19 = .ok (.goto 4, 3) := by decide +kernel
theorem dX7_addSign_22 : decode cX7_addSign 22 = .ok (.iconst 0, 1) := by decide +kernel
theorem dX7_addSign_23 : decode cX7_addSign 23 = .ok (.istore_n 2, 1) := by decide +kernel
theorem dX7_addSign_24 : decode cX7_addSign 24 = .ok (.iload_n 2, 1) := by decide +kernel
theorem dX7_addSign_25 : decode cX7_addSign 25 = .ok (.ifCond .eq 34, 3) := by decide +kernel
theorem dX7_addSign_28 : decode cX7_addSign 28 = .ok (.aload_n 0, 1) := by decide +kernel
theorem dX7_addSign_29 : decode cX7_addSign 29 = .ok (.getfield 15, 3) := by decide +kernel
theorem dX7_addSign_32 : decode cX7_addSign 32 = .ok (.sipush 1000, 3) := by decide +kernel
theorem dX7_addSign_35 : decode cX7_addSign 35 = .ok (.if_icmp .ge 24, 3) := by decide +kernel
theorem dX7_addSign_38 : decode cX7_addSign 38 = .ok (.aload_n 0, 1) := by decide +kernel
theorem dX7_addSign_39 : decode cX7_addSign 39 = .ok (.getfield 9, 3) := by decide +kernel
theorem dX7_addSign_42 : decode cX7_addSign 42 = .ok (.aload_n 0, 1) := by decide +kernel
theorem dX7_addSign_43 : decode cX7_addSign 43 = .ok (.getfield 15, 3) := by decide +kernel
theorem dX7_addSign_46 : decode cX7_addSign 46 = .ok (.iload_n 1, 1) := by decide +kernel
theorem dX7_addSign_47 : decode cX7_addSign 47 = .ok (.i2c, 1) := by decide +kernel
theorem dX7_addSign_48 : decode cX7_addSign 48 = .ok (.castore, 1) := by decide +kernel
theorem dX7_addSign_49 : decode cX7_addSign 49 = .ok (.aload_n 0, 1) := by decide +kernel
theorem dX7_addSign_50 : decode cX7_addSign 50 = .ok (.dup, 1) := by decide +kernel
theorem dX7_addSign_51 : decode cX7_addSign 51 = .ok (.getfield 15, 3) := by decide +kernel
theorem dX7_addSign_54 : decode cX7_addSign 54 = .ok (.iconst 1, 1) := by decide +kernel
theorem dX7_addSign_55 : decode cX7_addSign 55 = .ok (.iadd, 1) := by decide +kernel
theorem dX7_addSign_56 : decode cX7_addSign 56 = .ok (.putfield 15, 3) := by decide +kernel
theorem dX7_addSign_59 : decode cX7_addSign 59 = .ok (.return_, 1) := by decide +kernel
theorem dX9_feed_0 : decode cX9_feed 0 = .ok (.aload_n 0, 1) := by decide +kernel
theorem dX9_feed_1 : decode cX9_feed 1 = .ok (.getfield 10, 3) := by decide +kernel
theorem dX9_feed_4 : decode cX9_feed 4 = .ok (.lload_n 1, 1) := by decide +kernel
theorem dX9_feed_5 : decode cX9_feed 5 = .ok (.invokevirtual 77, 3) := by decide +kernel
theorem dX9_feed_8 : decode cX9_feed 8 = .ok (.aload_n 0, 1) := by decide +kernel
theorem dX9_feed_9 : decode cX9_feed 9 = .ok (.getfield 10, 3) := by decide +kernel
theorem dX9_feed_12 : decode cX9_feed 12 = .ok (.lload_n 3, 1) := by decide +kernel
theorem dX9_feed_13 : decode cX9_feed 13 = .ok (.invokevirtual 77, 3) := by decide +kernel
theorem dX9_feed_16 : decode cX9_feed 16 = .ok (.aload_n 0, 1) := by decide +kernel
theorem dX9_feed_17 : decode cX9_feed 17 = .ok (.getfield 10, 3) := by decide +kernel
theorem dX9_feed_20 : decode cX9_feed 20 = .ok (.lload 5, 2) := by decide +kernel
theorem dX9_feed_22 : decode cX9_feed 22 = .ok (.invokevirtual 77, 3) := by decide +kernel
theorem dX9_feed_25 : decode cX9_feed 25 = .ok (.aload_n 0, 1) := by decide +kernel
theorem dX9_feed_26 : decode cX9_feed 26 = .ok (.getfield 10, 3) := by decide +kernel
theorem dX9_feed_29 : decode cX9_feed 29 = .ok (.getfield 81, 3) := by decide +kernel
theorem dX9_feed_32 : decode cX9_feed 32 = .ok (.ireturn, 1) := by decide +kernel
theorem dX10_feed_0 : decode cX10_feed 0 = .ok (.aload_n 0, 1) := by decide +kernel
theorem dX10_feed_1 : decode cX10_feed 1 = .ok (.iconst 0, 1) := by decide +kernel
theorem dX10_feed_2 : decode cX10_feed 2 = .ok (.putfield 1, 3) := by decide +kernel
theorem dX10_feed_5 : decode cX10_feed 5 = .ok (.aload_n 0, 1) := by decide +kernel
theorem dX10_feed_6 : decode cX10_feed 6 = .ok (.lload_n 1, 1) := by decide +kernel
theorem dX10_feed_7 : decode cX10_feed 7 = .ok (.invokevirtual 7, 3) := by decide +kernel
theorem dX10_feed_10 : decode cX10_feed 10 = .ok (.aload_n 0, 1) := by decide +kernel
theorem dX10_feed_11 : decode cX10_feed 11 = .ok (.lload_n 3, 1) := by decide +kernel
theorem dX10_feed_12 : decode cX10_feed 12 = .ok (.invokevirtual 7, 3) := by decide +kernel
theorem dX10_feed_15 : decode cX10_feed 15 = .ok (.aload_n 0, 1) := by decide +kernel
theorem dX10_feed_16 : decode cX10_feed 16 = .ok (.lload 5, 2) := by decide +kernel
theorem dX10_feed_18 : decode cX10_feed 18 = .ok (.invokevirtual 7, 3) := by decide +kernel
theorem dX10_feed_21 : decode cX10_feed 21 = .ok (.aload_n 0, 1) := by decide +kernel
theorem dX10_feed_22 : decode cX10_feed 22 = .ok (.getfield 11, 3) := by decide +kernel
theorem dX10_feed_25 : decode cX10_feed 25 = .ok (.ireturn, 1) := by decide +kernel
theorem dX10_lay_0 : decode cX10_lay 0 = .ok (.bipush 56, 2) := by decide +kernel
theorem dX10_lay_2 : decode cX10_lay 2 = .ok (.istore_n 3, 1) := by decide +kernel
theorem dX10_lay_3 : decode cX10_lay 3 = .ok (.iload_n 3, 1) := by decide +kernel
theorem dX10_lay_4 : decode cX10_lay 4 = .ok (.ifCond .lt 71, 3) := by decide +kernel
theorem dX10_lay_7 : decode cX10_lay 7 = .ok (.lload_n 1, 1) := by decide +kernel
theorem dX10_lay_8 : decode cX10_lay 8 = .ok (.iload_n 3, 1) := by decide +kernel
theorem dX10_lay_9 : decode cX10_lay 9 = .ok (.lshr, 1) := by decide +kernel
theorem dX10_lay_10 : decode cX10_lay 10 = .ok (.l2i, 1) := by decide +kernel
theorem dX10_lay_11 : decode cX10_lay 11 = .ok (.sipush 255, 3) := by decide +kernel
theorem dX10_lay_14 : decode cX10_lay 14 = .ok (.iand, 1) := by decide +kernel
theorem dX10_lay_15 : decode cX10_lay 15 = .ok (.istore 4, 2) := by decide +kernel
theorem dX10_lay_17 : decode cX10_lay 17 = .ok (.iload 4, 2) := by decide +kernel
theorem dX10_lay_19 : decode cX10_lay 19 = .ok (.bipush 10, 2) := by decide +kernel
theorem dX10_lay_21 : decode cX10_lay 21 = .ok (.if_icmp .eq 17, 3) := by decide +kernel
theorem dX10_lay_24 : decode cX10_lay 24 = .ok (.iload 4, 2) := by decide +kernel
theorem dX10_lay_26 : decode cX10_lay 26 = .ok (.bipush 32, 2) := by decide +kernel
theorem dX10_lay_28 : decode cX10_lay 28 = .ok (.if_icmp .lt 41, 3) := by decide +kernel
theorem dX10_lay_31 : decode cX10_lay 31 = .ok (.iload 4, 2) := by decide +kernel
theorem dX10_lay_33 : decode cX10_lay 33 = .ok (.bipush 126, 2) := by decide +kernel
theorem dX10_lay_35 : decode cX10_lay 35 = .ok (.if_icmp .gt 34, 3) := by decide +kernel
theorem dX10_lay_38 : decode cX10_lay 38 = .ok (.aload_n 0, 1) := by decide +kernel
theorem dX10_lay_39 : decode cX10_lay 39 = .ok (.getfield 11, 3) := by decide +kernel
theorem dX10_lay_42 : decode cX10_lay 42 = .ok (.sipush 1000, 3) := by decide +kernel
theorem dX10_lay_45 : decode cX10_lay 45 = .ok (.if_icmp .ge 24, 3) := by decide +kernel
theorem dX10_lay_48 : decode cX10_lay 48 = .ok (.aload_n 0, 1) := by decide +kernel
theorem dX10_lay_49 : decode cX10_lay 49 = .ok (.getfield 14, 3) := by decide +kernel
theorem dX10_lay_52 : decode cX10_lay 52 = .ok (.aload_n 0, 1) := by decide +kernel
theorem dX10_lay_53 : decode cX10_lay 53 = .ok (.getfield 11, 3) := by decide +kernel
theorem dX10_lay_56 : decode cX10_lay 56 = .ok (.iload 4, 2) := by decide +kernel
theorem dX10_lay_58 : decode cX10_lay 58 = .ok (.iastore, 1) := by decide +kernel
theorem dX10_lay_59 : decode cX10_lay 59 = .ok (.aload_n 0, 1) := by decide +kernel
theorem dX10_lay_60 : decode cX10_lay 60 = .ok (.dup, 1) := by decide +kernel
theorem dX10_lay_61 : decode cX10_lay 61 = .ok (.getfield 11, 3) := by decide +kernel
theorem dX10_lay_64 : decode cX10_lay 64 = .ok (.iconst 1, 1) := by decide +kernel
theorem dX10_lay_65 : decode cX10_lay 65 = .ok (.iadd, 1) := by decide +kernel
theorem dX10_lay_66 : decode cX10_lay 66 = .ok (.putfield 11, 3) := by decide +kernel
theorem dX10_lay_69 : decode cX10_lay 69 = .ok (.iinc 3 (-8), 3) := by decide +kernel
theorem dX10_lay_72 : decode cX10_lay 72 = .ok (.goto (-69), 3) := by decide +kernel
theorem dX10_lay_75 : decode cX10_lay 75 = .ok (.return_, 1) := by decide +kernel
