/-! feed: how many signs come, by both -/
def zkb (x : Int32) : Nat := if x = 10 ∨ (¬ x < 32 ∧ ¬ 126 < x) then 1 else 0
theorem zkb_le (x : Int32) : zkb x ≤ 1 := by
  unfold zkb
  split <;> omega
def zsh (i : Nat) : Int32 := 56 - 8 * nI i
def zby (v : Int64) (i : Nat) : Int32 := (v.toUInt64 >>> ((zsh i).toInt64.toUInt64 &&& Int64.toUInt64 63)).toInt64.toInt32 &&& 255
def zbm (v : Int64) (i : Nat) : Int32 := (v >>> ((zsh i).toInt64 &&& 63)).toInt32 &&& 255
theorem zsh_nn : ∀ i, i < 8 → ¬ zsh i < 0 := by decide +kernel
theorem zsh_8 : zsh 8 < 0 := by decide +kernel
theorem zsh_dn : ∀ i, i < 8 → zsh i + Int32.ofInt (-8) = zsh (i + 1) := by decide +kernel
theorem zbits (k : Nat) (hk : k + 8 ≤ 64) (x : BitVec 64) : (x >>> k).setWidth 32 &&& 255#32 = (x.sshiftRight k).setWidth 32 &&& 255#32 := by
  apply BitVec.eq_of_getLsbD_eq
  intro j hj
  rw [BitVec.getLsbD_and, BitVec.getLsbD_and]
  by_cases h8 : j < 8
  · congr 1
    rw [BitVec.getLsbD_setWidth, BitVec.getLsbD_setWidth, BitVec.getLsbD_ushiftRight, BitVec.getLsbD_sshiftRight]
    have h1 : k + j < 64 := by omega
    simp [h1, show ¬ 64 ≤ j by omega]
  · have h2 : ∀ j, j < 32 → ¬ j < 8 → (255#32).getLsbD j = false := by decide +kernel
    rw [h2 j hj h8]
    simp
theorem zbyu (v : Int64) (k : Nat) (hk : k + 8 ≤ 64) : ((v.toUInt64 >>> UInt64.ofNat k).toInt64.toInt32 &&& 255).toBitVec = (v.toBitVec >>> k).setWidth 32 &&& 255#32 := by
  have hm : k % 18446744073709551616 % 64 = k := by omega
  rw [Int32.toBitVec_and]
  show (BitVec.signExtend 32 (v.toUInt64 >>> UInt64.ofNat k).toBitVec) &&& 255#32 = _
  rw [BitVec.signExtend_eq_setWidth_of_le _ (by decide), UInt64.toBitVec_shiftRight]
  congr 2
  show v.toBitVec >>> ((UInt64.ofNat k).toBitVec % 64#64) = _
  rw [BitVec.ushiftRight_eq']
  congr 1
theorem zbys (v : Int64) (k : Nat) (hk : k + 8 ≤ 64) : ((v >>> Int64.ofNat k).toInt32 &&& 255).toBitVec = (v.toBitVec.sshiftRight k).setWidth 32 &&& 255#32 := by
  have hm : ∀ k, k < 57 → ((Int64.ofNat k).toBitVec.smod 64).toNat = k := by decide +kernel
  rw [Int32.toBitVec_and]
  show (BitVec.signExtend 32 (v >>> Int64.ofNat k).toBitVec) &&& 255#32 = _
  rw [BitVec.signExtend_eq_setWidth_of_le _ (by decide), Int64.toBitVec_shiftRight]
  congr 2
  show v.toBitVec.sshiftRight ((Int64.ofNat k).toBitVec.smod 64).toNat = _
  rw [hm k (by omega)]
theorem zbyte (v : Int64) : ∀ i, i < 8 → zby v i = zbm v i := by
  intro i hi
  have key : ∀ k : Nat, k + 8 ≤ 64 → (zsh i).toInt64.toUInt64 &&& Int64.toUInt64 63 = UInt64.ofNat k → (zsh i).toInt64 &&& 63 = Int64.ofNat k → zby v i = zbm v i := by
    intro k hk e1 e2
    unfold zby zbm
    rw [e1, e2]
    apply Int32.toBitVec_inj.mp
    rw [zbyu v k hk, zbys v k hk, zbits k hk v.toBitVec]
  have e : ∀ i, i < 8 → (zsh i).toInt64.toUInt64 &&& Int64.toUInt64 63 = UInt64.ofNat (56 - 8 * i) ∧ (zsh i).toInt64 &&& 63 = Int64.ofNat (56 - 8 * i) := by decide +kernel
  exact key (56 - 8 * i) (by omega) (e i hi).1 (e i hi).2
noncomputable def zcn (f : Nat → Int32) (n : Nat) : Nat := Nat.rec (motive := fun _ => Nat) 0 (fun i a => a + zkb (f i)) n
theorem zcn_s (f : Nat → Int32) (n : Nat) : zcn f (n + 1) = zcn f n + zkb (f n) := rfl
theorem zcn_le (f : Nat → Int32) (n : Nat) : zcn f n ≤ n := by
  induction n with
  | zero => exact Nat.le_refl 0
  | succ n ih =>
    rw [zcn_s]
    have := zkb_le (f n)
    omega
theorem zcn_eq {f g : Nat → Int32} : ∀ n, (∀ i, i < n → f i = g i) → zcn f n = zcn g n := by
  intro n
  induction n with
  | zero => exact fun _ => rfl
  | succ n ih =>
    intro h
    rw [zcn_s, zcn_s, ih (fun i hi => h i (by omega)), h n (by omega)]
abbrev zwt (cA : Nat → ClassId) (t sg : Nat) (gs : List Value) (f : Nat → Int32) : va_W := [(t, .inr (6, gs)), (sg, .inl (cA 2, 1000, .inl f))]
def zgt (sg n : Nat) (gs : List Value) : Prop := gs[0]? = some (.ref sg) ∧ gs[1]? = some (.int (nI n)) ∧ gs.length = 4
def zqt (cA : Nat → ClassId) (t sg n : Nat) (u : va_W) : Prop := ∃ (gs : List Value) (f : Nat → Int32), u = zwt cA t sg gs f ∧ zgt sg n gs
theorem zgt_put {sg n : Nat} {gs : List Value} (h : zgt sg n gs) (x : Int32) (hx : x = nI (n + 1)) : zgt sg (n + 1) (gs.set 1 (.int x)) := by
  obtain ⟨h0, h1, h4⟩ := h
  have hl : 1 < gs.length := by omega
  refine ⟨?_, ?_, by simp [h4]⟩
  · rw [List.getElem?_set_ne (by decide)]
    exact h0
  · rw [List.getElem?_set_self hl, hx]
set_option maxHeartbeats 4000000 in
theorem zc_add (l : Launch) (dC : Nat → ClassId) (dI : Nat → Nat → Nat) (cA : Nat → ClassId) (d t sg n : Nat) (gs : List Value) (f : Nat → Int32) (x : Int32) (sz : Nat) (hn : n < 1000) (hg : zgt sg n gs) :
    Met l yX7_addSign (.code yX7_addSign cX7_addSign 3 none :: zT) { frames := d, cells := 0, slots := 0, locals := 40 * d } (va_Pc [.ref t, .int x] (zB dC dI cA (zwt cA t sg gs f) sz)) (va_Qv (zqt cA t sg (n + zkb x)) (zend dC dI cA (va_A (zwt cA t sg gs f) sz)) (va_A (zwt cA t sg gs f) sz)) 0 0 (va_A (zwt cA t sg gs f) sz) := by
  refine Met.ofW (cc := cX7_addSign) (maxL := 3) (ret := none) (by decide) rfl ?_
  intro p e s m args below meth c s₁ B hml hv
  obtain ⟨rfl, hsz, hP, hK, hD0, hz9⟩ := hv
  have hx := B.exec
  have hb := B.bytes
  have hr := B.returns
  have hts : ∀ w ∈ zT, w.before _ s = true := fun w hw => atoms_spec (ws := .code yX7_addSign cX7_addSign 3 none :: zT) B.pre w (List.mem_cons_of_mem _ hw)
  have hown : s.vm.findClass RX7 = some m.cls := findClass_of_methodNamed B.named
  have hlocks := B.notSynchronized
  subst hsz
  have hD := hD0.self (sz := s.heap.size)
  generalize va_A (zwt cA t sg gs f) s.heap.size = A at hD ⊢
  have hS : va_S A s.heap s.heap [] := va_S.rf
  have hl := lv_entry ([.ref t, .int x]) (n := 3) (Nat.le_of_ble_eq_true rfl)
  rw [lg_entry_eq]
  generalize (lg_sl ([.ref t, .int x]) ++ List.replicate (3 - (lg_sl ([.ref t, .int x])).length) Slot.unset).toArray = ls at hl ⊢
  have hl : lv_has ls 3 [(0, .ref t), (1, .int x)] := hl
  have hend : ∀ (gs' : List Value) (f' : Nat → Int32) (H : Heap) (locs : List Loc) (ls : Array Slot), zgt sg (n + zkb x) gs' → va_P (dC, dI) vwCl (zwt cA t sg gs' f') H → va_D A (zwt cA t sg gs' f') → va_S A s.heap H locs → W p l e { frames := d, cells := 0, slots := 0, locals := 40 * d } s m [Value.ref t, Value.int x].toArray below meth c H locs 0 0 (MQ below (va_Qv (zqt cA t sg (n + zkb x)) (zend dC dI cA A) A) [Value.ref t, Value.int x].toArray s 0 0 A) (F0 m 59 ls []) := by
    intro gs' f' H locs ls hg' hP' hD' hS'
    exact W.vret hx hb hr (fun t9 ht hW => ⟨⟨_, rfl, ⟨gs', f', rfl, hg'⟩, by rw [ht]; exact hP', va_K.moved hW.alike hK, hD'⟩, hS'.F ht⟩) hS'.2.2 dX7_addSign_59
  have hno : zkb x = 0 → W p l e { frames := d, cells := 0, slots := 0, locals := 40 * d } s m [Value.ref t, Value.int x].toArray below meth c s.heap [] 0 0 (MQ below (va_Qv (zqt cA t sg (n + zkb x)) (zend dC dI cA A) A) [Value.ref t, Value.int x].toArray s 0 0 A) (F0 m 22 ls []) := by
    intro h0
    refine lv_iconst (v := 0) hx hb dX7_addSign_22 (by decide) ?_
    refine lv_istore_n (lv' := [(2, .int 0), (0, .ref t), (1, .int x)]) hx hb dX7_addSign_23 rfl hl (by decide) rfl (fun ls hl => ?_)
    refine lv_iload_n hx hb dX7_addSign_24 rfl (lv_at hl 0 rfl) ?_
    refine lv_if_eq (tgt := 59) hx hb dX7_addSign_25 (by decide) (fun _ => ?_) (fun c9 => absurd rfl c9)
    exact hend gs f s.heap [] ls (by rw [h0]; exact hg) hP hD hS
  have hyes : zkb x = 1 → W p l e { frames := d, cells := 0, slots := 0, locals := 40 * d } s m [Value.ref t, Value.int x].toArray below meth c s.heap [] 0 0 (MQ below (va_Qv (zqt cA t sg (n + zkb x)) (zend dC dI cA A) A) [Value.ref t, Value.int x].toArray s 0 0 A) (F0 m 18 ls []) := by
    intro h1
    refine lv_iconst (v := 1) hx hb dX7_addSign_18 (by decide) ?_
    refine lv_goto (tgt := 23) hx hb dX7_addSign_19 (by decide) ?_
    refine lv_istore_n (lv' := [(2, .int 1), (0, .ref t), (1, .int x)]) hx hb dX7_addSign_23 rfl hl (by decide) rfl (fun ls hl => ?_)
    refine lv_iload_n hx hb dX7_addSign_24 rfl (lv_at hl 0 rfl) ?_
    refine lv_if_eq (tgt := 59) hx hb dX7_addSign_25 (by decide) (fun c9 => absurd c9 (by decide)) (fun _ => ?_)
    refine lv_aload_n hx hb dX7_addSign_28 rfl (lv_at hl 1 rfl) ?_
    refine va_get (D := (dC, dI)) (ci := 6) (v := .int (nI n)) (C := RX7) (T := TX7) (N := 4) hx hb hts zin6 hown hK hP 0 rfl rfl 1 (by decide) (hts _ zf_len) (fun _ h9 => h9) hg.2.1 dX7_addSign_29 ?_
    refine lv_sipush (v := 1000) hx hb dX7_addSign_32 (by decide) ?_
    refine lv_icmp_ge (tgt := 59) hx hb dX7_addSign_35 (by decide) (fun c9 => absurd c9 (nI_ge (a := n) (b := 1000) hn (by decide))) (fun _ => ?_)
    refine lv_aload_n hx hb dX7_addSign_38 rfl (lv_at hl 1 rfl) ?_
    refine va_get (D := (dC, dI)) (ci := 6) (v := .ref sg) (C := RX7) (T := TX7) (N := 4) hx hb hts zin6 hown hK hP 0 rfl rfl 0 (by decide) (hts _ zf_sig) (fun _ h9 => h9) hg.1 dX7_addSign_39 ?_
    refine lv_aload_n hx hb dX7_addSign_42 rfl (lv_at hl 1 rfl) ?_
    refine va_get (D := (dC, dI)) (ci := 6) (v := .int (nI n)) (C := RX7) (T := TX7) (N := 4) hx hb hts zin6 hown hK hP 0 rfl rfl 1 (by decide) (hts _ zf_len) (fun _ h9 => h9) hg.2.1 dX7_addSign_43 ?_
    refine lv_iload_n hx hb dX7_addSign_46 rfl (lv_at hl 2 rfl) ?_
    refine lv_i2c hx hb dX7_addSign_47 rfl ?_
    refine va_cast hx hb hK hP hD hS 1 2 rfl rfl (vp_in_nI hn (by decide)) dX7_addSign_48 (fun H locs hP hD hS => ?_)
    obtain ⟨f2, hf2⟩ : ∃ f2 : Nat → Int32, f2 = upd f (nI n).toNatClampNeg (vp_nar .char ((x.toUInt32 % 65536).toInt32)) := ⟨_, rfl⟩
    rw [← hf2] at hP hD
    have hP : va_P (dC, dI) vwCl (zwt cA t sg gs f2) H := hP
    have hD : va_D A (zwt cA t sg gs f2) := hD
    refine lv_aload_n hx hb dX7_addSign_49 rfl (lv_at hl 1 rfl) ?_
    refine lv_dup hx hb dX7_addSign_50 rfl ?_
    refine va_get (D := (dC, dI)) (ci := 6) (v := .int (nI n)) (C := RX7) (T := TX7) (N := 4) hx hb hts zin6 hown hK hP 0 rfl rfl 1 (by decide) (hts _ zf_len) (fun _ h9 => h9) hg.2.1 dX7_addSign_51 ?_
    refine lv_iconst (v := 1) hx hb dX7_addSign_54 (by decide) ?_
    refine lv_iadd hx hb dX7_addSign_55 ?_
    refine lv_topi (fun x1 ex1 => ?_)
    refine va_put (D := (dC, dI)) (ci := 6) (v := .int x1) (ty := .int) (C := RX7) (T := TX7) (N := 4) hx hb hts zin6 tyX7 tyX7_ok nmX7 hown hK hP hD hS 0 rfl rfl 1 (by decide) (hts _ zf_len) (fun _ h9 => h9) rfl (by decide +kernel) rfl rfl (by rw [hg.2.2]; decide) dX7_addSign_56 (fun H locs hP hD hS => ?_)
    have hP : va_P (dC, dI) vwCl (zwt cA t sg (gs.set 1 (.int x1)) f2) H := hP
    have hD : va_D A (zwt cA t sg (gs.set 1 (.int x1)) f2) := hD
    exact hend _ f2 H locs ls (by rw [h1]; exact zgt_put hg x1 (ex1.trans (nI_1 n))) hP hD hS
  have hP : va_P (dC, dI) vwCl (zwt cA t sg gs f) s.heap := hP
  refine lv_iload_n hx hb dX7_addSign_0 rfl (lv_at hl 1 rfl) ?_
  refine lv_bipush (v := 10) hx hb dX7_addSign_1 (by decide) ?_
  refine lv_icmp_eq (tgt := 18) hx hb dX7_addSign_3 (by decide) (fun c1 => hyes (by unfold zkb; rw [if_pos (Or.inl c1)])) (fun c1 => ?_)
  refine lv_iload_n hx hb dX7_addSign_6 rfl (lv_at hl 1 rfl) ?_
  refine lv_bipush (v := 32) hx hb dX7_addSign_7 (by decide) ?_
  refine lv_icmp_lt (tgt := 22) hx hb dX7_addSign_9 (by decide) (fun c2 => hno (by unfold zkb; rw [if_neg (fun q => q.elim c1 (fun z => z.1 c2))])) (fun c2 => ?_)
  refine lv_iload_n hx hb dX7_addSign_12 rfl (lv_at hl 1 rfl) ?_
  refine lv_bipush (v := 126) hx hb dX7_addSign_13 (by decide) ?_
  refine lv_icmp_gt (tgt := 22) hx hb dX7_addSign_15 (by decide) (fun c3 => hno (by unfold zkb; rw [if_neg (fun q => q.elim c1 (fun z => z.2 c3))])) (fun c3 => ?_)
  exact hyes (by unfold zkb; rw [if_pos (Or.inr ⟨c2, c3⟩)])
set_option maxHeartbeats 4000000 in
theorem zc_take (l : Launch) (dC : Nat → ClassId) (dI : Nat → Nat → Nat) (cA : Nat → ClassId) (d t sg n : Nat) (gs : List Value) (f : Nat → Int32) (v : Int64) (sz : Nat) (hn : n + 8 ≤ 1000) (hg : zgt sg n gs) :
    Met l yX7_take (.code yX7_take cX7_take 4 none :: zT) { frames := d + 1, cells := 0, slots := 0, locals := 40 * (d + 1) } (va_Pc [.ref t, .long v] (zB dC dI cA (zwt cA t sg gs f) sz)) (va_Qv (zqt cA t sg (n + zcn (zby v) 8)) (zend dC dI cA (va_A (zwt cA t sg gs f) sz)) (va_A (zwt cA t sg gs f) sz)) 0 0 (va_A (zwt cA t sg gs f) sz) := by
  refine Met.ofW (cc := cX7_take) (maxL := 4) (ret := none) (by decide) rfl ?_
  intro p e s m args below meth c s₁ B hml hv
  obtain ⟨rfl, hsz, hP, hK, hD0, hz9⟩ := hv
  have hx := B.exec
  have hb := B.bytes
  have hr := B.returns
  have hts : ∀ w ∈ zT, w.before _ s = true := fun w hw => atoms_spec (ws := .code yX7_take cX7_take 4 none :: zT) B.pre w (List.mem_cons_of_mem _ hw)
  have hown : s.vm.findClass RX7 = some m.cls := findClass_of_methodNamed B.named
  have hlocks := B.notSynchronized
  subst hsz
  have hD := hD0.self (sz := s.heap.size)
  have hA : ∀ q, s.heap.size ≤ q → va_A (zwt cA t sg gs f) s.heap.size q := fun q h => Or.inr h
  generalize va_A (zwt cA t sg gs f) s.heap.size = A at hD hA ⊢
  have hS : va_S A s.heap s.heap [] := va_S.rf
  have hl := lv_entry ([.ref t, .long v]) (n := 4) (Nat.le_of_ble_eq_true rfl)
  rw [lg_entry_eq]
  generalize (lg_sl ([.ref t, .long v]) ++ List.replicate (4 - (lg_sl ([.ref t, .long v])).length) Slot.unset).toArray = ls at hl ⊢
  have hl : lv_has ls 4 [(0, .ref t), (1, .long v)] := hl
  have loop : ∀ (k i : Nat), i + k = 8 → ∀ (gs' : List Value) (f' : Nat → Int32) (H : Heap) (locs : List Loc) (ls : Array Slot), zgt sg (n + zcn (zby v) i) gs' → va_P (dC, dI) vwCl (zwt cA t sg gs' f') H → va_D A (zwt cA t sg gs' f') → va_S A s.heap H locs → lv_has ls 4 [(3, .int (zsh i)), (0, .ref t), (1, .long v)] → W p l e { frames := d + 1, cells := 0, slots := 0, locals := 40 * (d + 1) } s m [Value.ref t, Value.long v].toArray below meth c H locs 0 0 (MQ below (va_Qv (zqt cA t sg (n + zcn (zby v) 8)) (zend dC dI cA A) A) [Value.ref t, Value.long v].toArray s 0 0 A) (F0 m 3 ls []) := by
    intro k
    induction k with
    | zero =>
      intro i hi gs' f' H locs ls hg' hP' hD' hS' hl'
      have e8 : i = 8 := by omega
      subst e8
      refine lv_iload_n hx hb dX7_take_3 rfl (lv_at hl' 0 rfl) ?_
      refine lv_if_lt (tgt := 25) hx hb dX7_take_4 (by decide) (fun _ => ?_) (fun c9 => absurd zsh_8 c9)
      exact W.vret hx hb hr (fun t9 ht hW => ⟨⟨_, rfl, ⟨gs', f', rfl, hg'⟩, by rw [ht]; exact hP', va_K.moved hW.alike hK, hD'⟩, hS'.F ht⟩) hS'.2.2 dX7_take_25
    | succ k ih =>
      intro i hi gs' f' H locs ls hg' hP' hD' hS' hl'
      have hi8 : i < 8 := by omega
      have hcl := zcn_le (zby v) i
      refine lv_iload_n hx hb dX7_take_3 rfl (lv_at hl' 0 rfl) ?_
      refine lv_if_lt (tgt := 25) hx hb dX7_take_4 (by decide) (fun c9 => absurd c9 (zsh_nn i hi8)) (fun _ => ?_)
      refine lv_aload_n hx hb dX7_take_7 rfl (lv_at hl' 1 rfl) ?_
      refine lv_lload_n hx hb dX7_take_8 rfl (lv_at hl' 2 rfl) ?_
      refine lv_iload_n hx hb dX7_take_9 rfl (lv_at hl' 0 rfl) ?_
      refine lv_lushr hx hb dX7_take_10 rfl ?_
      refine lv_l2i hx hb dX7_take_11 rfl ?_
      refine lv_sipush (v := 255) hx hb dX7_take_12 (by decide) ?_
      refine lv_iand hx hb dX7_take_15 ?_
      have hM := zc_add l dC dI cA d t sg (n + zcn (zby v) i) gs' f' (zby v i) H.size (by omega) hg'
      have hR9 := zrun (e := e) (below := below) (meth := meth) (locs := locs) (nc := 0) (ns := 0) (own := RX7) (idx := 25) (kd := 2) (n := 1) (R := { frames := d + 1, cells := 0, slots := 0, locals := 40 * (d + 1) }) (cst := [.int (zby v i), .ref t]) (crest := []) (ls := ls) hx hb hml hown hts hK hP' hD' hl'.1 hM hz9 zw_add (fun q => by omega) (by decide +kernel) (by decide) (fun q => by omega) ⟨Nat.le_refl _, Nat.le_refl _⟩ ⟨Nat.le_refl _, Nat.le_refl _⟩ rfl (by decide) rfl (fun _ => ⟨t, _, rfl, fun _ => va_recv hK hP' (ci := 6) (q0 := 0) rfl rfl⟩) (Or.inr (Or.inl ⟨rfl, rfl⟩)) dX7_take_16
      have hF := zfree hD' hS' hA
      refine va_callv hR9 hS' (fun q _ h => hF q h) hF (fun u t9 H1 locs1 ht hvm hw hB hz1 hk1 hS1 => ?_)
      obtain ⟨gs2, f2, rfl, hg2⟩ := hw
      obtain ⟨hP1, hK1, hD1⟩ := hB
      rw [ht] at hP1
      refine lv_iinc (v := zsh (i + 1)) (lv' := [(3, .int (zsh (i + 1))), (0, .ref t), (1, .long v)]) hx hb dX7_take_19 hl' (k := 0) rfl (zsh_dn i hi8) (by decide) rfl (fun ls2 hl2 => ?_)
      refine lv_goto (tgt := 3) hx hb dX7_take_22 (by decide) ?_
      exact ih (i + 1) (by omega) gs2 f2 H1 locs1 ls2 (by rw [zcn_s, ← Nat.add_assoc]; exact hg2) hP1 (hD1.weaken (fun _ q _ z => hF q.1 z)) hS1 hl2
  refine lv_bipush (v := 56) hx hb dX7_take_0 (by decide) ?_
  refine lv_istore_n (lv' := [(3, .int 56), (0, .ref t), (1, .long v)]) hx hb dX7_take_2 rfl hl (by decide) rfl (fun ls hl => ?_)
  exact loop 8 0 rfl gs f s.heap [] ls hg hP hD hS hl
