/-! cells that are made; rows copied; the script -/
section ZMK
variable {p : Program} {l : Launch} {e : Env} {R : Room} {s : State} {m : MethodId} {args : Array Value} {below : List Frame} {meth : Method} {c : Code} {Q : State → Prop} {dC : Nat → ClassId} {dI : Nat → Nat → Nat} {cA : Nat → ClassId} {g : ZG} {A : Nat → Prop} {nL : Nat} {cc : ByteArray} {pc : Nat} {lv : ZL} {st : List Value} {hp : List ZE} {nc ns : Nat} {ret : ZRt} {r : ZS} {E : ZN} {own : String}
/-- bc, bs: the room that the method has -/
noncomputable def zx_new (fs : List Value) (ci N bc bs : Nat) (pc : Nat) (lv : ZL) (st : List Value) (hp : List ZE) (nc ns : Nat) (ret : ZRt) : ZX :=
  cond (Nat.ble (nc + 1) bc && Nat.ble (ns + N) bs) (zn hp.length (fun q => zap hp (.inr (ci, fs)) (fun hp' => zn (nc + 1) (fun nc' => zn (ns + N) (fun ns' => ret (pc + 3) lv (.ref q :: st) hp' nc' ns'))))) zfail
theorem zs_new (hx : p.tables.exec = Jvm.exec) (hb : c.code = cc) (hown : s.vm.findClass own = some m.cls) (hts : ∀ w ∈ zT, w.before args s = true) (hK : va_K (dC, dI) vwCl (ztys cA) s) (hA : ∀ q, s.heap.size ≤ q → A q) {idx ci N bc bs : Nat} {C : String} {T : u_T} {ty0 : Nat → FieldType} {fs : List Value} (hRc : bc ≤ R.cells) (hRs : bs ≤ R.slots) (hin : ∀ w ∈ u_ws C T N, w ∈ zT) (hty : ∀ k, k < N → parseFieldDescriptor (T k).2.2.1 = some (ty0 k)) (hc : vwCl[ci]? = some (C, T, N)) (hfs : ∀ j, j < N → defaultValue (ty0 j) = vp_V fs j) (hfv : ∀ ad, zvs ad g fs fs) (h1 : Cond.classLink own idx C ∈ zT) (h2 : Cond.instantiable C N ∈ zT) (h3 : Cond.initialized C ∈ zT) (hdg : decode cc pc = .ok (.new idx, 3)) (h : zx_new fs ci N bc bs pc lv st hp nc ns ret = .ok r) (Hk : ∀ (pc : Nat) (lv : ZL) (st : List Value) (hp : List ZE) (nc ns : Nat), ret pc lv st hp nc ns = .ok r → zW p l e R s m args below meth c Q dC dI cA g A nL pc lv st hp nc ns) : zW p l e R s m args below meth c Q dC dI cA g A nL pc lv st hp nc ns := by
  unfold zx_new at h
  cases hb1 : (Nat.ble (nc + 1) bc && Nat.ble (ns + N) bs) with
  | false => rw [hb1] at h; cases h
  | true =>
    rw [hb1, cond_true, zn_eq, zap_eq, zn_eq, zn_eq] at h
    rw [Bool.and_eq_true] at hb1
    have b1 := Nat.le_of_ble_eq_true hb1.1
    have b2 := Nat.le_of_ble_eq_true hb1.2
    intro ws H locs ls clv cst ⟨r1, r2, r3, r4, r5, r6, r7⟩
    refine va_new hx hb hts hin ty0 hty hown (hts _ h1) (hts _ h2) (hts _ h3) hK r2 r3 r4 hA hc hfs (Nat.le_trans b1 hRc) (Nat.le_trans b2 hRs) hdg (fun q H1 p1 p2 p3 => ?_)
    refine Hk _ _ _ _ _ _ h _ H1 locs ls clv _ ⟨zh_app r1 q ⟨fs, rfl, hfv _⟩, p1, p2, p3, r5, zls_mono (zad_app ws q _) r6, ⟨q, ?_, rfl⟩, zvs_mono (zad_app ws q _) r7⟩
    rw [← r1.1]
    exact zad_last ws q _
noncomputable def zx_newa (E : ZN) (t bc bs k : Nat) (pc : Nat) (lv : ZL) (st : List Value) (hp : List ZE) (nc ns : Nat) (ret : ZRt) : ZX := match st with
  | v :: st' => zI E v (fun n => zn n.toNatClampNeg (fun N => cond (decide (0 ≤ n.toInt) && (Nat.ble N 50000 && (Nat.ble (nc + 1) bc && Nat.ble (ns + N) bs))) (zn hp.length (fun q => zap hp (.inl (t, N, [])) (fun hp' => zn (nc + 1) (fun nc' => zn (ns + N) (fun ns' => ret (pc + k) lv (.ref q :: st') hp' nc' ns'))))) zfail))
  | _ => zfail
theorem zx_newa_ok {t bc bs k : Nat} {v cv : Value} {st' : List Value} {ad : List Nat} (hE : zen E g) (hv : zv ad g v cv) (h : zx_newa E t bc bs k pc lv (v :: st') hp nc ns ret = .ok r) : ∃ n : Int32, cv = .int n ∧ ¬ n < 0 ∧ n.toNatClampNeg ≤ 50000 ∧ nc + 1 ≤ bc ∧ ns + n.toNatClampNeg ≤ bs ∧ ret (pc + k) lv (.ref hp.length :: st') (hp ++ [.inl (t, n.toNatClampNeg, [])]) (nc + 1) (ns + n.toNatClampNeg) = .ok r := by
  simp only [zx_newa] at h
  obtain ⟨n, rfl, h⟩ := zI_ok hE hv h
  rw [zn_eq] at h
  cases hb1 : (decide (0 ≤ n.toInt) && (Nat.ble n.toNatClampNeg 50000 && (Nat.ble (nc + 1) bc && Nat.ble (ns + n.toNatClampNeg) bs))) with
  | false => rw [hb1] at h; cases h
  | true =>
    rw [hb1, cond_true, zn_eq, zap_eq, zn_eq, zn_eq] at h
    rw [Bool.and_eq_true, Bool.and_eq_true, Bool.and_eq_true] at hb1
    refine ⟨n, rfl, fun q => ?_, Nat.le_of_ble_eq_true hb1.2.1, Nat.le_of_ble_eq_true hb1.2.2.1, Nat.le_of_ble_eq_true hb1.2.2.2, h⟩
    have e1 := of_decide_eq_true hb1.1
    have e2 : n.toInt < (0 : Int32).toInt := Int32.lt_iff_toInt_lt.mp q
    have e3 : (0 : Int32).toInt = 0 := rfl
    omega
def za0 (t N : Nat) : vp_A := cond (Nat.blt t 3) (N, .inl (fun _ => 0)) (N, .inr (.inl (fun _ => 0)))
theorem zs_newa (hx : p.tables.exec = Jvm.exec) (hb : c.code = cc) (hts : ∀ w ∈ zT, w.before args s = true) (hK : va_K (dC, dI) vwCl (ztys cA) s) (hE : zen E g) (hA : ∀ q, s.heap.size ≤ q → A q) {t bc bs : Nat} {at0 : ArrayType} (hRc : bc ≤ R.cells) (hRs : bs ≤ R.slots) (ht : t < 4) (hat : newarray.typeOf at0 = zty t) (h1 : Cond.arrayClass (newarray.typeOf at0) ∈ zT) (hdg : decode cc pc = .ok (.newarray at0, 2)) (h : zx_newa E t bc bs 2 pc lv st hp nc ns ret = .ok r) (Hk : ∀ (pc : Nat) (lv : ZL) (st : List Value) (hp : List ZE) (nc ns : Nat), ret pc lv st hp nc ns = .ok r → zW p l e R s m args below meth c Q dC dI cA g A nL pc lv st hp nc ns) : zW p l e R s m args below meth c Q dC dI cA g A nL pc lv st hp nc ns := by
  match st, h with
  | [], h => cases h
  | v :: st', h =>
    intro ws H locs ls clv cst ⟨r1, r2, r3, r4, r5, r6, r7⟩
    obtain ⟨cv, cr, rfl, h7, h8⟩ := zvs_cons r7
    obtain ⟨n, rfl, n0, n1, n2, n3, h⟩ := zx_newa_ok hE h7 h
    have e0 : ∀ c1 : ClassId, vp_cell c1 (za0 t n.toNatClampNeg) = arrV c1 n.toNatClampNeg (fun _ => defaultValue (zty t)) := by
      intro c1
      match t, ht with
      | 0, _ => rfl
      | 1, _ => rfl
      | 2, _ => rfl
      | 3, _ => rfl
    have e1 : componentBytes (zty t) ≤ 8 := by
      match t, ht with
      | 0, _ => decide
      | 1, _ => decide
      | 2, _ => decide
      | 3, _ => decide
    refine va_newa hx hb (hts _ h1) hat hK r2 r3 r4 hA e0 n0 rfl (Nat.le_trans (Nat.mul_le_mul n1 e1) (by decide)) (Nat.le_trans n2 hRc) (Nat.le_trans n3 hRs) hdg (fun q c1 H1 k1 p1 p2 p3 => ?_)
    have e2 : c1 = cA t := by
      have w1 := (k1.2 6 (c1, zty t) rfl).2
      have w2 := (hK.2 t (cA t, zty t) (ztys_at cA (by omega))).2
      exact zra_eq w1 w2
    subst e2
    have e3 : ∃ arr, (za0 t n.toNatClampNeg) = (n.toNatClampNeg, arr) ∧ ∀ ad, za ad g t [] arr := by
      match t, ht with
      | 0, _ => exact ⟨_, rfl, fun ad => ⟨fun _ => ⟨_, rfl, fun j => rfl⟩, fun q => by omega, fun q => by omega⟩⟩
      | 1, _ => exact ⟨_, rfl, fun ad => ⟨fun _ => ⟨_, rfl, fun j => rfl⟩, fun q => by omega, fun q => by omega⟩⟩
      | 2, _ => exact ⟨_, rfl, fun ad => ⟨fun _ => ⟨_, rfl, fun j => rfl⟩, fun q => by omega, fun q => by omega⟩⟩
      | 3, _ => exact ⟨_, rfl, fun ad => ⟨fun q => by omega, fun _ => ⟨_, rfl, fun j => rfl⟩, fun q => by omega⟩⟩
    obtain ⟨arr, e4, e5⟩ := e3
    refine Hk _ _ _ _ _ _ h _ H1 locs ls clv _ ⟨zh_app r1 q ⟨arr, by rw [e4], e5 _⟩, p1, p2, p3, r5, zls_mono (zad_app ws q _) r6, ⟨q, ?_, rfl⟩, zvs_mono (zad_app ws q _) h8⟩
    rw [← r1.1]
    exact zad_last ws q _
theorem zs_anewa (hx : p.tables.exec = Jvm.exec) (hb : c.code = cc) (hown : s.vm.findClass own = some m.cls) (hts : ∀ w ∈ zT, w.before args s = true) (hK : va_K (dC, dI) vwCl (ztys cA) s) (hE : zen E g) (hA : ∀ q, s.heap.size ≤ q → A q) {idx t bc bs : Nat} {C : String} (hRc : bc ≤ R.cells) (hRs : bs ≤ R.slots) (ht : t = 4 ∨ t = 5) (hat : zty t = .object C) (h1 : Cond.classLink own idx C ∈ zT) (h2 : va_AO C s) (hdg : decode cc pc = .ok (.anewarray idx, 3)) (h : zx_newa E t bc bs 3 pc lv st hp nc ns ret = .ok r) (Hk : ∀ (pc : Nat) (lv : ZL) (st : List Value) (hp : List ZE) (nc ns : Nat), ret pc lv st hp nc ns = .ok r → zW p l e R s m args below meth c Q dC dI cA g A nL pc lv st hp nc ns) : zW p l e R s m args below meth c Q dC dI cA g A nL pc lv st hp nc ns := by
  match st, h with
  | [], h => cases h
  | v :: st', h =>
    intro ws H locs ls clv cst ⟨r1, r2, r3, r4, r5, r6, r7⟩
    obtain ⟨cv, cr, rfl, h7, h8⟩ := zvs_cons r7
    obtain ⟨n, rfl, n0, n1, n2, n3, h⟩ := zx_newa_ok hE h7 h
    refine va_newq hx hb hown (hts _ h1) h2 hK r2 r3 r4 hA n0 rfl (by omega) (Nat.le_trans n2 hRc) (Nat.le_trans n3 hRs) hdg (fun q c1 H1 k1 p1 p2 p3 => ?_)
    have e2 : c1 = cA t := by
      have w1 := (k1.2 6 (c1, .object C) rfl).2
      have w2 := (hK.2 t (cA t, zty t) (ztys_at cA (by omega))).2
      rw [hat] at w2
      exact zra_eq w1 w2
    subst e2
    have e5 : ∀ ad, za ad g t [] (.inr (.inr (.inr (.inr (fun _ => none))))) := by
      intro ad
      refine ⟨fun q => by omega, fun q => by omega, fun _ => ⟨_, rfl, fun j => ?_⟩⟩
      rcases ht with rfl | rfl
      · rfl
      · rfl
    refine Hk _ _ _ _ _ _ h _ H1 locs ls clv _ ⟨zh_app r1 q ⟨_, rfl, e5 _⟩, p1, p2, p3, r5, zls_mono (zad_app ws q _) r6, ⟨q, ?_, rfl⟩, zvs_mono (zad_app ws q _) h8⟩
    rw [← r1.1]
    exact zad_last ws q _
/-- the script -/
noncomputable def zx_sld (E : ZN) (L : Nat) (pc : Nat) (lv : ZL) (st : List Value) (hp : List ZE) (nc ns : Nat) (ret : ZRt) : ZX := match st with
  | j :: .float _ :: st' => zI E j (fun a => cond (zix a L) (zn a.toNatClampNeg (fun i => ret (pc + 1) lv (.retAddr i :: st') hp nc ns)) zfail)
  | _ => zfail
theorem zs_sld (hx : p.tables.exec = Jvm.exec) (hb : c.code = cc) (hE : zen E g) {L : Nat} {xs : Nat → Int32} (hX : va_X g.2.1 L xs s s.heap) (hbl : g.2.1 < s.heap.size) (hbA : ¬ A g.2.1) (hxs : ∀ j, j < L → g.1 j = xs j) (hL : L < 2 ^ 31) (hdg : decode cc pc = .ok (.iaload, 1)) (h : zx_sld E L pc lv st hp nc ns ret = .ok r) (Hk : ∀ (pc : Nat) (lv : ZL) (st : List Value) (hp : List ZE) (nc ns : Nat), ret pc lv st hp nc ns = .ok r → zW p l e R s m args below meth c Q dC dI cA g A nL pc lv st hp nc ns) : zW p l e R s m args below meth c Q dC dI cA g A nL pc lv st hp nc ns := by
  match st, h with
  | [], h => cases h
  | [_], h => cases h
  | j :: .float _ :: st', h =>
    intro ws H locs ls clv cst ⟨r1, r2, r3, r4, r5, r6, r7⟩
    obtain ⟨cj, cr, rfl, h5, h6⟩ := zvs_cons r7
    obtain ⟨cv, cr, rfl, h7, h8⟩ := zvs_cons h6
    cases (show cv = _ from h7)
    simp only [zx_sld] at h
    obtain ⟨a, rfl, h⟩ := zI_ok hE h5 h
    cases hi : zix a L with
    | false => rw [hi] at h; cases h
    | true =>
      rw [hi, cond_true, zn_eq] at h
      refine va_sld hx hb hX hbl hbA r4 (zix_ok hi) hdg (Hk _ _ _ _ _ _ h ws H locs ls clv _ ⟨r1, r2, r3, r4, r5, r6, ?_, h8⟩)
      obtain ⟨i, i1, i2⟩ := vp_in_of (zix_ok hi) hL
      show Value.int (xs a.toNatClampNeg) = .int (g.1 a.toNatClampNeg)
      rw [i2, nI_clamp (by omega), hxs i i1]
noncomputable def zx_slen (L : Nat) (pc : Nat) (lv : ZL) (st : List Value) (hp : List ZE) (nc ns : Nat) (ret : ZRt) : ZX := match st with
  | .float _ :: st' => ret (pc + 1) lv (.int (Int32.ofNat L) :: st') hp nc ns
  | _ => zfail
theorem zs_slen (hx : p.tables.exec = Jvm.exec) (hb : c.code = cc) {L : Nat} {xs : Nat → Int32} (hX : va_X g.2.1 L xs s s.heap) (hbl : g.2.1 < s.heap.size) (hbA : ¬ A g.2.1) (hdg : decode cc pc = .ok (.arraylength, 1)) (h : zx_slen L pc lv st hp nc ns ret = .ok r) (Hk : ∀ (pc : Nat) (lv : ZL) (st : List Value) (hp : List ZE) (nc ns : Nat), ret pc lv st hp nc ns = .ok r → zW p l e R s m args below meth c Q dC dI cA g A nL pc lv st hp nc ns) : zW p l e R s m args below meth c Q dC dI cA g A nL pc lv st hp nc ns := by
  match st, h with
  | [], h => cases h
  | .float _ :: st', h =>
    intro ws H locs ls clv cst ⟨r1, r2, r3, r4, r5, r6, r7⟩
    obtain ⟨cv, cr, rfl, h7, h8⟩ := zvs_cons r7
    cases (show cv = _ from h7)
    exact va_slen hx hb hX hbl hbA r4 hdg (Hk _ _ _ _ _ _ h ws H locs ls clv _ ⟨r1, r2, r3, r4, r5, r6, rfl, h8⟩)
/-- Object.<init> -/
noncomputable def zx_obj (pc : Nat) (lv : ZL) (st : List Value) (hp : List ZE) (nc ns : Nat) (ret : ZRt) : ZX := match st with
  | v :: st' => cond (zref v && Nat.ble (st'.map fun v => v.category).sum 8) (ret (pc + 3) lv st' hp nc ns) zfail
  | _ => zfail
theorem zs_obj (hx : p.tables.exec = Jvm.exec) (hb : c.code = cc) (hml : c.maxLocals = nL) (hown : s.vm.findClass own = some m.cls) (hts : ∀ w ∈ zT, w.before args s = true) {idx : Nat} (hRf : 1 ≤ R.frames) (hRl : 40 ≤ R.locals) (h1 : Cond.methodLink own idx objectInit ∈ zT) (h2 : Cond.instanceMethod objectInit ∈ zT) (h3 : Cond.code objectInit ⟨#[0xb1]⟩ 1 none ∈ zT) (hdg : decode cc pc = .ok (.invokespecial idx, 3)) (h : zx_obj pc lv st hp nc ns ret = .ok r) (Hk : ∀ (pc : Nat) (lv : ZL) (st : List Value) (hp : List ZE) (nc ns : Nat), ret pc lv st hp nc ns = .ok r → zW p l e R s m args below meth c Q dC dI cA g A nL pc lv st hp nc ns) : zW p l e R s m args below meth c Q dC dI cA g A nL pc lv st hp nc ns := by
  match st, h with
  | [], h => cases h
  | v :: st', h =>
    intro ws H locs ls clv cst ⟨r1, r2, r3, r4, r5, r6, r7⟩
    obtain ⟨cv, cr, rfl, h7, h8⟩ := zvs_cons r7
    simp only [zx_obj] at h
    cases hb1 : (zref v && Nat.ble (st'.map fun v => v.category).sum 8) with
    | false => rw [hb1] at h; cases h
    | true =>
      rw [hb1, cond_true] at h
      rw [Bool.and_eq_true] at hb1
      obtain ⟨a, rfl⟩ := zref_ok hb1.1 h7
      have hs8 : (cr.map fun v => v.category).sum ≤ 8 := by
        rw [zvs_sum h8]
        exact Nat.le_of_ble_eq_true hb1.2
      have hroom := lv_room (m := m) (pc := pc) (ls := ls) (rest := Value.ref a :: cr) hs8
      refine W.objInit hx hb hown (hts _ h1) (hts _ h2) (hts _ h3) (g := F0 m pc ls (.ref a :: cr)) rfl (by rw [hml]; exact r5.1) rfl hdg hRf (by omega) ?_
      exact Hk _ _ _ _ _ _ h ws H locs ls clv _ ⟨r1, r2, r3, r4, r5, r6, h8⟩
/-- System.arraycopy, ints -/
noncomputable def zcy (us0 us1 : ZL) (sp dp n : Nat) : ZL := Nat.rec (motive := fun _ => ZL) us1 (fun i acc => (dp + i, zel 0 us0 (sp + i)) :: zdrop acc (dp + i)) n
theorem zcy_el (us0 us1 : ZL) (sp dp n j : Nat) : zel 0 (zcy us0 us1 sp dp n) j = if dp ≤ j ∧ j < dp + n then zel 0 us0 (sp + (j - dp)) else zel 0 us1 j := by
  induction n with
  | zero =>
    rw [if_neg (by omega)]
    rfl
  | succ n ih =>
    show zel 0 ((dp + n, zel 0 us0 (sp + n)) :: zdrop (zcy us0 us1 sp dp n) (dp + n)) j = _
    rw [zel_put, ih]
    by_cases h : j = dp + n
    · rw [if_pos h, if_pos (by omega)]
      congr 1
      omega
    · rw [if_neg h]
      by_cases h2 : dp ≤ j ∧ j < dp + n
      · rw [if_pos h2, if_pos (by omega)]
      · rw [if_neg h2, if_neg (by omega)]
noncomputable def zx_cpy (E : ZN) (pc : Nat) (lv : ZL) (st : List Value) (hp : List ZE) (nc ns : Nat) (ret : ZRt) : ZX := match st with
  | vn :: vd :: v1 :: vs :: v0 :: st' => zI E vn (fun n => zI E vd (fun dp => zI E vs (fun sp => zrf hp v0 (fun _ e0 => zrf hp v1 (fun q1 e1 => match e0, e1 with
    | .inl x0, .inl x1 => cond (Nat.beq x0.1 0 && (Nat.beq x1.1 0 && (decide (0 ≤ n.toInt) && (decide (0 ≤ dp.toInt) && (decide (0 ≤ sp.toInt) && (Nat.ble (sp.toNatClampNeg + n.toNatClampNeg) x0.2.1 && (Nat.ble (dp.toNatClampNeg + n.toNatClampNeg) x1.2.1 && Nat.ble (st'.map fun v => v.category).sum 8)))))))
        (zfl (zcy x0.2.2 x1.2.2 sp.toNatClampNeg dp.toNatClampNeg n.toNatClampNeg) (fun us => zsk hp (.inl (0, x1.2.1, us)) q1 (fun hp' => ret (pc + 3) lv st' hp' nc ns))) zfail
    | _, _ => zfail)))))
  | _ => zfail
theorem zn0 {z : Int32} (h : decide (0 ≤ z.toInt) = true) : ¬ z < 0 := by
  intro q
  have e1 := of_decide_eq_true h
  have e2 : z.toInt < (0 : Int32).toInt := Int32.lt_iff_toInt_lt.mp q
  have e3 : (0 : Int32).toInt = 0 := rfl
  omega
theorem zs_cpy (hx : p.tables.exec = Jvm.exec) (hb : c.code = cc) (hml : c.maxLocals = nL) (hown : s.vm.findClass own = some m.cls) (hts : ∀ w ∈ zT, w.before args s = true) (hK : va_K (dC, dI) vwCl (ztys cA) s) (hE : zen E g) {idx : Nat} (hRf : 1 ≤ R.frames) (hRl : 40 ≤ R.locals) (h1 : Cond.methodLink own idx arraycopyName ∈ zT) (h2 : Cond.native arraycopyName ∈ zT) (h3 : Cond.static arraycopyName ∈ zT) (h4 : Cond.initialized "java/lang/System" ∈ zT) (hdg : decode cc pc = .ok (.invokestatic idx, 3)) (h : zx_cpy E pc lv st hp nc ns ret = .ok r) (Hk : ∀ (pc : Nat) (lv : ZL) (st : List Value) (hp : List ZE) (nc ns : Nat), ret pc lv st hp nc ns = .ok r → zW p l e R s m args below meth c Q dC dI cA g A nL pc lv st hp nc ns) : zW p l e R s m args below meth c Q dC dI cA g A nL pc lv st hp nc ns := by
  match st, h with
  | [], h => cases h
  | [_], h => cases h
  | [_, _], h => cases h
  | [_, _, _], h => cases h
  | [_, _, _, _], h => cases h
  | vn :: vd :: v1 :: vs :: v0 :: st', h =>
    intro ws H locs ls clv cst ⟨r1, r2, r3, r4, r5, r6, r7⟩
    obtain ⟨cn, cr, rfl, g1, g2⟩ := zvs_cons r7
    obtain ⟨cd, cr, rfl, g3, g4⟩ := zvs_cons g2
    obtain ⟨c1, cr, rfl, g5, g6⟩ := zvs_cons g4
    obtain ⟨cs, cr, rfl, g7, g8⟩ := zvs_cons g6
    obtain ⟨c0, cr, rfl, g9, g10⟩ := zvs_cons g8
    simp only [zx_cpy] at h
    obtain ⟨n, rfl, h⟩ := zI_ok hE g1 h
    obtain ⟨dp, rfl, h⟩ := zI_ok hE g3 h
    obtain ⟨sp, rfl, h⟩ := zI_ok hE g7 h
    obtain ⟨q0, e0, a0, w0, rfl, hq0, rfl, hw0, hz0, h⟩ := zrf_ok r1 g9 h
    obtain ⟨q1, e1, a1, w1, rfl, hq1, rfl, hw1, hz1, h⟩ := zrf_ok r1 g5 h
    cases e0 with
    | inr x0 => cases h
    | inl x0 =>
      cases e1 with
      | inr x1 => cases h
      | inl x1 =>
        obtain ⟨t0, n0, us0⟩ := x0
        obtain ⟨t1, n1, us1⟩ := x1
        simp only at h
        cases hb1 : (Nat.beq t0 0 && (Nat.beq t1 0 && (decide (0 ≤ n.toInt) && (decide (0 ≤ dp.toInt) && (decide (0 ≤ sp.toInt) && (Nat.ble (sp.toNatClampNeg + n.toNatClampNeg) n0 && (Nat.ble (dp.toNatClampNeg + n.toNatClampNeg) n1 && Nat.ble (st'.map fun v => v.category).sum 8))))))) with
        | false => rw [hb1] at h; cases h
        | true =>
          rw [hb1, cond_true, zfl_eq, zsk_eq] at h
          have hz9 := h
          simp only [Bool.and_eq_true] at hb1
          obtain ⟨b1, b2, b3, b4, b5, b6, b7, b8⟩ := hb1
          cases Nat.beq_eq.mp b1
          cases Nat.beq_eq.mp b2
          obtain ⟨ar0, rfl, hza0⟩ := zarr hz0
          obtain ⟨ar1, rfl, hza1⟩ := zarr hz1
          obtain ⟨f0, rfl, hf0⟩ := hza0.1 (Nat.succ_pos 2)
          obtain ⟨f1, rfl, hf1⟩ := hza1.1 (Nat.succ_pos 2)
          have hs8 : (cr.map fun v => v.category).sum ≤ 8 := by
            rw [zvs_sum g10]
            exact Nat.le_of_ble_eq_true b8
          have hnf : nativeFrameWords "java/lang/System" "arraycopy" 5 = 7 := by decide
          refine va_copyi hx hb (hml.trans r5.1.symm) hown (hts _ h1) (hts _ h2) (hts _ h3) (hts _ h4) hK r2 r3 r4 q0 q1 0 0 (ty := .int) hw0 hw1 rfl rfl rfl (zn0 b5) (zn0 b4) (zn0 b3) (Nat.le_of_ble_eq_true b6) (Nat.le_of_ble_eq_true b7) (fun i _ => rfl) hRf (by rw [hnf]; omega) hdg (fun H1 locs1 p1 p2 p3 => ?_)
          refine Hk _ _ _ _ _ _ hz9 _ H1 locs1 ls clv _ ⟨zh_set r1 hw1 ⟨_, rfl, ⟨fun _ => ⟨_, rfl, fun j => ?_⟩, fun q => absurd (show (0 : Nat) = 3 from q) (by decide), fun q => absurd (show (3 : Nat) < 0 from q) (by decide)⟩⟩, p1, p2, p3, r5, ?_, ?_⟩
          · rw [zcy_el]
            unfold va_cpy
            by_cases hj : dp.toNatClampNeg ≤ j ∧ j < dp.toNatClampNeg + n.toNatClampNeg
            · rw [if_pos hj, if_pos hj]
              exact hf0 _
            · rw [if_neg hj, if_neg hj]
              exact hf1 _
          · rw [zad_set hw1]; exact r6
          · rw [zad_set hw1]; exact g10
/-- Math.max -/
noncomputable def zx_max (E : ZN) (bc bs : Nat) (pc : Nat) (lv : ZL) (st : List Value) (hp : List ZE) (nc ns : Nat) (ret : ZRt) : ZX := match st with
  | y :: x :: st' => zI E x (fun a => zI E y (fun b => cond (Nat.ble (st'.map fun v => v.category).sum 8 && (Nat.ble nc bc && Nat.ble ns bs)) (zi (if a < b then b else a) (fun z => ret (pc + 3) lv (.int z :: st') hp nc ns)) zfail))
  | _ => zfail
theorem zs_max (hx : p.tables.exec = Jvm.exec) (hb : c.code = cc) (hml : c.maxLocals = nL) (hown : s.vm.findClass own = some m.cls) (hts : ∀ w ∈ zT, w.before args s = true) (hE : zen E g) {idx bc bs : Nat} (hRc : bc ≤ R.cells) (hRs : bs ≤ R.slots) (hRf : 1 ≤ R.frames) (hRl : 40 ≤ R.locals) (h1 : Cond.methodLink own idx Lib.Math.max.name ∈ zT) (h2 : Cond.static Lib.Math.max.name ∈ zT) (h3 : Cond.initialized "java/lang/Math" ∈ zT) (h4 : Cond.code Lib.Math.max.name Lib.Math.max.code 2 (some .int) ∈ zT) (hdg : decode cc pc = .ok (.invokestatic idx, 3)) (h : zx_max E bc bs pc lv st hp nc ns ret = .ok r) (Hk : ∀ (pc : Nat) (lv : ZL) (st : List Value) (hp : List ZE) (nc ns : Nat), ret pc lv st hp nc ns = .ok r → zW p l e R s m args below meth c Q dC dI cA g A nL pc lv st hp nc ns) : zW p l e R s m args below meth c Q dC dI cA g A nL pc lv st hp nc ns := by
  match st, h with
  | [], h => cases h
  | [_], h => cases h
  | y :: x :: st', h =>
    intro ws H locs ls clv cst ⟨r1, r2, r3, r4, r5, r6, r7⟩
    obtain ⟨cy, cr, rfl, h5, h6⟩ := zvs_cons r7
    obtain ⟨cx, cr, rfl, h7, h8⟩ := zvs_cons h6
    simp only [zx_max] at h
    obtain ⟨a, rfl, h⟩ := zI_ok hE h7 h
    obtain ⟨b, rfl, h⟩ := zI_ok hE h5 h
    cases hb1 : (Nat.ble (st'.map fun v => v.category).sum 8 && (Nat.ble nc bc && Nat.ble ns bs)) with
    | false => rw [hb1] at h; cases h
    | true =>
      rw [hb1, cond_true, zi_eq] at h
      simp only [Bool.and_eq_true] at hb1
      have hs8 : (cr.map fun v => v.category).sum ≤ 8 := by
        rw [zvs_sum h8]
        exact Nat.le_of_ble_eq_true hb1.1
      exact va_mmax hx hb (hml.trans r5.1.symm) hown (hts _ h1) (hts _ h2) (hts _ h3) (hts _ h4) hRf (by omega) (Nat.le_trans (Nat.le_of_ble_eq_true hb1.2.1) hRc) (Nat.le_trans (Nat.le_of_ble_eq_true hb1.2.2) hRs) hdg (Hk _ _ _ _ _ _ h ws H locs ls clv _ ⟨r1, r2, r3, r4, r5, r6, rfl, h8⟩)
end ZMK
