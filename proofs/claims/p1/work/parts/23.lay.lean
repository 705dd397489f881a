/-! the reference's lay; both feeds -/
abbrev zwm (cA : Nat → ClassId) (o tp : Nat) (gs : List Value) (f : Nat → Int32) : va_W := [(o, .inr (9, gs)), (tp, .inl (cA 0, 1000, .inl f))]
def zgm (tp n : Nat) (gs : List Value) : Prop := gs[1]? = some (.ref tp) ∧ gs[2]? = some (.int (nI n)) ∧ gs.length = 58
def zqm (cA : Nat → ClassId) (o tp n : Nat) (u : va_W) : Prop := ∃ (gs : List Value) (f : Nat → Int32), u = zwm cA o tp gs f ∧ zgm tp n gs
theorem zgm_put {tp n : Nat} {gs : List Value} (h : zgm tp n gs) (x : Int32) (hx : x = nI (n + 1)) : zgm tp (n + 1) (gs.set 2 (.int x)) := by
  obtain ⟨h0, h1, h4⟩ := h
  have hl : 2 < gs.length := by omega
  refine ⟨?_, ?_, by simp [h4]⟩
  · rw [List.getElem?_set_ne (by decide)]
    exact h0
  · rw [List.getElem?_set_self hl, hx]
theorem zgm_thr {tp n : Nat} {gs : List Value} (h : zgm tp n gs) (x : Value) : zgm tp n (gs.set 0 x) := by
  obtain ⟨h0, h1, h4⟩ := h
  refine ⟨?_, ?_, by simp [h4]⟩
  · rw [List.getElem?_set_ne (by decide)]
    exact h0
  · rw [List.getElem?_set_ne (by decide)]
    exact h1
set_option maxHeartbeats 4000000 in
theorem zc_lay (l : Launch) (dC : Nat → ClassId) (dI : Nat → Nat → Nat) (cA : Nat → ClassId) (d o tp n : Nat) (gs : List Value) (f : Nat → Int32) (v : Int64) (sz : Nat) (hn : n + 8 ≤ 1000) (hg : zgm tp n gs) :
    Met l yX10_lay (.code yX10_lay cX10_lay 5 none :: zT) { frames := d, cells := 0, slots := 0, locals := 40 * d } (va_Pc [.ref o, .long v] (zB dC dI cA (zwm cA o tp gs f) sz)) (va_Qv (zqm cA o tp (n + zcn (zbm v) 8)) (zend dC dI cA (va_A (zwm cA o tp gs f) sz)) (va_A (zwm cA o tp gs f) sz)) 0 0 (va_A (zwm cA o tp gs f) sz) := by
  refine Met.ofW (cc := cX10_lay) (maxL := 5) (ret := none) (by decide) rfl ?_
  intro p e s m args below meth c s₁ B hml hv
  obtain ⟨rfl, hsz, hP, hK, hD0, hz9⟩ := hv
  have hx := B.exec
  have hb := B.bytes
  have hr := B.returns
  have hts : ∀ w ∈ zT, w.before _ s = true := fun w hw => atoms_spec (ws := .code yX10_lay cX10_lay 5 none :: zT) B.pre w (List.mem_cons_of_mem _ hw)
  have hown : s.vm.findClass RX10 = some m.cls := findClass_of_methodNamed B.named
  have hlocks := B.notSynchronized
  subst hsz
  have hD := hD0.self (sz := s.heap.size)
  have hA : ∀ q, s.heap.size ≤ q → va_A (zwm cA o tp gs f) s.heap.size q := fun q h => Or.inr h
  generalize va_A (zwm cA o tp gs f) s.heap.size = A at hD hA ⊢
  have hS : va_S A s.heap s.heap [] := va_S.rf
  have hl := lv_entry ([.ref o, .long v]) (n := 5) (Nat.le_of_ble_eq_true rfl)
  rw [lg_entry_eq]
  generalize (lg_sl ([.ref o, .long v]) ++ List.replicate (5 - (lg_sl ([.ref o, .long v])).length) Slot.unset).toArray = ls at hl ⊢
  have hl : lv_has ls 5 [(0, .ref o), (1, .long v)] := hl
  have loop : ∀ (k i : Nat), i + k = 8 → ∀ (gs' : List Value) (f' : Nat → Int32) (H : Heap) (locs : List Loc) (ls : Array Slot), zgm tp (n + zcn (zbm v) i) gs' → va_P (dC, dI) vwCl (zwm cA o tp gs' f') H → va_D A (zwm cA o tp gs' f') → va_S A s.heap H locs → lv_has ls 5 [(3, .int (zsh i)), (0, .ref o), (1, .long v)] → W p l e { frames := d, cells := 0, slots := 0, locals := 40 * d } s m [Value.ref o, Value.long v].toArray below meth c H locs 0 0 (MQ below (va_Qv (zqm cA o tp (n + zcn (zbm v) 8)) (zend dC dI cA A) A) [Value.ref o, Value.long v].toArray s 0 0 A) (F0 m 3 ls []) := by
    intro k
    induction k with
    | zero =>
      intro i hi gs' f' H locs ls hg' hP' hD' hS' hl'
      have e8 : i = 8 := by omega
      subst e8
      refine lv_iload_n hx hb dX10_lay_3 rfl (lv_at hl' 0 rfl) ?_
      refine lv_if_lt (tgt := 75) hx hb dX10_lay_4 (by decide) (fun _ => ?_) (fun c9 => absurd zsh_8 c9)
      exact W.vret hx hb hr (fun t9 ht hW => ⟨⟨_, rfl, ⟨gs', f', rfl, hg'⟩, by rw [ht]; exact hP', va_K.moved hW.alike hK, hD'⟩, hS'.F ht⟩) hS'.2.2 dX10_lay_75
    | succ k ih =>
      intro i hi gs' f' H locs ls hg' hP' hD' hS' hl'
      have hi8 : i < 8 := by omega
      have hcl := zcn_le (zbm v) i
      have nxt : ∀ (gs2 : List Value) (f2 : Nat → Int32) (H1 : Heap) (locs1 : List Loc) (ls2 : Array Slot), zgm tp (n + zcn (zbm v) (i + 1)) gs2 → va_P (dC, dI) vwCl (zwm cA o tp gs2 f2) H1 → va_D A (zwm cA o tp gs2 f2) → va_S A s.heap H1 locs1 → lv_has ls2 5 [(4, .int (zbm v i)), (3, .int (zsh i)), (0, .ref o), (1, .long v)] → W p l e { frames := d, cells := 0, slots := 0, locals := 40 * d } s m [Value.ref o, Value.long v].toArray below meth c H1 locs1 0 0 (MQ below (va_Qv (zqm cA o tp (n + zcn (zbm v) 8)) (zend dC dI cA A) A) [Value.ref o, Value.long v].toArray s 0 0 A) (F0 m 69 ls2 []) := by
        intro gs2 f2 H1 locs1 ls2 hg2 hP1 hD1 hS1 hl2
        refine lv_iinc (v := zsh (i + 1)) (lv' := [(3, .int (zsh (i + 1))), (4, .int (zbm v i)), (0, .ref o), (1, .long v)]) hx hb dX10_lay_69 hl2 (k := 1) rfl (zsh_dn i hi8) (by decide) rfl (fun ls3 hl3 => ?_)
        refine lv_goto (tgt := 3) hx hb dX10_lay_72 (by decide) ?_
        exact ih (i + 1) (by omega) gs2 f2 H1 locs1 ls3 hg2 hP1 hD1 hS1 (lv_sub hl3 [0, 2, 3] rfl)
      refine lv_iload_n hx hb dX10_lay_3 rfl (lv_at hl' 0 rfl) ?_
      refine lv_if_lt (tgt := 75) hx hb dX10_lay_4 (by decide) (fun c9 => absurd c9 (zsh_nn i hi8)) (fun _ => ?_)
      refine lv_lload_n hx hb dX10_lay_7 rfl (lv_at hl' 2 rfl) ?_
      refine lv_iload_n hx hb dX10_lay_8 rfl (lv_at hl' 0 rfl) ?_
      refine lv_lshr hx hb dX10_lay_9 rfl ?_
      refine lv_l2i hx hb dX10_lay_10 rfl ?_
      refine lv_sipush (v := 255) hx hb dX10_lay_11 (by decide) ?_
      refine lv_iand hx hb dX10_lay_14 ?_
      refine lv_istore (x := zbm v i) (lv' := [(4, .int (zbm v i)), (3, .int (zsh i)), (0, .ref o), (1, .long v)]) hx hb dX10_lay_15 hl' (by decide) rfl (fun ls hl => ?_)
      have hno : zkb (zbm v i) = 0 → W p l e { frames := d, cells := 0, slots := 0, locals := 40 * d } s m [Value.ref o, Value.long v].toArray below meth c H locs 0 0 (MQ below (va_Qv (zqm cA o tp (n + zcn (zbm v) 8)) (zend dC dI cA A) A) [Value.ref o, Value.long v].toArray s 0 0 A) (F0 m 69 ls []) := fun h0 => nxt gs' f' H locs ls (by rw [zcn_s, h0]; exact hg') hP' hD' hS' hl
      have hyes : zkb (zbm v i) = 1 → W p l e { frames := d, cells := 0, slots := 0, locals := 40 * d } s m [Value.ref o, Value.long v].toArray below meth c H locs 0 0 (MQ below (va_Qv (zqm cA o tp (n + zcn (zbm v) 8)) (zend dC dI cA A) A) [Value.ref o, Value.long v].toArray s 0 0 A) (F0 m 38 ls []) := by
        intro h1
        refine lv_aload_n hx hb dX10_lay_38 rfl (lv_at hl 2 rfl) ?_
        refine va_get (D := (dC, dI)) (ci := 9) (v := .int (nI (n + zcn (zbm v) i))) (C := RX10) (T := TX10) (N := 58) hx hb hts zin9 hown hK hP' 0 rfl rfl 2 (by decide) (hts _ zf_tpd) (fun _ h9 => h9) hg'.2.1 dX10_lay_39 ?_
        refine lv_sipush (v := 1000) hx hb dX10_lay_42 (by decide) ?_
        refine lv_icmp_ge (tgt := 69) hx hb dX10_lay_45 (by decide) (fun c9 => absurd c9 (nI_ge (a := n + zcn (zbm v) i) (b := 1000) (by omega) (by decide))) (fun _ => ?_)
        refine lv_aload_n hx hb dX10_lay_48 rfl (lv_at hl 2 rfl) ?_
        refine va_get (D := (dC, dI)) (ci := 9) (v := .ref tp) (C := RX10) (T := TX10) (N := 58) hx hb hts zin9 hown hK hP' 0 rfl rfl 1 (by decide) (hts _ zf_tp) (fun _ h9 => h9) hg'.1 dX10_lay_49 ?_
        refine lv_aload_n hx hb dX10_lay_52 rfl (lv_at hl 2 rfl) ?_
        refine va_get (D := (dC, dI)) (ci := 9) (v := .int (nI (n + zcn (zbm v) i))) (C := RX10) (T := TX10) (N := 58) hx hb hts zin9 hown hK hP' 0 rfl rfl 2 (by decide) (hts _ zf_tpd) (fun _ h9 => h9) hg'.2.1 dX10_lay_53 ?_
        refine lv_iload hx hb dX10_lay_56 (lv_at hl 0 rfl) ?_
        refine va_iast hx hb hK hP' hD' hS' 1 0 rfl rfl (vp_in_nI (show n + zcn (zbm v) i < 1000 by omega) (by decide)) dX10_lay_58 (fun H locs hP hD hS => ?_)
        obtain ⟨f2, hf2⟩ : ∃ f2 : Nat → Int32, f2 = upd f' (nI (n + zcn (zbm v) i)).toNatClampNeg (zbm v i) := ⟨_, rfl⟩
        rw [← hf2] at hP hD
        have hP : va_P (dC, dI) vwCl (zwm cA o tp gs' f2) H := hP
        have hD : va_D A (zwm cA o tp gs' f2) := hD
        refine lv_aload_n hx hb dX10_lay_59 rfl (lv_at hl 2 rfl) ?_
        refine lv_dup hx hb dX10_lay_60 rfl ?_
        refine va_get (D := (dC, dI)) (ci := 9) (v := .int (nI (n + zcn (zbm v) i))) (C := RX10) (T := TX10) (N := 58) hx hb hts zin9 hown hK hP 0 rfl rfl 2 (by decide) (hts _ zf_tpd) (fun _ h9 => h9) hg'.2.1 dX10_lay_61 ?_
        refine lv_iconst (v := 1) hx hb dX10_lay_64 (by decide) ?_
        refine lv_iadd hx hb dX10_lay_65 ?_
        refine lv_topi (fun x1 ex1 => ?_)
        refine va_put (D := (dC, dI)) (ci := 9) (v := .int x1) (ty := .int) (C := RX10) (T := TX10) (N := 58) hx hb hts zin9 tyX10 tyX10_ok nmX10 hown hK hP hD hS 0 rfl rfl 2 (by decide) (hts _ zf_tpd) (fun _ h9 => h9) rfl (by decide +kernel) rfl rfl (by rw [hg'.2.2]; decide) dX10_lay_66 (fun H locs hP hD hS => ?_)
        have hP : va_P (dC, dI) vwCl (zwm cA o tp (gs'.set 2 (.int x1)) f2) H := hP
        have hD : va_D A (zwm cA o tp (gs'.set 2 (.int x1)) f2) := hD
        exact nxt _ f2 H locs ls (by rw [zcn_s, h1, ← Nat.add_assoc]; exact zgm_put hg' x1 (ex1.trans (nI_1 _))) hP hD hS hl
      refine lv_iload hx hb dX10_lay_17 (lv_at hl 0 rfl) ?_
      refine lv_bipush (v := 10) hx hb dX10_lay_19 (by decide) ?_
      refine lv_icmp_eq (tgt := 38) hx hb dX10_lay_21 (by decide) (fun c1 => hyes (by unfold zkb; rw [if_pos (Or.inl c1)])) (fun c1 => ?_)
      refine lv_iload hx hb dX10_lay_24 (lv_at hl 0 rfl) ?_
      refine lv_bipush (v := 32) hx hb dX10_lay_26 (by decide) ?_
      refine lv_icmp_lt (tgt := 69) hx hb dX10_lay_28 (by decide) (fun c2 => hno (by unfold zkb; rw [if_neg (fun q => q.elim c1 (fun z => z.1 c2))])) (fun c2 => ?_)
      refine lv_iload hx hb dX10_lay_31 (lv_at hl 0 rfl) ?_
      refine lv_bipush (v := 126) hx hb dX10_lay_33 (by decide) ?_
      refine lv_icmp_gt (tgt := 69) hx hb dX10_lay_35 (by decide) (fun c3 => hno (by unfold zkb; rw [if_neg (fun q => q.elim c1 (fun z => z.2 c3))])) (fun c3 => ?_)
      exact hyes (by unfold zkb; rw [if_pos (Or.inr ⟨c2, c3⟩)])
  refine lv_bipush (v := 56) hx hb dX10_lay_0 (by decide) ?_
  refine lv_istore_n (lv' := [(3, .int 56), (0, .ref o), (1, .long v)]) hx hb dX10_lay_2 rfl hl (by decide) rfl (fun ls hl => ?_)
  exact loop 8 0 rfl gs f s.heap [] ls hg hP hD hS hl
set_option maxHeartbeats 4000000 in
theorem zc_mfeed (l : Launch) (dC : Nat → ClassId) (dI : Nat → Nat → Nat) (cA : Nat → ClassId) (d o tp : Nat) (gs : List Value) (f : Nat → Int32) (va vb vc : Int64) (sz : Nat) (hg : zgm tp 0 gs) :
    Met l yX10_feed (.code yX10_feed cX10_feed 7 (some .int) :: zT) { frames := d + 1, cells := 0, slots := 0, locals := 40 * (d + 1) } (va_Pc [.ref o, .long va, .long vb, .long vc] (zB dC dI cA (zwm cA o tp gs f) sz)) (va_Qi (fun r (_ : Unit) => r = nI (zcn (zbm va) 8 + zcn (zbm vb) 8 + zcn (zbm vc) 8)) (fun _ _ => True) (va_A (zwm cA o tp gs f) sz)) 0 0 (va_A (zwm cA o tp gs f) sz) := by
  refine Met.ofW (cc := cX10_feed) (maxL := 7) (ret := some .int) (by decide) rfl ?_
  intro p e s m args below meth c s₁ B hml hv
  obtain ⟨rfl, hsz, hP, hK, hD0, hz9⟩ := hv
  have hx := B.exec
  have hb := B.bytes
  have hr := B.returns
  have hts : ∀ w ∈ zT, w.before _ s = true := fun w hw => atoms_spec (ws := .code yX10_feed cX10_feed 7 (some .int) :: zT) B.pre w (List.mem_cons_of_mem _ hw)
  have hown : s.vm.findClass RX10 = some m.cls := findClass_of_methodNamed B.named
  have hlocks := B.notSynchronized
  subst hsz
  have hD := hD0.self (sz := s.heap.size)
  have hA : ∀ q, s.heap.size ≤ q → va_A (zwm cA o tp gs f) s.heap.size q := fun q h => Or.inr h
  generalize va_A (zwm cA o tp gs f) s.heap.size = A at hD hA ⊢
  have hS : va_S A s.heap s.heap [] := va_S.rf
  have hl := lv_entry ([.ref o, .long va, .long vb, .long vc]) (n := 7) (Nat.le_of_ble_eq_true rfl)
  rw [lg_entry_eq]
  generalize (lg_sl ([.ref o, .long va, .long vb, .long vc]) ++ List.replicate (7 - (lg_sl ([.ref o, .long va, .long vb, .long vc])).length) Slot.unset).toArray = ls at hl ⊢
  have hl : lv_has ls 7 [(0, .ref o), (1, .long va), (3, .long vb), (5, .long vc)] := hl
  have h1a := zcn_le (zbm va) 8
  have h1b := zcn_le (zbm vb) 8
  have hP : va_P (dC, dI) vwCl (zwm cA o tp gs f) s.heap := hP
  refine lv_aload_n hx hb dX10_feed_0 rfl (lv_at hl 0 rfl) ?_
  refine lv_iconst (v := 0) hx hb dX10_feed_1 (by decide) ?_
  refine va_put (D := (dC, dI)) (ci := 9) (v := .int 0) (ty := .int) (C := RX10) (T := TX10) (N := 58) hx hb hts zin9 tyX10 tyX10_ok nmX10 hown hK hP hD hS 0 rfl rfl 0 (by decide) (hts _ zf_thr) (fun _ h9 => h9) rfl (by decide +kernel) rfl rfl (by rw [hg.2.2]; decide) dX10_feed_2 (fun H locs hP hD hS => ?_)
  have hP : va_P (dC, dI) vwCl (zwm cA o tp (gs.set 0 (.int 0)) f) H := hP
  have hD : va_D A (zwm cA o tp (gs.set 0 (.int 0)) f) := hD
  have hg := zgm_thr hg (.int 0)
  generalize gs.set 0 (.int 0) = gs at hP hD hg
  have step : ∀ (n pc : Nat) (vv : Int64) (gs : List Value) (f : Nat → Int32) (H : Heap) (locs : List Loc), n + 8 ≤ 1000 → decode cX10_feed pc = .ok (.invokevirtual 7, 3) → zgm tp n gs → va_P (dC, dI) vwCl (zwm cA o tp gs f) H → va_D A (zwm cA o tp gs f) → va_S A s.heap H locs → (∀ (gs : List Value) (f : Nat → Int32) (H : Heap) (locs : List Loc), zgm tp (n + zcn (zbm vv) 8) gs → va_P (dC, dI) vwCl (zwm cA o tp gs f) H → va_D A (zwm cA o tp gs f) → va_S A s.heap H locs → W p l e { frames := d + 1, cells := 0, slots := 0, locals := 40 * (d + 1) } s m [Value.ref o, Value.long va, Value.long vb, Value.long vc].toArray below meth c H locs 0 0 (MQ below (va_Qi (fun r (_ : Unit) => r = nI (zcn (zbm va) 8 + zcn (zbm vb) 8 + zcn (zbm vc) 8)) (fun _ _ => True) A) [Value.ref o, Value.long va, Value.long vb, Value.long vc].toArray s 0 0 A) (F0 m (pc + 3) ls [])) → W p l e { frames := d + 1, cells := 0, slots := 0, locals := 40 * (d + 1) } s m [Value.ref o, Value.long va, Value.long vb, Value.long vc].toArray below meth c H locs 0 0 (MQ below (va_Qi (fun r (_ : Unit) => r = nI (zcn (zbm va) 8 + zcn (zbm vb) 8 + zcn (zbm vc) 8)) (fun _ _ => True) A) [Value.ref o, Value.long va, Value.long vb, Value.long vc].toArray s 0 0 A) (F0 m pc ls [.long vv, .ref o]) := by
    intro n pc vv gs f H locs hn hdg hg' hP' hD' hS' kk
    have hM := zc_lay l dC dI cA d o tp n gs f vv H.size hn hg'
    have hR9 := zrun (e := e) (below := below) (meth := meth) (locs := locs) (nc := 0) (ns := 0) (own := RX10) (idx := 7) (kd := 2) (n := 1) (R := { frames := d + 1, cells := 0, slots := 0, locals := 40 * (d + 1) }) (cst := [.long vv, .ref o]) (crest := []) (ls := ls) hx hb hml hown hts hK hP' hD' hl.1 hM hz9 zw_lay (fun q => by omega) (by decide +kernel) (by decide) (fun q => by omega) ⟨Nat.le_refl _, Nat.le_refl _⟩ ⟨Nat.le_refl _, Nat.le_refl _⟩ rfl (by decide) rfl (fun _ => ⟨o, _, rfl, fun _ => va_recv hK hP' (ci := 9) (q0 := 0) rfl rfl⟩) (Or.inr (Or.inl ⟨rfl, rfl⟩)) hdg
    have hF := zfree hD' hS' hA
    refine va_callv hR9 hS' (fun q _ h => hF q h) hF (fun u t9 H1 locs1 ht hvm hw hB hz1 hk1 hS1 => ?_)
    obtain ⟨gs2, f2, rfl, hg2⟩ := hw
    obtain ⟨hP1, hK1, hD1⟩ := hB
    rw [ht] at hP1
    exact kk gs2 f2 H1 locs1 hg2 hP1 (hD1.weaken (fun _ q _ z => hF q.1 z)) hS1
  refine lv_aload_n hx hb dX10_feed_5 rfl (lv_at hl 0 rfl) ?_
  refine lv_lload_n hx hb dX10_feed_6 rfl (lv_at hl 1 rfl) ?_
  refine step 0 7 va gs f H locs (by omega) dX10_feed_7 hg hP hD hS (fun gs f H locs hg hP hD hS => ?_)
  refine lv_aload_n hx hb dX10_feed_10 rfl (lv_at hl 0 rfl) ?_
  refine lv_lload_n hx hb dX10_feed_11 rfl (lv_at hl 2 rfl) ?_
  refine step _ 12 vb gs f H locs (by omega) dX10_feed_12 hg hP hD hS (fun gs f H locs hg hP hD hS => ?_)
  refine lv_aload_n hx hb dX10_feed_15 rfl (lv_at hl 0 rfl) ?_
  refine lv_lload hx hb dX10_feed_16 (lv_at hl 3 rfl) ?_
  refine step _ 18 vc gs f H locs (by omega) dX10_feed_18 hg hP hD hS (fun gs f H locs hg hP hD hS => ?_)
  refine lv_aload_n hx hb dX10_feed_21 rfl (lv_at hl 0 rfl) ?_
  refine va_get (D := (dC, dI)) (ci := 9) (C := RX10) (T := TX10) (N := 58) hx hb hts zin9 hown hK hP 0 rfl rfl 2 (by decide) (hts _ zf_tpd) (fun _ h9 => h9) hg.2.1 dX10_feed_22 ?_
  exact W.iret hx hb hr (fun t ht hW => ⟨⟨_, (), rfl, by rw [Nat.zero_add], trivial⟩, hS.F ht⟩) hS.2.2 dX10_feed_25
abbrev zwx (cA : Nat → ClassId) (o t sg : Nat) (gx gs : List Value) (f : Nat → Int32) : va_W := [(o, .inr (8, gx)), (t, .inr (6, gs)), (sg, .inl (cA 2, 1000, .inl f))]
set_option maxHeartbeats 4000000 in
theorem zc_feed (l : Launch) (dC : Nat → ClassId) (dI : Nat → Nat → Nat) (cA : Nat → ClassId) (d o t sg : Nat) (gx gs : List Value) (f : Nat → Int32) (va vb vc : Int64) (sz : Nat) (hgx : gx[0]? = some (.ref t)) (hg : zgt sg 0 gs) :
    Met l yX9_feed (.code yX9_feed cX9_feed 7 (some .int) :: zT) { frames := d + 2, cells := 0, slots := 0, locals := 40 * (d + 2) } (va_Pc [.ref o, .long va, .long vb, .long vc] (zB dC dI cA (zwx cA o t sg gx gs f) sz)) (va_Qi (fun r (_ : Unit) => r = nI (zcn (zby va) 8 + zcn (zby vb) 8 + zcn (zby vc) 8)) (fun _ _ => True) (va_A (zwx cA o t sg gx gs f) sz)) 0 0 (va_A (zwx cA o t sg gx gs f) sz) := by
  refine Met.ofW (cc := cX9_feed) (maxL := 7) (ret := some .int) (by decide) rfl ?_
  intro p e s m args below meth c s₁ B hml hv
  obtain ⟨rfl, hsz, hP, hK, hD0, hz9⟩ := hv
  have hx := B.exec
  have hb := B.bytes
  have hr := B.returns
  have hts : ∀ w ∈ zT, w.before _ s = true := fun w hw => atoms_spec (ws := .code yX9_feed cX9_feed 7 (some .int) :: zT) B.pre w (List.mem_cons_of_mem _ hw)
  have hown : s.vm.findClass RX9 = some m.cls := findClass_of_methodNamed B.named
  have hlocks := B.notSynchronized
  subst hsz
  have hD := hD0.self (sz := s.heap.size)
  have hA : ∀ q, s.heap.size ≤ q → va_A (zwx cA o t sg gx gs f) s.heap.size q := fun q h => Or.inr h
  generalize va_A (zwx cA o t sg gx gs f) s.heap.size = A at hD hA ⊢
  have hS : va_S A s.heap s.heap [] := va_S.rf
  have hl := lv_entry ([.ref o, .long va, .long vb, .long vc]) (n := 7) (Nat.le_of_ble_eq_true rfl)
  rw [lg_entry_eq]
  generalize (lg_sl ([.ref o, .long va, .long vb, .long vc]) ++ List.replicate (7 - (lg_sl ([.ref o, .long va, .long vb, .long vc])).length) Slot.unset).toArray = ls at hl ⊢
  have hl : lv_has ls 7 [(0, .ref o), (1, .long va), (3, .long vb), (5, .long vc)] := hl
  have h1a := zcn_le (zby va) 8
  have h1b := zcn_le (zby vb) 8
  have hP : va_P (dC, dI) vwCl (zwx cA o t sg gx gs f) s.heap := hP
  have step : ∀ (n pc : Nat) (vv : Int64) (gs : List Value) (f : Nat → Int32) (H : Heap) (locs : List Loc), n + 8 ≤ 1000 → decode cX9_feed pc = .ok (.invokevirtual 77, 3) → zgt sg n gs → va_P (dC, dI) vwCl (zwx cA o t sg gx gs f) H → va_D A (zwx cA o t sg gx gs f) → va_S A s.heap H locs → (∀ (gs : List Value) (f : Nat → Int32) (H : Heap) (locs : List Loc), zgt sg (n + zcn (zby vv) 8) gs → va_P (dC, dI) vwCl (zwx cA o t sg gx gs f) H → va_D A (zwx cA o t sg gx gs f) → va_S A s.heap H locs → W p l e { frames := d + 2, cells := 0, slots := 0, locals := 40 * (d + 2) } s m [Value.ref o, Value.long va, Value.long vb, Value.long vc].toArray below meth c H locs 0 0 (MQ below (va_Qi (fun r (_ : Unit) => r = nI (zcn (zby va) 8 + zcn (zby vb) 8 + zcn (zby vc) 8)) (fun _ _ => True) A) [Value.ref o, Value.long va, Value.long vb, Value.long vc].toArray s 0 0 A) (F0 m (pc + 3) ls [])) → W p l e { frames := d + 2, cells := 0, slots := 0, locals := 40 * (d + 2) } s m [Value.ref o, Value.long va, Value.long vb, Value.long vc].toArray below meth c H locs 0 0 (MQ below (va_Qi (fun r (_ : Unit) => r = nI (zcn (zby va) 8 + zcn (zby vb) 8 + zcn (zby vc) 8)) (fun _ _ => True) A) [Value.ref o, Value.long va, Value.long vb, Value.long vc].toArray s 0 0 A) (F0 m pc ls [.long vv, .ref t]) := by
    intro n pc vv gs f H locs hn hdg hg' hP' hD' hS' kk
    have hPc : va_P (dC, dI) vwCl (zwt cA t sg gs f) H := hP'.sub [1, 2] rfl
    have hDc : va_D A (zwt cA t sg gs f) := hD'.sub [1, 2] (by decide) rfl
    have hM := zc_take l dC dI cA d t sg n gs f vv H.size hn hg'
    have hR9 := zrun (e := e) (below := below) (meth := meth) (locs := locs) (nc := 0) (ns := 0) (own := RX9) (idx := 77) (kd := 2) (n := 1) (R := { frames := d + 2, cells := 0, slots := 0, locals := 40 * (d + 2) }) (cst := [.long vv, .ref t]) (crest := []) (ls := ls) hx hb hml hown hts hK hPc hDc hl.1 hM hz9 zw_take (fun q => by omega) (by decide +kernel) (by decide) (fun q => by omega) ⟨Nat.le_refl _, Nat.le_refl _⟩ ⟨Nat.le_refl _, Nat.le_refl _⟩ rfl (by decide) rfl (fun _ => ⟨t, _, rfl, fun _ => va_recv hK hPc (ci := 6) (q0 := 0) rfl rfl⟩) (Or.inr (Or.inl ⟨rfl, rfl⟩)) hdg
    have hF := zfree hDc hS' hA
    refine va_callv hR9 hS' (fun q _ h => hF q h) hF (fun u t9 H1 locs1 ht hvm hw hB hz1 hk1 hS1 => ?_)
    obtain ⟨gs2, f2, rfl, hg2⟩ := hw
    obtain ⟨hP1, hK1, hD1⟩ := hB
    rw [ht] at hP1
    obtain ⟨hP2, hD2⟩ := va_join (wr := [(o, .inr (8, gx))]) (w1 := zwt cA t sg gs2 f2) hP' hD' [1, 2] [0] rfl rfl (by decide) (by decide) hk1 hF hP1 hD1
    exact kk gs2 f2 H1 locs1 hg2 hP2 hD2 hS1
  refine lv_aload_n hx hb dX9_feed_0 rfl (lv_at hl 0 rfl) ?_
  refine va_get (D := (dC, dI)) (ci := 8) (C := RX9) (T := TX9) (N := 9) hx hb hts zin8 hown hK hP 0 rfl rfl 0 (by decide) (hts _ zf_tap) (fun _ h9 => h9) hgx dX9_feed_1 ?_
  refine lv_lload_n hx hb dX9_feed_4 rfl (lv_at hl 1 rfl) ?_
  refine step 0 5 va gs f s.heap [] (by omega) dX9_feed_5 hg hP hD hS (fun gs f H locs hg hP hD hS => ?_)
  refine lv_aload_n hx hb dX9_feed_8 rfl (lv_at hl 0 rfl) ?_
  refine va_get (D := (dC, dI)) (ci := 8) (C := RX9) (T := TX9) (N := 9) hx hb hts zin8 hown hK hP 0 rfl rfl 0 (by decide) (hts _ zf_tap) (fun _ h9 => h9) hgx dX9_feed_9 ?_
  refine lv_lload_n hx hb dX9_feed_12 rfl (lv_at hl 2 rfl) ?_
  refine step _ 13 vb gs f H locs (by omega) dX9_feed_13 hg hP hD hS (fun gs f H locs hg hP hD hS => ?_)
  refine lv_aload_n hx hb dX9_feed_16 rfl (lv_at hl 0 rfl) ?_
  refine va_get (D := (dC, dI)) (ci := 8) (C := RX9) (T := TX9) (N := 9) hx hb hts zin8 hown hK hP 0 rfl rfl 0 (by decide) (hts _ zf_tap) (fun _ h9 => h9) hgx dX9_feed_17 ?_
  refine lv_lload hx hb dX9_feed_20 (lv_at hl 3 rfl) ?_
  refine step _ 22 vc gs f H locs (by omega) dX9_feed_22 hg hP hD hS (fun gs f H locs hg hP hD hS => ?_)
  refine lv_aload_n hx hb dX9_feed_25 rfl (lv_at hl 0 rfl) ?_
  refine va_get (D := (dC, dI)) (ci := 8) (C := RX9) (T := TX9) (N := 9) hx hb hts zin8 hown hK hP 0 rfl rfl 0 (by decide) (hts _ zf_tap) (fun _ h9 => h9) hgx dX9_feed_26 ?_
  refine va_get (D := (dC, dI)) (ci := 6) (C := RX7) (T := TX7) (N := 4) hx hb hts zin6 hown hK hP 1 rfl rfl 1 (by decide) (hts _ zf_len9) (fun _ h9 => h9) hg.2.1 dX9_feed_29 ?_
  exact W.iret hx hb hr (fun t ht hW => ⟨⟨_, (), rfl, by rw [Nat.zero_add], trivial⟩, hS.F ht⟩) hS.2.2 dX9_feed_32
