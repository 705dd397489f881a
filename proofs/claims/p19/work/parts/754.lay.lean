/-! the class's layer, which may throw, and the law's own, which catches -/
theorem sfr0 {M M' : SMem} {ad ad' : SAd} (h : sfr tg M M' ad ad' ([], [])) : M' = M ∧ ad' = ad := by
  refine ⟨?_, ?_⟩
  · funext f j i
    exact h.1 f j i List.not_mem_nil
  · funext f j
    exact h.2.1 f j List.not_mem_nil
theorem zofWH {l : Launch} {y : MethodName} {ws ws' : List Cond} {rm : Room} {Pc : Array Value → State → Prop} {Qc : Array Value → State → Outcome → State → Prop} {mc ms : Nat} {free : Addr → Prop} {cc : ByteArray} {maxL : Nat} {ret : Option FieldType} {hh : List (Nat × Nat × Nat × Nat)}
    (hy : Jvm.plainName y.cls = true) (hw : ws = Cond.codeWith y cc maxL ret hh :: ws')
    (body : ∀ p e s m args below meth c s₁, BodyLoose p l y (headSpec ws rm) cc maxL ret e s m args below meth c s₁ → c.maxLocals = maxL → Pc args s →
      W p l e (headSpec ws rm).room s m args below meth c s.heap [] 0 0 (MQ below Qc args s mc ms free) (entryFrame m args maxL)) : Met l y ws rm Pc Qc mc ms free := by
  refine MetFree.of_bodyS (code := cc) (maxLocals := maxL) (ret := ret) hy ?_ ?_
  · intro args s m h hn
    obtain ⟨m9, meth, c, hn9, h1, h2, h3, h4, -, h5, h6, -⟩ := Cond.codeWith_spec (atoms_spec (ws := ws) h _ (by rw [hw]; exact List.mem_cons_self))
    cases hn.symm.trans hn9
    exact ⟨meth, c, h1, h2, h3, h4, h5, h6⟩
  · intro p e s m args below meth c s₁ B hml hP _
    have hh0 : s₁.heap = s.heap := by rw [B.state]; rfl
    obtain ⟨t, a1, o, b1, b2, b3⟩ := body p e s m args below meth c s₁ B hml hP s₁ hh0 (Stand.of_body B)
    exact ⟨t, o, a1, b1, b2, ⟨b3.1, b3.2⟩⟩
section SLY
variable {l : Launch} {dC : Nat → ClassId} {dI : Nat → Nat → Nat} {cA : Nat → ClassId} {aK aV sa : Nat} {tx : String}
theorem zCtx0 : sCtx tlm tf tg (zEX aK aV sa tx) l dC dI cA aK [] 0 := zCtx (fun kc Cs h => by cases h) (fun h => by omega)
set_option maxHeartbeats 4000000 in
theorem zc_layer (hst : l.stackTraces = false) (M : SMem) (ad : SAd) (ws : va_W) (sz : Nat) (i1 i2 i3 : Int32) (hH : sH tf ad M cA ws) (hI : sI tg M) (hX : sX M) :
    vx_Met l yX9_layer (.code yX9_layer cX9_layer 5 (some .int) :: zT) { frames := 8, cells := 1, slots := 6, locals := 40 * 8 } (va_Pc [.ref (ad 0 0), .int i1, .int i2, .int i3] (sB (zEX aK aV sa tx) dC dI cA ws sz)) (va_Qi (fun _ u => sH tf ad M cA u) (zend dC dI cA (va_A ws sz)) (va_A ws sz)) (vx_X (fun u => sH tf ad M cA u) (fun E u t => E = "java/util/NoSuchElementException" ∧ zend dC dI cA (va_A ws sz) u t) (va_A ws sz)) 1 6 (va_A ws sz) := by
  refine vx_ofW (cc := cX9_layer) (maxL := 5) (ret := some .int) (by decide) rfl ?_
  intro p e s m args below meth c s₁ B hml htb hv
  obtain ⟨rfl, hsz, hP, hK, hD0, hE9⟩ := hv
  have hx := B.exec
  have hb := B.bytes
  have hr := B.returns
  have hts : ∀ w ∈ zT, w.before _ s = true := fun w hw => atoms_spec (ws := .code yX9_layer cX9_layer 5 (some .int) :: zT) B.pre w (List.mem_cons_of_mem _ hw)
  have hown : s.vm.findClass RX9 = some m.cls := findClass_of_methodNamed B.named
  have hlocks := B.notSynchronized
  subst hsz
  have hD := hD0.self (sz := s.heap.size)
  have hA : ∀ q, s.heap.size ≤ q → va_A ws s.heap.size q := fun q h => Or.inr h
  have hl := lv_entry ([.ref (ad 0 0), .int i1, .int i2, .int i3]) (n := 5) (Nat.le_of_ble_eq_true rfl)
  rw [lg_entry_eq]
  generalize (lg_sl ([.ref (ad 0 0), .int i1, .int i2, .int i3]) ++ List.replicate (5 - (lg_sl ([.ref (ad 0 0), .int i1, .int i2, .int i3])).length) Slot.unset).toArray = ls at hl ⊢
  have hl : lv_has ls 5 [(0, .ref (ad 0 0)), (1, .int i1), (2, .int i2), (3, .int i3)] := hl
  have hrun := tlr_ok
  unfold tlr at hrun
  cases hys : sgo tlm tlc tf tg [] [] [] 0 6 [17] 300 1 6 0 tll [] tlw with
  | none => rw [hys] at hrun; cases hrun
  | some ys =>
    rw [hys] at hrun
    obtain ⟨ρ, hρ⟩ : ∃ ρ : Nat → Int, ρ = fun t => if t = 0 then i1.toInt else if t = 1 then i2.toInt else i3.toInt := ⟨_, rfl⟩
    have r0 : ρ 0 = i1.toInt := by rw [hρ]; rfl
    have r1 : ρ 1 = i2.toInt := by rw [hρ]; rfl
    have r2 : ρ 2 = i3.toInt := by rw [hρ]; rfl
    have hbd : ∀ x : Int32, -2147483648 ≤ x.toInt ∧ x.toInt ≤ 2147483647 := fun x => ⟨Int32.le_toInt x, by have := Int32.toInt_lt x; omega⟩
    have F : sF 6 (RX9, yX9_layer, cX9_layer, 5, some .int, 0, 0) (zEX aK aV sa tx) p { frames := 8, cells := 1, slots := 6, locals := 40 * 8 } s m _ c dC dI cA (va_A ws s.heap.size) := ⟨hx, hb, hml, hown, hts, hK, hA, ⟨by decide, by decide⟩, ⟨Nat.zero_le _, Nat.zero_le _⟩, hE9⟩
    have hW := sgo_ok (md := []) (wl := []) (D0 := 6) (cuts := [17]) (zCtx0 (l := l)) tltab 300 1 6 0 tll [] tlw ys (Nat.le_refl _) ⟨ys, hys, fun _ h => h⟩ (RX9, yX9_layer, cX9_layer, 5, some .int, 0, 0) rfl p e { frames := 8, cells := 1, slots := 6, locals := 40 * 8 } s m _ below meth c (vx_MQ below (va_Qi (fun _ u => sH tf ad M cA u) (zend dC dI cA (va_A ws s.heap.size)) (va_A ws s.heap.size)) (vx_X (fun u => sH tf ad M cA u) (fun E u t => E = "java/util/NoSuchElementException" ∧ zend dC dI cA (va_A ws s.heap.size) u t) (va_A ws s.heap.size)) [Value.ref (ad 0 0), .int i1, .int i2, .int i3].toArray s 1 6 (va_A ws s.heap.size)) (va_A ws s.heap.size) ([], []) aK 3 ρ M ad 0 0 F (Nat.zero_le _) (Nat.zero_le _) ⟨rfl, fun q hq => by cases hq⟩ (fun q => by cases q) (fun _ => rfl) (fun X hX9 => ?_)
    · refine hW ρ M ad ws s.heap [] ls [(0, .ref (ad 0 0)), (1, .int i1), (2, .int i2), (3, .int i3)] [] ⟨⟨fun _ _ => rfl, Nat.le_refl _, ⟨fun q hq => ?_, fun q hq => by cases hq⟩⟩, ⟨hH, ⟨hI, hX⟩, ⟨fun q hq => (by cases hq), fun q hq => (by cases hq)⟩, ⟨fun _ _ _ _ => rfl, fun _ _ _ => rfl, fun _ hq => by cases hq⟩⟩, hP, hD, va_S.rf, hl, ⟨rfl, Or.inr (Or.inr (Or.inl ⟨rfl, 0, _, rfl, rfl, Nat.zero_lt_one, rfl⟩)), rfl, Or.inl ⟨rfl, i1, rfl, ?_⟩, rfl, Or.inl ⟨rfl, i2, rfl, ?_⟩, rfl, Or.inl ⟨rfl, i3, rfl, ?_⟩, trivial⟩, trivial⟩
      · simp only [tlw, List.mem_cons, List.not_mem_nil, or_false] at hq
        rcases hq with rfl | rfl | rfl
        · rw [r0]; exact hbd _
        · rw [r1]; exact hbd _
        · rw [r2]; exact hbd _
      · simp only [sev, svl]; omega
      · simp only [sev, svl]; omega
      · simp only [sev, svl]; omega
    · have hce := sall_ok hrun X hX9
      intro ρ' M' ad' ws' H' locs' ls' clv' cst' hr9
      obtain ⟨rfl, rfl⟩ := sfr0 hr9.2.1.2.2.2
      have hH' := hr9.2.1.1
      have hP1 := hr9.2.2.1
      have hD1 := hr9.2.2.2.1
      have hS1 := hr9.2.2.2.2.1
      obtain ⟨pcX, lvX, stX, wX⟩ := X
      unfold tle at hce
      simp only at hce hr9 ⊢
      cases h17 : Nat.beq pcX 17 with
      | true =>
        rw [h17, cond_true] at hce
        have e17 := Nat.beq_eq.mp h17
        subst e17
        match stX, hce, hr9 with
        | [], hce, hr9 =>
          simp only [Bool.and_eq_true] at hce
          cases svs_nil hr9.2.2.2.2.2.2.2
          have c1 := Nat.le_of_ble_eq_true hce.1
          have c2 := Nat.le_of_ble_eq_true hce.2
          have hY := hE9.2.2.2
          have hat : ∀ w ∈ zatS RX9 149, w.before [Value.ref (ad' 0 0), Value.int i1, Value.int i2, Value.int i3].toArray s = true :=
            vx_hat (fun w hw => hts w (List.mem_filter.mpr ⟨zw_vx w hw, (List.mem_filter.mp hw).2⟩)) zw_vxn (vx_c (va_Nw.use rfl hY.2.2.2.1) (vx_c (va_Nw.use rfl hY.2.2.2.2.1) (vx_c (va_Nw.use rfl hY.2.2.2.2.2.1) (vx_c (va_Nw.use rfl hY.2.2.2.2.2.2) vx_n))))
          refine zthrow (A := va_A ws s.heap.size) hx hb hst hown (hts _ (zw_nse _ (by simp [zXn]))) (hts _ (zw_nse _ (by simp [zXn]))) hY.2.2.1 hat zw_vxo hY.1 hY.2.1 hS1 (hr9.2.2.2.2.2.1.1.trans hml.symm) dXl17 dXl20 dXl21 dXl23 dXl26 (fun z hz => (htb z hz).elim) (by decide) (by decide) (show 0 + wX.2.2.2.1 + 1 ≤ 1 by omega) (show 0 + wX.2.2.2.2 + 6 ≤ 6 by omega) hlocks (fun t hvt hsz hkt => ?_) hS1.2.2 (by omega) (by omega)
          refine ⟨ws', hH', ⟨rfl, ?_, va_K.moved hvt hK, hD1⟩, ⟨Nat.le_trans hS1.1 hsz, fun q q1 q2 => (hkt q (Nat.lt_of_lt_of_le q1 hS1.1)).trans (hS1.2.1 q q1 q2)⟩⟩
          exact hP1.kept (fun k x hx => hkt x.1 ((hP1 k x hx).lt))
      | false =>
        rw [h17, cond_false] at hce
        simp only [Bool.and_eq_true, Bool.or_eq_true] at hce
        obtain ⟨g1, g2, g3, g4⟩ := hce
        have c1 := Nat.le_of_ble_eq_true g2
        have c2 := Nat.le_of_ble_eq_true g3
        match stX, g4, hr9 with
        | [v], g4, hr9 =>
          obtain ⟨cv, cr, rfl, h7, h8⟩ := svs_cons hr9.2.2.2.2.2.2.2
          cases svs_nil h8
          obtain ⟨x, rfl, -⟩ := sv_int g4 h7
          have hdec : decode cX9_layer pcX = .ok (.ireturn, 1) := by
            rcases g1 with g1 | g1
            · rw [Nat.beq_eq.mp g1]; exact dXl46
            · rw [Nat.beq_eq.mp g1]; exact dXl69
          refine vx_ret ?_
          refine W.widen (k := 1) (n := 6) (by omega) (by omega) ?_
          exact W.iret hx hb hr (fun t ht hW => ⟨⟨x, ws', rfl, hH', by rw [ht]; exact hP1, va_K.moved hW.alike hK, hD1⟩, hS1.F ht⟩) hS1.2.2 hdec
set_option maxHeartbeats 4000000 in
theorem zc_llay (hst : l.stackTraces = false) (M : SMem) (ad : SAd) (ws : va_W) (sz : Nat) (i1 i2 i3 : Int32) (hH : sH tf ad M cA ws) (hI : sI tg M) (hX : sX M) :
    Met l yL_layer (.codeWith yL_layer cL_layer 6 (some .int) [(0, 12, 15, 13)] :: zT) { frames := 9, cells := 1, slots := 6, locals := 40 * 9 } (va_Pc [.ref (ad 0 0), .int i1, .int i2, .int i3, .ref (ad 2 0)] (sB (zEX aK aV sa tx) dC dI cA ws sz)) (va_Qi (fun x u => (0 ≤ x.toInt ∧ x.toInt ≤ 1) ∧ ∃ M' : SMem, sH tf ad M' cA u ∧ sI tg M' ∧ ∀ f j i, f ≠ 2 → M' f j i = M f j i) (zend dC dI cA (va_A ws sz)) (va_A ws sz)) 1 6 (va_A ws sz) := by
  refine zofWH (cc := cL_layer) (maxL := 6) (ret := some .int) (hh := [(0, 12, 15, 13)]) (by decide) rfl ?_
  intro p e s m args below meth c s₁ B hml hv
  obtain ⟨rfl, hsz, hP, hK, hD0, hE9⟩ := hv
  have hx := B.exec
  have hb := B.bytes
  have hr := B.returns
  have hts0 := atoms_spec (ws := .codeWith yL_layer cL_layer 6 (some .int) [(0, 12, 15, 13)] :: zT) B.pre
  have hts : ∀ w ∈ zT, w.before _ s = true := fun w hw => hts0 w (List.mem_cons_of_mem _ hw)
  have htb := vx_table (x := yL_layer) B (hts0 _ List.mem_cons_self)
  have hown : s.vm.findClass RL = some m.cls := findClass_of_methodNamed B.named
  have hlocks := B.notSynchronized
  subst hsz
  have hD := hD0.self (sz := s.heap.size)
  have hA : ∀ q, s.heap.size ≤ q → va_A ws s.heap.size q := fun q h => Or.inr h
  have hS : va_S (va_A ws s.heap.size) s.heap s.heap [] := va_S.rf
  have hl := lv_entry ([.ref (ad 0 0), .int i1, .int i2, .int i3, .ref (ad 2 0)]) (n := 6) (Nat.le_of_ble_eq_true rfl)
  rw [lg_entry_eq]
  generalize (lg_sl ([.ref (ad 0 0), .int i1, .int i2, .int i3, .ref (ad 2 0)]) ++ List.replicate (6 - (lg_sl ([.ref (ad 0 0), .int i1, .int i2, .int i3, .ref (ad 2 0)])).length) Slot.unset).toArray = ls at hl ⊢
  have hl : lv_has ls 6 [(0, .ref (ad 0 0)), (1, .int i1), (2, .int i2), (3, .int i3), (4, .ref (ad 2 0))] := hl
  refine lv_aload hx hb dLl0 (lv_at hl 4 rfl) ?_
  refine lv_iconst (v := 0) hx hb dLl2 (by decide) ?_
  refine lv_aload_n hx hb dLl3 rfl (lv_at hl 0 rfl) ?_
  refine lv_iload_n hx hb dLl4 rfl (lv_at hl 1 rfl) ?_
  refine lv_iload_n hx hb dLl5 rfl (lv_at hl 2 rfl) ?_
  refine lv_iload_n hx hb dLl6 rfl (lv_at hl 3 rfl) ?_
  have hM := zc_layer (aK := aK) (aV := aV) (sa := sa) (tx := tx) (dC := dC) (dI := dI) hst M ad ws s.heap.size i1 i2 i3 hH hI hX
  obtain ⟨w0, k0, z0⟩ := hH 0 _ rfl 0 Nat.zero_lt_one
  obtain ⟨gx, rfl, -, -⟩ := z0
  have w1 := zw_layer (.methodLink RL 7 yX9_layer) (by simp [zcw])
  have w2 := zw_layer (.instanceMethod yX9_layer) (by simp [zcw])
  have w3 := zw_layer (.initialized yX9_layer.cls) (by simp [zcw])
  have w4 := zw_layer (.code yX9_layer cX9_layer 5 (some .int)) (by simp [zcw])
  have w5 := zw_layer (.selects yX9_layer.cls yX9_layer yX9_layer) (by simp [zcw])
  have hroom := lv_room (m := m) (pc := 7) (ls := ls) (rest := [Value.int i3, .int i2, .int i1, .ref (ad 0 0), .int 0, .ref (ad 2 0)]) (st := [Value.int 0, .ref (ad 2 0)]) (Nat.le_of_ble_eq_true rfl)
  have hF := zfree hD hS hA
  have hEX := zEX_ok aK aV sa tx
  have hR9 := vx_runV (p := p) (e := e) (below := below) (meth := meth) (locs := []) (cells := 0) (slots := 0) (Ts := zT) (own := RL) (C := RX9) (R := { frames := 9, cells := 1, slots := 6, locals := 40 * 9 }) (As := [.int i1, .int i2, .int i3]) (b := ad 0 0) (rest := [.int 0, .ref (ad 2 0)]) (g := F0 m 7 ls [.int i3, .int i2, .int i1, .ref (ad 0 0), .int 0, .ref (ad 2 0)]) ⟨hx, hb, hml, hown, hts⟩ hM ⟨callB_of 3 hts (zT_good1 w4) rfl rfl rfl (hts _ w3) (hts _ w1) (by decide +kernel) (by decide), hts _ w2, hts _ w5⟩ ⟨sB_blind hEX, va_recv hK hP (ci := 8) (q0 := 0) rfl k0, fun U hU hW => ⟨rfl, by rw [hU], by rw [hU]; exact hP, va_K.moved hW.alike hK, hD.weaken (fun _ _ _ _ => trivial), by rw [hU]; exact hEX.2.2.1 _ s U _ hW hE9⟩⟩ rfl rfl hl.1 rfl hroom dLl7 (by decide)
  refine vx_calli hR9 hS (fun q _ h => hF q h) hF (fun q _ h => hF q h) (fun E ce q9 u t9 H1 locs1 ht hvm hpx hBX hz1 hk1 hS1 hce hcv hcl => ?_) (fun x u t9 H1 locs1 ht hvm hw hB hz1 hk1 hS1 => ?_)
  · obtain ⟨rfl, hP1, hK1, hD1⟩ := hBX
    rw [ht] at hP1
    refine vx_catch1 (own := RL) (name := "java/util/NoSuchElementException") hown ⟨0, 12, 15, 13⟩ [] (by rw [htb]; rfl) (by decide) (by decide) (hts _ (zw_nse _ (by simp))) (va_Nw.use rfl hE9.2.2.2.2.2.2.1) hce hcv hcl ?_
    refine lv_astore (lv' := [(5, .ref q9), (0, .ref (ad 0 0)), (1, .int i1), (2, .int i2), (3, .int i3), (4, .ref (ad 2 0))]) hx hb dLl15 hl (by decide) rfl (fun ls hl => ?_)
    refine lv_iconst (v := 1) hx hb dLl17 (by decide) ?_
    exact W.iret hx hb hr (fun t ht hW => ⟨⟨1, u, rfl, ⟨⟨by decide, by decide⟩, M, hpx, hI, fun _ _ _ _ => rfl⟩, by rw [ht]; exact hP1, va_K.moved hW.alike hK, hD1⟩, hS1.F ht⟩) hS1.2.2 dLl18
  · obtain ⟨hP1, hK1, hD1⟩ := hB
    rw [ht] at hP1
    have hrun := tls_ok
    unfold tls at hrun
    cases hys : sgo tlm tlc tf tg [] [(2, 0)] [] 0 6 [] 300 5 6 10 [] [(0, 0, (0, [(0, 1)])), (0, 0, (0, [])), (2, 2, (0, []))] tlv with
    | none => rw [hys] at hrun; cases hrun
    | some ys =>
      rw [hys] at hrun
      have F : sF 6 (RL, yL_layer, cL_layer, 6, some .int, 0, 0) (zEX aK aV sa tx) p { frames := 9, cells := 1, slots := 6, locals := 40 * 9 } s m _ c dC dI cA (va_A ws s.heap.size) := ⟨hx, hb, hml, hown, hts, hK, hA, ⟨by decide, by decide⟩, ⟨Nat.zero_le _, Nat.zero_le _⟩, hE9⟩
      have hW := sgo_ok (md := [(2, 0)]) (wl := []) (D0 := 6) (cuts := []) (zCtx0 (l := l)) tltab 300 5 6 10 [] [(0, 0, (0, [(0, 1)])), (0, 0, (0, [])), (2, 2, (0, []))] tlv ys (Nat.le_refl _) ⟨ys, hys, fun _ h => h⟩ (RL, yL_layer, cL_layer, 6, some .int, 0, 0) rfl p e { frames := 9, cells := 1, slots := 6, locals := 40 * 9 } s m _ below meth c (MQ below (va_Qi (fun x u => (0 ≤ x.toInt ∧ x.toInt ≤ 1) ∧ ∃ M' : SMem, sH tf ad M' cA u ∧ sI tg M' ∧ ∀ f j i, f ≠ 2 → M' f j i = M f j i) (zend dC dI cA (va_A ws s.heap.size)) (va_A ws s.heap.size)) [Value.ref (ad 0 0), .int i1, .int i2, .int i3, .ref (ad 2 0)].toArray s 1 6 (va_A ws s.heap.size)) (va_A ws s.heap.size) ([(2, 0)], []) aK 1 (fun _ => x.toInt) M ad (0 + 1) (0 + 6) F (Nat.le_refl _) (Nat.le_refl _) ⟨rfl, fun q hq => by cases hq⟩ (fun q => by cases q) (fun _ => rfl) (fun X hX9 => ?_)
      · refine hW (fun _ => x.toInt) M ad u H1 locs1 ls [] [.int x, .int 0, .ref (ad 2 0)] ⟨⟨fun _ _ => rfl, Nat.le_refl _, ⟨fun q hq => ?_, fun q hq => by cases hq⟩⟩, ⟨hw, ⟨hI, hX⟩, ⟨fun q hq => (by cases hq), fun q hq => (by cases hq)⟩, ⟨fun _ _ _ _ => rfl, fun _ _ _ => rfl, fun _ hq => by cases hq⟩⟩, hP1, hD1, hS1, ⟨hl.1, hl.2.1, fun q hq => by cases hq⟩, trivial, Or.inl ⟨rfl, x, rfl, by simp only [sev, svl]; omega⟩, Or.inl ⟨rfl, 0, rfl, rfl⟩, Or.inr (Or.inr (Or.inl ⟨rfl, 0, _, rfl, rfl, Nat.zero_lt_one, rfl⟩)), trivial⟩
        simp only [tlv, List.mem_cons, List.not_mem_nil, or_false] at hq
        subst hq
        exact (⟨Int32.le_toInt x, by have := Int32.toInt_lt x; omega⟩ : -2147483648 ≤ x.toInt ∧ x.toInt ≤ 2147483647)
      · have hce := sall_ok hrun X hX9
        intro ρ' M' ad' ws' H' locs' ls' clv' cst' hr9
        have hfr := hr9.2.1.2.2.2
        have ead : ad' = ad := by
          funext f j
          exact hfr.2.1 f j (fun z => by simp at z)
        subst ead
        have hH' := hr9.2.1.1
        have hI' := hr9.2.1.2.1.1
        have hP2 := hr9.2.2.1
        have hD2 := hr9.2.2.2.1
        have hS2 := hr9.2.2.2.2.1
        obtain ⟨pcX, lvX, stX, wX⟩ := X
        unfold tlf at hce
        simp only [Bool.and_eq_true] at hce hr9 ⊢
        obtain ⟨g1, g2, g3, g4⟩ := hce
        have c1 := Nat.le_of_ble_eq_true g2
        have c2 := Nat.le_of_ble_eq_true g3
        have e20 := Nat.beq_eq.mp g1
        subst e20
        match stX, g4, hr9 with
        | [v], g4, hr9 =>
          simp only [Bool.and_eq_true] at g4
          obtain ⟨cv, cr, rfl, h7, h8⟩ := svs_cons hr9.2.2.2.2.2.2.2
          cases svs_nil h8
          obtain ⟨x', rfl, ex⟩ := sv_int g4.1 h7
          rw [sbeq_ok g4.2] at ex
          have e0 : x'.toInt = 0 := ex
          refine W.widen (k := 1) (n := 6) (by omega) (by omega) ?_
          exact W.iret hx hb hr (fun t ht hW => ⟨⟨x', ws', rfl, ⟨⟨by omega, by omega⟩, M', hH', hI', fun f j i hf => hfr.1 f j i (fun z => by simp at z; exact hf z.1)⟩, by rw [ht]; exact hP2, va_K.moved hW.alike hK, hD2⟩, hS2.F ht⟩) hS2.2.2 dLl20
set_option maxHeartbeats 4000000 in
theorem tLAY (hst : l.stackTraces = false) : sLAY tf tg (zEX aK aV sa tx) l dC dI cA := by
  intro p e R s m args below meth c Q A H locs ls rest nc ns pc idx own cc M ad ws i1 i2 i3 hx hb hml hown hts hK hA hE9 h8 hRf hRl hRc hRs hlk hdg hP hD hS hH hI hX kk
  have hM := zc_llay (aK := aK) (aV := aV) (sa := sa) (tx := tx) (dC := dC) (dI := dI) (l := l) hst M ad ws H.size i1 i2 i3 hH hI hX
  have hF := zfree hD hS hA
  have hEX := zEX_ok aK aV sa tx
  have hE2 := sEX_now hEX hE9 hS
  have hroom := lv_room (m := m) (pc := pc) (ls := ls) (rest := .ref (ad 2 0) :: .int i3 :: .int i2 :: .int i1 :: .ref (ad 0 0) :: rest) (st := rest) h8
  have hG : GoodIn zT (va_wsS own idx yL_layer (.codeWith yL_layer cL_layer 6 (some .int) [(0, 12, 15, 13)] :: zT)) := by
    intro w hw
    unfold va_wsS at hw
    rcases List.mem_append.mp hw with h | h
    · simp only [List.mem_cons, List.not_mem_nil, or_false] at h
      rcases h with rfl | rfl | rfl
      · exact zT_good _ hlk
      · exact zT_good _ (zw_nse _ (by simp))
      · exact zT_good _ (zw_nse _ (by simp [yL_layer]))
    · exact zT_good1 (zw_nse _ (by simp)) w h
  have hR9 := vx_runSW (p := p) (e := e) (below := below) (meth := meth) (locs := locs) (cells := nc) (slots := ns) (Ts := zT) (own := own) (R := R) (hh := [(0, 12, 15, 13)]) (As := [.ref (ad 0 0), .int i1, .int i2, .int i3, .ref (ad 2 0)]) (rest := rest) (g := F0 m pc ls (.ref (ad 2 0) :: .int i3 :: .int i2 :: .int i1 :: .ref (ad 0 0) :: rest)) ⟨hx, hb, hml, hown, hts⟩ hM (vx_cwSW 5 hts hG rfl rfl rfl (by decide +kernel) ⟨show 9 + 1 ≤ R.frames by omega, show 8 + (6 + 11) + 40 * 9 ≤ R.locals by omega⟩) ⟨sB_blind hEX, fun U hU hW => ⟨rfl, by rw [hU], by rw [hU]; exact hP, va_K.moved hW.alike hK, hD.weaken (fun _ _ _ _ => trivial), by rw [hU]; exact hEX.2.2.1 _ s U H hW (hEX.2.1 _ _ _ _ hE2 hF)⟩⟩ rfl rfl rfl rfl hroom hdg ⟨hRc, hRs⟩
  refine va_calli hR9 hS (fun q _ h => hF q h) hF (fun x u t9 H1 locs1 ht hvm hw hB hz1 hk1 hS1 => ?_)
  obtain ⟨⟨x0, x1⟩, M', m1, m2, m3⟩ := hw
  obtain ⟨hP1, hK1, hD1⟩ := hB
  rw [ht] at hP1
  exact kk x M' u H1 locs1 x0 x1 m1 m2 m3 hP1 (hD1.weaken (fun _ q _ z => hF q.1 z)) hS1
end SLY
