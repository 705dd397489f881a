/-! the run is the machine's -/
theorem cutm_ok {fm : List SF} {scr nL : Nat} {ad : SAd} {v : List Int} {lv : SL} {clv : ZL} {ls : Array Slot} (hs : sls fm scr (cen v) ad lv clv) (hl : lv_has ls nL clv) : ∀ {T : SL} {k : Nat} {es : List SV}, cutm lv T k = some es → ∀ pre : List Int, pre.length = k → ∃ clvT, sls fm scr (cen (pre ++ es.map (cE2 v))) ad T clvT ∧ lv_has ls nL clvT := by
  intro T
  induction T with
  | nil => intro k es h pre hp; exact ⟨[], trivial, hl.1, hl.2.1, fun q hq => by cases hq⟩
  | cons q r ih =>
    intro k es h pre hp
    unfold cutm at h
    cases hk : slk lv q.1 with
    | none => rw [hk] at h; cases h
    | some x =>
      rw [hk] at h
      simp only at h
      obtain ⟨k9, c, h5, h6⟩ := sls_get hs hk
      cases hc : (Nat.beq x.1 q.2.1 && Nat.beq x.2.1 q.2.2.1) with
      | false => rw [hc] at h; cases h
      | true =>
        rw [hc, cond_true] at h
        rw [Bool.and_eq_true] at hc
        have e1 := Nat.beq_eq.mp hc.1
        have e2 := Nat.beq_eq.mp hc.2
        have fin : ∀ {es' : List SV} {pre' : List Int}, (∃ clvT, sls fm scr (cen (pre' ++ es'.map (cE2 v))) ad r clvT ∧ lv_has ls nL clvT) → sev (cen (pre' ++ es'.map (cE2 v))) q.2.2.2 = sev (cen v) x.2.2 → ∃ clvT, sls fm scr (cen (pre' ++ es'.map (cE2 v))) ad (q :: r) clvT ∧ lv_has ls nL clvT := by
          rintro es' pre' ⟨clvT, h3, h4⟩ he
          refine ⟨(q.1, c) :: clvT, ⟨rfl, ?_, h3⟩, h4.1, h4.2.1, fun z hz => ?_⟩
          · unfold sv at h6 ⊢
            rw [he, ← e1, ← e2]
            exact h6
          · rcases List.mem_cons.mp hz with rfl | hz
            · exact lv_at hl k9 h5
            · exact h4.2.2 z hz
        cases hi : sisc q.2.2.2 with
        | true =>
          rw [hi, cond_true] at h
          cases hb : sbeq x.2.2 q.2.2.2 with
          | false => rw [hb] at h; cases h
          | true =>
            rw [hb, cond_true] at h
            refine fin (ih h pre hp) ?_
            rw [sbeq_ok hb, sisc_ok hi, sisc_ok hi]
        | false =>
          rw [hi, cond_false] at h
          cases hb : sbeq q.2.2.2 (sy k) with
          | false => rw [hb] at h; cases h
          | true =>
            rw [hb, cond_true] at h
            cases hr : cutm lv r (k + 1) with
            | none => rw [hr] at h; cases h
            | some es' =>
              rw [hr] at h
              cases h
              have h7 := ih hr (pre ++ [cE2 v x]) (by simp [hp])
              have e9 : pre ++ [cE2 v x] ++ es'.map (cE2 v) = pre ++ (x :: es').map (cE2 v) := by simp
              refine e9 ▸ fin h7 ?_
              rw [sbeq_ok hb, sev_y, e9, List.map_cons, cen_new hp]
              rfl
section CSN
variable {p : Program} {l : Launch} {e : Env} {R : Room} {s : State} {m : MethodId} {args : Array Value} {below : List Frame} {meth : Method} {c : Code} {Q : State → Prop} {dC : Nat → ClassId} {dI : Nat → Nat → Nat} {cA : Nat → ClassId} {A : Nat → Prop} {nL : Nat} {fm : List SF} {scr : Nat} {ad : SAd} {nc ns : Nat} {E : Nat → List CA → SMem → (List Int → SMem → Prop) → Prop} {Qr : List Int → SMem → Prop} {C : Nat → List Int → SMem → Prop} {Sx : SMem → Prop} {cc : ByteArray} {own : String} {n pc : Nat} {lv : SL} {st : List SV} {L : List CN} {ret : CRt}
variable {EX : SEx} {zm : List ZMe} {zc : List (List ZI)} {d scrS : Nat} {me : ZMe}
theorem cG_call (hEX : sEXok EX) (F : sF (d + 1) me EX p R s m args c dC dI cA A) (hnL : nL = me.2.2.2.1) {kd kc idx na k9 ci : Nat} {is : List Nat} {ins : Instr} (hcal : zcal zm me.1 idx kd kc k9 ci is = true) (hna : cond (Nat.ble kd 1) k9 (k9 + 1) = na) (hins : (kd = 0 ∨ kd = 1) ∧ ins = .invokestatic idx ∨ kd = 2 ∧ ins = .invokevirtual idx) (hdg : decode me.2.2.1 pc = .ok (ins, 3)) (hnc : nc ≤ R.cells) (hns : ns ≤ R.slots) (hE : ∀ kc as M post, E kc as M post → cBG zm fm EX l dC dI cA ad scrS d kc as M post) (hSxE : ∀ kc as M post, E kc as M post → Sx M → ∀ rr M', post rr M' → Sx M') (h : cx_call zm fm kd kc na ci n pc lv st ret = some L) (Hk : ∀ (n pc : Nat) (lv : SL) (st : List SV) (L : List CN), ret n pc lv st = some L → cG p l e R s m args below meth c Q dC dI cA A nL fm scr ad nc ns E Qr C Sx n pc lv st L) : cG p l e R s m args below meth c Q dC dI cA A nL fm scr ad nc ns E Qr C Sx n pc lv st L := by
  unfold cx_call at h
  rw [zget_eq] at h
  cases hmc : zm[kc]? with
  | none => rw [hmc] at h; cases h
  | some me2 =>
    rw [hmc] at h
    simp only [sll_eq] at h
    obtain ⟨hck, h⟩ := ccond h
    simp only [Bool.and_eq_true] at hck
    obtain ⟨k1, k2, k3, k4, k5, k6, k7⟩ := hck
    intro fd v M ws H locs ls clv cst hv hX hH hP hD hS hl q6 q7 hd
    obtain ⟨t1, t2⟩ := svs_take na q7
    have hsa : svs fm scr (cen v) ad (st.take na).reverse (cst.take na).reverse := svs_rev t1
    have hcal2 := hcal
    unfold zcal at hcal2
    rw [hmc] at hcal2
    simp only [Bool.and_eq_true] at hcal2
    have hcs : cst = ((cst.take na).reverse).reverse ++ cst.drop na := by
      rw [List.reverse_reverse, List.take_append_drop]
    have h8 : ((cst.drop na).map fun v => v.category).sum ≤ 8 := by
      rw [svs_sum t2]
      exact Nat.le_of_ble_eq_true k2
    have hlen : (lg_sl (cst.take na).reverse).length ≤ me2.2.2.2.1 := by
      rw [slens hsa]
      exact Nat.le_of_ble_eq_true k3
    have hn9 : ((cst.take na).reverse).length = if kd ≤ 1 then k9 else k9 + 1 := by
      rw [svs_len hsa, Nat.beq_eq.mp k1, ← hna]
      by_cases hkk : kd ≤ 1
      · rw [if_pos hkk, Nat.ble_eq_true_of_le hkk]
        rfl
      · rw [if_neg hkk]
        cases hb9 : Nat.ble kd 1 with
        | true => exact absurd (Nat.le_of_ble_eq_true hb9) hkk
        | false => rfl
    have hrc := srecv (y := me2.2.1) F.2.2.2.2.2.1 hP hH hsa k6 hcal2.2.2.2.2.2.1
    have hl5 := hl
    rw [hnL] at hl5
    have b1 : me2.2.2.2.2.2.1 = 0 := Nat.beq_eq.mp k4
    have b2 : me2.2.2.2.2.2.2 = 0 := Nat.beq_eq.mp k5
    have hsS := svs_conc (ρ' := fun _ => 0) (svs_scr (scr' := scrS) k7 hsa)
    -- the node
    have hnode : ∃ (fd' : Nat) (post : List Int → SMem → Prop) (L' : List CN), fd = fd' + 1 ∧ E kc (cAs v (st.take na).reverse) M post ∧ ((me2.2.2.2.2.1 = none ∧ ret n (pc + 3) lv (st.drop na) = some L' ∧ ∀ rr M', post rr M' → rr.length = 0 ∧ cden E Qr C fd' L' (v ++ rr) M') ∨ (∃ ty, me2.2.2.2.2.1 = some ty) ∧ L = (8, kc, 1, (st.take na).reverse) :: L' ∧ ∀ rr M', post rr M' → rr.length = 1 ∧ cden E Qr C fd' L' (v ++ rr) M') := by
      cases hrt : me2.2.2.2.2.1 with
      | none =>
        rw [hrt] at h
        obtain ⟨L', h1, rfl⟩ := ccons_ok h
        obtain ⟨fd', rfl, post, x1, x2⟩ := cden_s hd
        exact ⟨fd', post, L', rfl, x1, Or.inl ⟨rfl, h1, x2⟩⟩
      | some ty =>
        rw [hrt] at h
        obtain ⟨L', eL⟩ := cbind_ok h
        have hd2 := hd
        rw [eL] at hd2
        obtain ⟨fd', rfl, post, x1, x2⟩ := cden_s hd2
        exact ⟨fd', post, L', rfl, x1, Or.inr ⟨⟨ty, rfl⟩, eL, x2⟩⟩
    obtain ⟨fd', post, L', rfl, x1, x4⟩ := hnode
    have hX' := hSxE _ _ _ _ x1 hX
    have hRun := hE _ _ _ _ x1 me2 hmc ws _ hH hsS
    refine scall hEX F hmc hcal hRun hP hD hS hl5 hcs h8 hlen hn9 hrc ⟨by omega, by omega⟩ hins hdg (fun r ws' H1 locs1 hPO p1 p2 p3 => ?_)
    obtain ⟨rr, M', ⟨xs, rfl, ex⟩, hH', hpo⟩ := hPO
    have hX' := hX' rr M' hpo
    rw [b1, b2]
    rcases x4 with ⟨hrt, h1, x3⟩ | ⟨⟨ty, hrt⟩, eL, x3⟩
    · obtain ⟨hl0, x3⟩ := x3 rr M' hpo
      have e0 : rr = [] := List.eq_nil_of_length_eq_zero hl0
      subst e0
      have e1 : xs = [] := List.map_eq_nil_iff.mp ex
      subst e1
      rw [List.append_nil] at x3
      exact Hk _ _ _ _ _ h1 fd' v M' ws' H1 locs1 ls clv (cst.drop na) hv hX' hH' p1 p2 p3 hl q6 t2 x3
    · obtain ⟨hl1, x3⟩ := x3 rr M' hpo
      rw [hrt] at h
      match rr, hl1, ex, x3 with
      | [z], _, ex, x3 =>
        match xs, ex with
        | [y], ex =>
          have ey : y.toInt = z := by simpa using ex
          exact cG_bind (fd := fd') (z := z) h Hk hv hX' hH' p1 p2 p3 hl q6 t2 (Or.inl ⟨rfl, y, rfl, ey⟩) (fun L2 e9 => by
            cases eL.symm.trans e9
            exact x3)
theorem cG_max (hx : p.tables.exec = Jvm.exec) (hb : c.code = cc) (hml : c.maxLocals = nL) (hown : s.vm.findClass own = some m.cls) (hts : ∀ w ∈ zT, w.before args s = true) {idx : Nat} (hRc : nc ≤ R.cells) (hRs : ns ≤ R.slots) (hRf : 1 ≤ R.frames) (hRl : 40 ≤ R.locals) (h1 : Cond.methodLink own idx Lib.Math.max.name ∈ zT) (h2 : Cond.static Lib.Math.max.name ∈ zT) (h3 : Cond.initialized "java/lang/Math" ∈ zT) (h4 : Cond.code Lib.Math.max.name Lib.Math.max.code 2 (some .int) ∈ zT) (hdg : decode cc pc = .ok (.invokestatic idx, 3)) (h : cx_mm 11 n pc lv st ret = some L) (Hk : ∀ (n pc : Nat) (lv : SL) (st : List SV) (L : List CN), ret n pc lv st = some L → cG p l e R s m args below meth c Q dC dI cA A nL fm scr ad nc ns E Qr C Sx n pc lv st L) : cG p l e R s m args below meth c Q dC dI cA A nL fm scr ad nc ns E Qr C Sx n pc lv st L := by
  match st, h with
  | [], h => cases h
  | [_], h => cases h
  | y :: x :: st', h =>
    obtain ⟨h0, h⟩ := ccond h
    simp only [Bool.and_eq_true] at h0
    intro fd v M ws H locs ls clv cst hv hX hH hP hD hS hl q6 q7 hd
    obtain ⟨cy, cr, rfl, h5, h6⟩ := svs_cons q7
    obtain ⟨cx, cr, rfl, h7, h8⟩ := svs_cons h6
    obtain ⟨a, rfl, e1⟩ := sv_int h0.1 h7
    obtain ⟨b, rfl, e2⟩ := sv_int h0.2.1 h5
    have hs8 : (cr.map fun v => v.category).sum ≤ 8 := by
      rw [svs_sum h8]
      exact Nat.le_of_ble_eq_true h0.2.2
    have hn : ∃ n', fd = n' + 1 := by
      cases fd with
      | zero => exact hd.elim
      | succ k => exact ⟨k, rfl⟩
    obtain ⟨n', rfl⟩ := hn
    refine va_mmax hx hb (hml.trans hl.1.symm) hown (hts _ h1) (hts _ h2) (hts _ h3) (hts _ h4) hRf (by omega) hRc hRs hdg ?_
    refine cG_bind (fd := n') (z := cfn 11 (cE2 v x) (cE2 v y)) h Hk hv hX hH hP hD hS hl q6 h8 (Or.inl ⟨rfl, _, rfl, ?_⟩) (fun L' e9 => by rw [e9] at hd; exact hd)
    show _ = if cE2 v x < cE2 v y then cE2 v y else cE2 v x
    rw [show cE2 v x = a.toInt from e1.symm, show cE2 v y = b.toInt from e2.symm]
    by_cases c1 : a < b
    · rw [if_pos c1, if_pos (Int32.lt_iff_toInt_lt.mp c1)]
    · rw [if_neg c1, if_neg (fun q => c1 (Int32.lt_iff_toInt_lt.mpr q))]
theorem cG_min (hx : p.tables.exec = Jvm.exec) (hb : c.code = cc) (hml : c.maxLocals = nL) (hown : s.vm.findClass own = some m.cls) (hts : ∀ w ∈ zT, w.before args s = true) {idx : Nat} (hRc : nc ≤ R.cells) (hRs : ns ≤ R.slots) (hRf : 1 ≤ R.frames) (hRl : 40 ≤ R.locals) (h1 : Cond.methodLink own idx Lib.Math.min.name ∈ zT) (h2 : Cond.static Lib.Math.min.name ∈ zT) (h3 : Cond.initialized "java/lang/Math" ∈ zT) (h4 : Cond.code Lib.Math.min.name Lib.Math.min.code 2 (some .int) ∈ zT) (hdg : decode cc pc = .ok (.invokestatic idx, 3)) (h : cx_mm 12 n pc lv st ret = some L) (Hk : ∀ (n pc : Nat) (lv : SL) (st : List SV) (L : List CN), ret n pc lv st = some L → cG p l e R s m args below meth c Q dC dI cA A nL fm scr ad nc ns E Qr C Sx n pc lv st L) : cG p l e R s m args below meth c Q dC dI cA A nL fm scr ad nc ns E Qr C Sx n pc lv st L := by
  match st, h with
  | [], h => cases h
  | [_], h => cases h
  | y :: x :: st', h =>
    obtain ⟨h0, h⟩ := ccond h
    simp only [Bool.and_eq_true] at h0
    intro fd v M ws H locs ls clv cst hv hX hH hP hD hS hl q6 q7 hd
    obtain ⟨cy, cr, rfl, h5, h6⟩ := svs_cons q7
    obtain ⟨cx, cr, rfl, h7, h8⟩ := svs_cons h6
    obtain ⟨a, rfl, e1⟩ := sv_int h0.1 h7
    obtain ⟨b, rfl, e2⟩ := sv_int h0.2.1 h5
    have hs8 : (cr.map fun v => v.category).sum ≤ 8 := by
      rw [svs_sum h8]
      exact Nat.le_of_ble_eq_true h0.2.2
    have hn : ∃ n', fd = n' + 1 := by
      cases fd with
      | zero => exact hd.elim
      | succ k => exact ⟨k, rfl⟩
    obtain ⟨n', rfl⟩ := hn
    refine va_mmin hx hb (hml.trans hl.1.symm) hown (hts _ h1) (hts _ h2) (hts _ h3) (hts _ h4) hRf (by omega) hRc hRs hdg ?_
    refine cG_bind (fd := n') (z := cfn 12 (cE2 v x) (cE2 v y)) h Hk hv hX hH hP hD hS hl q6 h8 (Or.inl ⟨rfl, _, rfl, ?_⟩) (fun L' e9 => by rw [e9] at hd; exact hd)
    show _ = if cE2 v y < cE2 v x then cE2 v y else cE2 v x
    rw [show cE2 v x = a.toInt from e1.symm, show cE2 v y = b.toInt from e2.symm]
    by_cases c1 : b < a
    · rw [if_pos c1, if_pos (Int32.lt_iff_toInt_lt.mp c1)]
    · rw [if_neg c1, if_neg (fun q => c1 (Int32.lt_iff_toInt_lt.mpr q))]
end CSN
