/-! Math.max and min, rows copied, signs of the words -/
def sx_mm (mx : Bool) (pc : Nat) (lv : SL) (st : List SV) (w : SW) (ret : SRt) : SX := match st with
  | y :: x :: st' => cond (Nat.beq x.1 0 && (Nat.beq y.1 0 && Nat.ble ((st'.map scat).sum) 8)) (sfe (ssub x.2.2 y.2.2) (fun d => sapp (sge w.2.2.1 d (fun K => ret (pc + 3) lv (cond mx x y :: st') (swK w K))) (sge w.2.2.1 (saddc (sneg d) (-1)) (fun K => ret (pc + 3) lv (cond mx y x :: st') (swK w K))))) none
  | _ => none
def yChr : MethodName := ⟨"java/lang/String", "charAt", "(I)C"⟩
/-- what is wanted of String.charAt over the words -/
def sCHR (EX : SEx) (l : Launch) (dC : Nat → ClassId) (dI : Nat → Nat → Nat) (cA : Nat → ClassId) (scr : Nat) : Prop := ∀ (p : Program) (e : Env) (R : Room) (s : State) (m : MethodId) (args : Array Value) (below : List Frame) (meth : Method) (c : Code) (Q : State → Prop) (A : Nat → Prop) (H : Heap) (locs : List Loc) (ls : Array Slot) (rest : List Value) (nc ns pc idx : Nat) (own : String) (cc : ByteArray) (i : Int32) (ws : va_W), p.tables.exec = Jvm.exec → c.code = cc → c.maxLocals = ls.size → s.vm.findClass own = some m.cls → (∀ w ∈ zT, w.before args s = true) → va_K (dC, dI) vwCl (ztys cA) s → (∀ q, s.heap.size ≤ q → A q) → va_S A s.heap H locs → EX A s s.heap → va_P (dC, dI) vwCl ws H → va_D A ws → (rest.map fun v => v.category).sum ≤ 8 → 4 ≤ R.frames → 160 ≤ R.locals → nc ≤ R.cells → ns ≤ R.slots → Cond.methodLink own idx yChr ∈ zT → decode cc pc = .ok (.invokevirtual idx, 3) → 0 ≤ i.toInt → i.toInt < 120 →
  (∀ (x : Int32) (H1 : Heap) (locs1 : List Loc), 0 ≤ x.toInt → x.toInt ≤ 65535 → va_P (dC, dI) vwCl ws H1 → va_D A ws → va_S A s.heap H1 locs1 → W p l e R s m args below meth c H1 locs1 nc ns Q (F0 m (pc + 3) ls (.int x :: rest))) → W p l e R s m args below meth c H locs nc ns Q (F0 m pc ls (.int i :: .ref scr :: rest))
def sx_chr (pc : Nat) (lv : SL) (st : List SV) (w : SW) (ret : SRt) : SX := match st with
  | i :: v :: st' => cond (Nat.beq i.1 0 && (Nat.beq v.1 3 && (Nat.ble ((st'.map scat).sum) 8 && sin w.2.2.1 i.2.2 0 119))) (snew lv st w 0 65535 (fun e w => ret (pc + 3) lv ((0, 0, e) :: st') w)) none
  | _ => none
def sMcp (M : SMem) (f0 j0 f1 j1 N : Nat) : SMem := fun f j i => if f = f1 ∧ j = j1 ∧ i < N then M f0 j0 i else M f j i
def srgle (rg : SRg) (f0 f1 : Nat) : Bool := match srg rg f0 0, srg rg f1 0 with
  | some a, some b => decide (b.1 ≤ a.1) && decide (a.2 ≤ b.2)
  | _, _ => false
noncomputable def sx_cpy (fm : List SF) (rg : SRg) (md : List (Nat × Nat)) (wl : List (Nat × SE)) (pc : Nat) (lv : SL) (st : List SV) (w : SW) (ret : SRt) : SX := match st with
  | n :: dp :: v1 :: sp :: v0 :: st' => cond (Nat.beq n.1 0 && (Nat.beq dp.1 0 && (Nat.beq sp.1 0 && (Nat.beq v1.1 2 && (Nat.beq v0.1 2 && (sbeq dp.2.2 (sc 0) && (sbeq sp.2.2 (sc 0) && (sisc n.2.2 && (decide (0 ≤ n.2.2.1) && Nat.ble ((st'.map scat).sum) 8)))))))))
      (srow fm v0.2.1 (fun en0 a0 => srow fm v1.2.1 (fun en1 a1 => cond (Nat.beq a0.1 0 && (Nat.beq a1.1 0 && (Nat.beq a0.2.1 0 && (Nat.beq a1.2.1 0 && (Nat.ble n.2.2.1.toNat a0.2.2.1 && (Nat.ble n.2.2.1.toNat a1.2.2.1 && (Nat.ble 65 v1.2.1 && (Nat.ble v1.2.1 73 && (srgle rg v0.2.1 v1.2.1 && (smem2 v1.2.1 0 md && sall (fun q => !(Nat.beq q.1 v1.2.1)) wl)))))))))) (sll (w.1.1.filter (fun q => !(Nat.beq q.1 v1.2.1))) (fun ms => ret (pc + 3) lv st' ((ms, w.1.2), w.2))) none))) none
  | _ => none
theorem sfdv_all (k : Nat) (ps : List Int) : ∀ q ∈ sfdv k ps, (Nat.blt q.1 65 || Nat.blt 73 q.1) = true := by
  have h : (sfdv k ps).all (fun q => Nat.blt q.1 65 || Nat.blt 73 q.1) = true := by
    unfold sfdv
    split <;> rfl
  exact List.all_eq_true.mp h
theorem sfdv_fam {k : Nat} {ps : List Int} {q : Nat × Int × Int} (h : q ∈ sfdv k ps) : q.1 < 65 ∨ 73 < q.1 := by
  have := sfdv_all k ps q h
  rw [Bool.or_eq_true] at this
  exact this.imp zblt zblt
theorem sH_setM {fm : List SF} {ad : SAd} {M M' : SMem} {cA : Nat → ClassId} {ws : va_W} {f j : Nat} {en : SF} (hI : sInj fm) (hk : sfmok fm) (h : sH fm ad M cA ws) (hen : fm[f]? = some en) (hj : j < en.2.2.1) (hM : ∀ f' j' i', ¬ (f' = f ∧ j' = j) → M' f' j' i' = M f' j' i') {w' : va_E} (hw' : sHe ad M' cA f j en w') : sH fm ad M' cA (ws.set (spos en j) (ad f j, w')) := by
  intro f' en' hen' j' hj'
  obtain ⟨w0, hw0, -⟩ := h f en hen j hj
  have hlt : spos en j < ws.length := (List.getElem?_eq_some_iff.mp hw0).1
  by_cases hp : spos en' j' = spos en j
  · obtain ⟨rfl, rfl⟩ := hI f' f en' en hen' hen j' j hj' hj hp
    cases hen.symm.trans hen'
    exact ⟨w', by rw [List.getElem?_set_self hlt], hw'⟩
  · obtain ⟨w, h1, h2⟩ := h f' en' hen' j' hj'
    have hne : ¬ (f' = f ∧ j' = j) := by
      rintro ⟨rfl, rfl⟩
      cases hen.symm.trans hen'
      exact hp rfl
    refine ⟨w, by rw [List.getElem?_set_ne (fun q => hp q.symm)]; exact h1, sHe_congr (M := M) (fun i' => hM _ _ _ hne) (fun a ha hz => ?_) h2⟩
    have h3 := hk f' en' a hen' ha hz
    have h4 : f < fm.length := (List.getElem?_eq_some_iff.mp hen).1
    exact hM _ _ _ (fun q => by omega)
def yLay : MethodName := ⟨"NamesUnderLaw", "layer", "(LNamesUnder;III[J)I"⟩
/-- what is wanted of the law's own 'layer', which catches -/
def sLAY (fm : List SF) (rg : SRg) (EX : SEx) (l : Launch) (dC : Nat → ClassId) (dI : Nat → Nat → Nat) (cA : Nat → ClassId) : Prop := ∀ (p : Program) (e : Env) (R : Room) (s : State) (m : MethodId) (args : Array Value) (below : List Frame) (meth : Method) (c : Code) (Q : State → Prop) (A : Nat → Prop) (H : Heap) (locs : List Loc) (ls : Array Slot) (rest : List Value) (nc ns pc idx : Nat) (own : String) (cc : ByteArray) (M : SMem) (ad : SAd) (ws : va_W) (i1 i2 i3 : Int32), p.tables.exec = Jvm.exec → c.code = cc → c.maxLocals = ls.size → s.vm.findClass own = some m.cls → (∀ w ∈ zT, w.before args s = true) → va_K (dC, dI) vwCl (ztys cA) s → (∀ q, s.heap.size ≤ q → A q) → EX A s s.heap → (rest.map fun v => v.category).sum ≤ 8 → 12 ≤ R.frames → 480 ≤ R.locals → nc + 1 ≤ R.cells → ns + 6 ≤ R.slots → Cond.methodLink own idx yLay ∈ zT → decode cc pc = .ok (.invokestatic idx, 3) → va_P (dC, dI) vwCl ws H → va_D A ws → va_S A s.heap H locs → sH fm ad M cA ws → sI rg M → sX M →
  (∀ (x : Int32) (M' : SMem) (ws' : va_W) (H1 : Heap) (locs1 : List Loc), 0 ≤ x.toInt → x.toInt ≤ 1 → sH fm ad M' cA ws' → sI rg M' → (∀ f j i, f ≠ 2 → M' f j i = M f j i) → va_P (dC, dI) vwCl ws' H1 → va_D A ws' → va_S A s.heap H1 locs1 → W p l e R s m args below meth c H1 locs1 (nc + 1) (ns + 6) Q (F0 m (pc + 3) ls (.int x :: rest))) →
  W p l e R s m args below meth c H locs nc ns Q (F0 m pc ls (.ref (ad 2 0) :: .int i3 :: .int i2 :: .int i1 :: .ref (ad 0 0) :: rest))
def sx_lay (md : List (Nat × Nat)) (wl : List (Nat × SE)) (pc : Nat) (lv : SL) (st : List SV) (w : SW) (ret : SRt) : SX := match st with
  | o :: c3 :: c2 :: c1 :: x :: st' => cond (Nat.beq o.1 2 && (Nat.beq o.2.1 2 && (sbeq o.2.2 (sc 0) && (Nat.beq c3.1 0 && (Nat.beq c2.1 0 && (Nat.beq c1.1 0 && (Nat.beq x.1 2 && (Nat.beq x.2.1 0 && (sbeq x.2.2 (sc 0) && (Nat.ble ((st'.map scat).sum) 8 && (smem2 2 0 md && sall (fun q => !(Nat.beq q.1 2)) wl))))))))))) (sll (w.1.1.filter (fun q => !(Nat.beq q.1 2))) (fun ms => sn (w.2.2.2.1 + 1) (fun nc => sn (w.2.2.2.2 + 6) (fun ns => snew lv st ((ms, w.1.2), w.2.1, w.2.2.1, nc, ns) 0 1 (fun e w => ret (pc + 3) lv ((0, 0, e) :: st') w))))) none
  | _ => none
theorem sfdv_all2 (k : Nat) (ps : List Int) : ∀ q ∈ sfdv k ps, Nat.blt 2 q.1 = true := by
  have h : (sfdv k ps).all (fun q => Nat.blt 2 q.1) = true := by
    unfold sfdv
    split <;> rfl
  exact List.all_eq_true.mp h
section SNA
variable {p : Program} {l : Launch} {e : Env} {R : Room} {s : State} {m : MethodId} {args : Array Value} {below : List Frame} {meth : Method} {c : Code} {Q : State → Prop} {dC : Nat → ClassId} {dI : Nat → Nat → Nat} {cA : Nat → ClassId} {A : Nat → Prop} {nL : Nat} {fm : List SF} {rg : SRg} {wr : SWr} {scr n0 : Nat} {ρ0 : Nat → Int} {M0 : SMem} {ad0 : SAd} {nc0 ns0 : Nat} {cc : ByteArray} {pc : Nat} {lv : SL} {st : List SV} {w : SW} {ret : SRt} {xs : List SS} {own : String}
variable {md : List (Nat × Nat)} {wl : List (Nat × SE)}
theorem ss_max (hx : p.tables.exec = Jvm.exec) (hb : c.code = cc) (hml : c.maxLocals = nL) (hown : s.vm.findClass own = some m.cls) (hts : ∀ w ∈ zT, w.before args s = true) {idx : Nat} (hRc : nc0 + w.2.2.2.1 ≤ R.cells) (hRs : ns0 + w.2.2.2.2 ≤ R.slots) (hRf : 1 ≤ R.frames) (hRl : 40 ≤ R.locals) (h1 : Cond.methodLink own idx Lib.Math.max.name ∈ zT) (h2 : Cond.static Lib.Math.max.name ∈ zT) (h3 : Cond.initialized "java/lang/Math" ∈ zT) (h4 : Cond.code Lib.Math.max.name Lib.Math.max.code 2 (some .int) ∈ zT) (hdg : decode cc pc = .ok (.invokestatic idx, 3)) (h : sub (sx_mm true pc lv st w ret) xs) (Hk : ∀ (pc : Nat) (lv : SL) (st : List SV) (w : SW), sub (ret pc lv st w) xs → sW p l e R s m args below meth c Q dC dI cA A nL fm rg sX sfI wr scr n0 ρ0 M0 ad0 nc0 ns0 pc lv st w) : sW p l e R s m args below meth c Q dC dI cA A nL fm rg sX sfI wr scr n0 ρ0 M0 ad0 nc0 ns0 pc lv st w := by
  match st, h with
  | [], h => exact (sub_none h).elim
  | [_], h => exact (sub_none h).elim
  | y :: x :: st', h =>
    obtain ⟨h0, h⟩ := sub_cond h
    simp only [Bool.and_eq_true] at h0
    rw [sfe_eq] at h
    obtain ⟨k1, k2⟩ := sub_app h
    intro ρ M ad ws H locs ls clv cst ⟨⟨ag, hn, hK⟩, ⟨r1, hI, hmo, hfr⟩, r2, r3, r4, r5, r6, r7⟩
    obtain ⟨cy, cr, rfl, h5, h6⟩ := svs_cons r7
    obtain ⟨cx, cr, rfl, h7, h8⟩ := svs_cons h6
    obtain ⟨a, rfl, e1⟩ := sv_int h0.1 h7
    obtain ⟨b, rfl, e2⟩ := sv_int h0.2.1 h5
    have hs8 : (cr.map fun v => v.category).sum ≤ 8 := by
      rw [svs_sum h8]
      exact Nat.le_of_ble_eq_true h0.2.2
    refine va_mmax hx hb (hml.trans r5.1.symm) hown (hts _ h1) (hts _ h2) (hts _ h3) (hts _ h4) hRf (by omega) hRc hRs hdg ?_
    by_cases c1 : a < b
    · rw [if_pos c1]
      have c1 := Int32.lt_iff_toInt_lt.mp c1
      obtain ⟨K, q1, q2⟩ := sge_ok hK k2 (by rw [saddc_ev, sneg_ev, ssub_ev]; omega)
      exact Hk _ _ _ _ q2 ρ M ad ws H locs ls clv _ ⟨⟨ag, hn, q1⟩, ⟨r1, hI, hmo, hfr⟩, r2, r3, r4, r5, r6, h5, h8⟩
    · rw [if_neg c1]
      have c1 : ¬ a.toInt < b.toInt := fun q => c1 (Int32.lt_iff_toInt_lt.mpr q)
      obtain ⟨K, q1, q2⟩ := sge_ok hK k1 (by rw [ssub_ev]; omega)
      exact Hk _ _ _ _ q2 ρ M ad ws H locs ls clv _ ⟨⟨ag, hn, q1⟩, ⟨r1, hI, hmo, hfr⟩, r2, r3, r4, r5, r6, h7, h8⟩
theorem ss_min (hx : p.tables.exec = Jvm.exec) (hb : c.code = cc) (hml : c.maxLocals = nL) (hown : s.vm.findClass own = some m.cls) (hts : ∀ w ∈ zT, w.before args s = true) {idx : Nat} (hRc : nc0 + w.2.2.2.1 ≤ R.cells) (hRs : ns0 + w.2.2.2.2 ≤ R.slots) (hRf : 1 ≤ R.frames) (hRl : 40 ≤ R.locals) (h1 : Cond.methodLink own idx Lib.Math.min.name ∈ zT) (h2 : Cond.static Lib.Math.min.name ∈ zT) (h3 : Cond.initialized "java/lang/Math" ∈ zT) (h4 : Cond.code Lib.Math.min.name Lib.Math.min.code 2 (some .int) ∈ zT) (hdg : decode cc pc = .ok (.invokestatic idx, 3)) (h : sub (sx_mm false pc lv st w ret) xs) (Hk : ∀ (pc : Nat) (lv : SL) (st : List SV) (w : SW), sub (ret pc lv st w) xs → sW p l e R s m args below meth c Q dC dI cA A nL fm rg sX sfI wr scr n0 ρ0 M0 ad0 nc0 ns0 pc lv st w) : sW p l e R s m args below meth c Q dC dI cA A nL fm rg sX sfI wr scr n0 ρ0 M0 ad0 nc0 ns0 pc lv st w := by
  match st, h with
  | [], h => exact (sub_none h).elim
  | [_], h => exact (sub_none h).elim
  | y :: x :: st', h =>
    obtain ⟨h0, h⟩ := sub_cond h
    simp only [Bool.and_eq_true] at h0
    rw [sfe_eq] at h
    obtain ⟨k1, k2⟩ := sub_app h
    intro ρ M ad ws H locs ls clv cst ⟨⟨ag, hn, hK⟩, ⟨r1, hI, hmo, hfr⟩, r2, r3, r4, r5, r6, r7⟩
    obtain ⟨cy, cr, rfl, h5, h6⟩ := svs_cons r7
    obtain ⟨cx, cr, rfl, h7, h8⟩ := svs_cons h6
    obtain ⟨a, rfl, e1⟩ := sv_int h0.1 h7
    obtain ⟨b, rfl, e2⟩ := sv_int h0.2.1 h5
    have hs8 : (cr.map fun v => v.category).sum ≤ 8 := by
      rw [svs_sum h8]
      exact Nat.le_of_ble_eq_true h0.2.2
    refine va_mmin hx hb (hml.trans r5.1.symm) hown (hts _ h1) (hts _ h2) (hts _ h3) (hts _ h4) hRf (by omega) hRc hRs hdg ?_
    by_cases c1 : a.toInt < b.toInt
    · rw [if_neg (fun q => by have := Int32.lt_iff_toInt_lt.mp q; omega)]
      obtain ⟨K, q1, q2⟩ := sge_ok hK k2 (by rw [saddc_ev, sneg_ev, ssub_ev]; omega)
      exact Hk _ _ _ _ q2 ρ M ad ws H locs ls clv _ ⟨⟨ag, hn, q1⟩, ⟨r1, hI, hmo, hfr⟩, r2, r3, r4, r5, r6, h7, h8⟩
    · obtain ⟨K, q1, q2⟩ := sge_ok hK k1 (by rw [ssub_ev]; omega)
      have hW := Hk _ _ _ _ q2 ρ M ad ws H locs ls clv (.int b :: cr) ⟨⟨ag, hn, q1⟩, ⟨r1, hI, hmo, hfr⟩, r2, r3, r4, r5, r6, h5, h8⟩
      by_cases c2 : b < a
      · rw [if_pos c2]
        exact hW
      · rw [if_neg c2]
        have c2 : ¬ b.toInt < a.toInt := fun q => c2 (Int32.lt_iff_toInt_lt.mpr q)
        have e3 : a = b := Int32.toInt_inj.mp (by omega)
        rw [e3]
        exact hW
theorem ss_chr {EX : SEx} (hE9 : EX A s s.heap) (hA : ∀ q, s.heap.size ≤ q → A q) (hCH : sCHR EX l dC dI cA scr) (hx : p.tables.exec = Jvm.exec) (hb : c.code = cc) (hml : c.maxLocals = nL) (hown : s.vm.findClass own = some m.cls) (hts : ∀ w ∈ zT, w.before args s = true) (hKv : va_K (dC, dI) vwCl (ztys cA) s) {idx : Nat} (hRc : nc0 + w.2.2.2.1 ≤ R.cells) (hRs : ns0 + w.2.2.2.2 ≤ R.slots) (hRf : 4 ≤ R.frames) (hRl : 160 ≤ R.locals) (h1 : Cond.methodLink own idx yChr ∈ zT) (hdg : decode cc pc = .ok (.invokevirtual idx, 3)) (h : sub (sx_chr pc lv st w ret) xs) (Hk : ∀ (pc : Nat) (lv : SL) (st : List SV) (w : SW), sub (ret pc lv st w) xs → sW p l e R s m args below meth c Q dC dI cA A nL fm rg sX sfI wr scr n0 ρ0 M0 ad0 nc0 ns0 pc lv st w) : sW p l e R s m args below meth c Q dC dI cA A nL fm rg sX sfI wr scr n0 ρ0 M0 ad0 nc0 ns0 pc lv st w := by
  match st, h with
  | [], h => exact (sub_none h).elim
  | [_], h => exact (sub_none h).elim
  | i :: v :: st', h =>
    obtain ⟨h0, h⟩ := sub_cond h
    simp only [Bool.and_eq_true] at h0
    obtain ⟨g1, g2, g3, g4⟩ := h0
    intro ρ M ad ws H locs ls clv cst hr
    obtain ⟨ci, cr, rfl, h5, h6⟩ := svs_cons hr.2.2.2.2.2.2.2
    obtain ⟨cv, cr, rfl, h7, h8⟩ := svs_cons h6
    obtain ⟨iv, rfl, ei⟩ := sv_int g1 h5
    have h3 : v.1 = 3 := Nat.beq_eq.mp g2
    have hin := sin_ok (srel_sK hr) g4
    rcases h7 with ⟨q, -⟩ | ⟨q, -⟩ | ⟨q, -⟩ | ⟨-, rfl⟩
    · omega
    · omega
    · omega
    · have hs8 : (cr.map fun v => v.category).sum ≤ 8 := by
        rw [svs_sum h8]
        exact Nat.le_of_ble_eq_true g3
      refine hCH p e R s m args below meth c Q A H locs ls cr _ _ pc idx own cc iv ws hx hb (hml.trans hr.2.2.2.2.2.1.1.symm) hown hts hKv hA hr.2.2.2.2.1 hE9 hr.2.2.1 hr.2.2.2.1 hs8 hRf hRl hRc hRs h1 hdg (by omega) (by omega) (fun x H1 locs1 x0 x1 y1 y2 y3 => ?_)
      obtain ⟨ρ', -, -, a3, a4, a5⟩ := snew_ok hr x0 x1 h
      have := Hk _ _ _ _ a5 ρ' M ad ws H1 locs1 ls clv (.int x :: cr) ⟨a4.1, a4.2.1, y1, y2, y3, a4.2.2.2.2.2.1, a4.2.2.2.2.2.2.1, sv_mkI a3.symm, a4.2.2.2.2.2.2.2.2.2⟩
      exact this
theorem ss_cpy (hx : p.tables.exec = Jvm.exec) (hb : c.code = cc) (hml : c.maxLocals = nL) (hown : s.vm.findClass own = some m.cls) (hts : ∀ w ∈ zT, w.before args s = true) (hKv : va_K (dC, dI) vwCl (ztys cA) s) (hS : sST fm rg) (hwr : sWR md wl n0 ρ0 wr) {idx : Nat} (hRf : 1 ≤ R.frames) (hRl : 40 ≤ R.locals) (h1 : Cond.methodLink own idx arraycopyName ∈ zT) (h2 : Cond.native arraycopyName ∈ zT) (h3 : Cond.static arraycopyName ∈ zT) (h4 : Cond.initialized "java/lang/System" ∈ zT) (hdg : decode cc pc = .ok (.invokestatic idx, 3)) (h : sub (sx_cpy fm rg md wl pc lv st w ret) xs) (Hk : ∀ (pc : Nat) (lv : SL) (st : List SV) (w : SW), sub (ret pc lv st w) xs → sW p l e R s m args below meth c Q dC dI cA A nL fm rg sX sfI wr scr n0 ρ0 M0 ad0 nc0 ns0 pc lv st w) : sW p l e R s m args below meth c Q dC dI cA A nL fm rg sX sfI wr scr n0 ρ0 M0 ad0 nc0 ns0 pc lv st w := by
  match st, h with
  | [], h => exact (sub_none h).elim
  | [_], h => exact (sub_none h).elim
  | [_, _], h => exact (sub_none h).elim
  | [_, _, _], h => exact (sub_none h).elim
  | [_, _, _, _], h => exact (sub_none h).elim
  | n :: dp :: v1 :: sp :: v0 :: st', h =>
    obtain ⟨h0, h⟩ := sub_cond h
    simp only [Bool.and_eq_true] at h0
    obtain ⟨g1, g2, g3, g4, g5, g6, g7, g8, g9, g10⟩ := h0
    obtain ⟨en0, a0, hen0, ha0, h⟩ := srow_ok h
    obtain ⟨en1, a1, hen1, ha1, h⟩ := srow_ok h
    obtain ⟨h0, h⟩ := sub_cond h
    rw [sll_eq] at h
    simp only [Bool.and_eq_true] at h0
    obtain ⟨t1, t2, t3, t4, t5, t6, t7, t8, t9, t10, t11⟩ := h0
    intro ρ M ad ws H locs ls clv cst hr
    obtain ⟨⟨ag, hn, hK⟩, ⟨r1, ⟨hI, hX⟩, hmo, hfr⟩, r2, r3, r4, r5, r6, r7⟩ := hr
    obtain ⟨cn, cr, rfl, m1, m2⟩ := svs_cons r7
    obtain ⟨cd, cr, rfl, m3, m4⟩ := svs_cons m2
    obtain ⟨c1, cr, rfl, m5, m6⟩ := svs_cons m4
    obtain ⟨cs, cr, rfl, m7, m8⟩ := svs_cons m6
    obtain ⟨c0, cr, rfl, m9, m10⟩ := svs_cons m8
    obtain ⟨nv, rfl, en⟩ := sv_int g1 m1
    obtain ⟨dv, rfl, ed⟩ := sv_int g2 m3
    obtain ⟨sv9, rfl, es⟩ := sv_int g3 m7
    rw [sbeq_ok g6, sev_c] at ed
    rw [sbeq_ok g7, sev_c] at es
    rw [sisc_ok g8] at en
    have hn0 : 0 ≤ n.2.2.1 := of_decide_eq_true g9
    have hz : ∀ z : Int32, 0 ≤ z.toInt → ¬ z < 0 := fun z hz q => by
      have := Int32.lt_iff_toInt_lt.mp q
      have e0 : (0 : Int32).toInt = 0 := rfl
      omega
    have kn := sclamp (x := nv) (by omega)
    have kd := sclamp (x := dv) (by omega)
    have ks := sclamp (x := sv9) (by omega)
    have hv1 : v1.1 = 2 := Nat.beq_eq.mp g4
    have hv0 : v0.1 = 2 := Nat.beq_eq.mp g5
    rcases m9 with ⟨q, -⟩ | ⟨q, -⟩ | ⟨-, j0, en', hj0, hen', hjn0, rfl⟩ | ⟨q, -⟩
    · omega
    · omega
    · cases hen0.symm.trans hen'
      rcases m5 with ⟨q, -⟩ | ⟨q, -⟩ | ⟨-, j1, en'', hj1, hen'', hjn1, rfl⟩ | ⟨q, -⟩
      · omega
      · omega
      · cases hen1.symm.trans hen''
        obtain ⟨wv0, hwv0, hse0⟩ := r1 _ en0 hen0 j0 hjn0
        obtain ⟨wv1, hwv1, hse1⟩ := r1 _ en1 hen1 j1 hjn1
        unfold sHe at hse0 hse1
        rw [ha0] at hse0
        rw [ha1] at hse1
        have z0 := Nat.beq_eq.mp t1
        have z1 := Nat.beq_eq.mp t2
        obtain ⟨f0, rfl, hf0⟩ := hse0.1 (by omega)
        obtain ⟨f1, rfl, hf1⟩ := hse1.1 (by omega)
        have hl0 : slen M j0 a0 = a0.2.2.1 := by unfold slen; rw [t3]; rfl
        have hl1 : slen M j1 a1 = a1.2.2.1 := by unfold slen; rw [t4]; rfl
        have u1 := Nat.le_of_ble_eq_true t5
        have u2 := Nat.le_of_ble_eq_true t6
        have u3 := Nat.le_of_ble_eq_true t7
        have u4 := Nat.le_of_ble_eq_true t8
        rw [z0] at hwv0
        rw [z1] at hwv1
        have hs8 : (cr.map fun v => v.category).sum ≤ 8 := by
          rw [svs_sum m10]
          exact Nat.le_of_ble_eq_true g10
        have hnf : nativeFrameWords "java/lang/System" "arraycopy" 5 = 7 := by decide
        refine va_copyi hx hb (hml.trans r5.1.symm) hown (hts _ h1) (hts _ h2) (hts _ h3) (hts _ h4) hKv r2 r3 r4 (spos en0 j0) (spos en1 j1) 0 0 (ty := .int) hwv0 hwv1 rfl rfl rfl (hz _ (by omega)) (hz _ (by omega)) (hz _ (by omega)) (by rw [hl0]; omega) (by rw [hl1]; omega) (fun i _ => rfl) hRf (by rw [hnf]; omega) hdg (fun H1 locs1 p1 p2 p3 => ?_)
        obtain ⟨s1, s2, s3, s4, s5, s6, s7, s8, s9⟩ := hS
        have hM : ∀ f' j' i', ¬ (f' = v1.2.1 ∧ j' = j1) → sMcp M v0.2.1 j0 v1.2.1 j1 nv.toNatClampNeg f' j' i' = M f' j' i' := fun f' j' i' q => if_neg (fun z => q ⟨z.1, z.2.1⟩)
        have hMf : ∀ f' j' i', f' ≠ v1.2.1 → sMcp M v0.2.1 j0 v1.2.1 j1 nv.toNatClampNeg f' j' i' = M f' j' i' := fun f' j' i' q => if_neg (fun z => q z.1)
        have hMff : ∀ f', f' ≠ v1.2.1 → sMcp M v0.2.1 j0 v1.2.1 j1 nv.toNatClampNeg f' = M f' := fun f' q => by
          funext j' i'
          exact hMf f' j' i' q
        refine Hk _ _ _ _ h ρ (sMcp M v0.2.1 j0 v1.2.1 j1 nv.toNatClampNeg) ad _ H1 locs1 ls clv cr ⟨⟨ag, hn, hK⟩, ⟨sH_setM s1 s2 r1 hen1 hjn1 hM ?_, ⟨⟨fun f i q hq j => ?_, fun q hq => by rw [s3] at hq; cases hq⟩, ?_⟩, ⟨fun q hq => ?_, fun q hq => ?_⟩, ⟨fun f j i hni => ?_, hfr.2.1, fun q hq j i hi => ?_⟩⟩, p1, p2, p3, r5, r6, m10⟩
        · unfold sHe
          rw [ha1]
          refine ⟨fun _ => ⟨va_cpy f0 f1 sv9.toNatClampNeg dv.toNatClampNeg nv.toNatClampNeg, ?_, fun i => ?_⟩, fun q => by omega, fun q => by omega⟩
          · rw [z1]
            congr 2
            unfold slen
            rw [t4]
            rfl
          · unfold va_cpy sMcp
            have e1 : dv.toNatClampNeg = 0 := by omega
            have e2 : sv9.toNatClampNeg = 0 := by omega
            rw [e1, e2]
            by_cases hi : i < nv.toNatClampNeg
            · rw [if_pos ⟨Nat.zero_le _, by omega⟩, if_pos ⟨rfl, rfl, hi⟩, show 0 + (i - 0) = i from by omega]
              exact hf0 i
            · rw [if_neg (fun q => hi (by omega)), if_neg (fun q => hi q.2.2)]
              exact hf1 i
        · unfold sMcp
          by_cases hc : f = v1.2.1 ∧ j = j1 ∧ i < nv.toNatClampNeg
          · rw [if_pos hc]
            obtain ⟨rfl, -, -⟩ := hc
            unfold srgle at t9
            have q0 := (s6 _ en0 a0 hen0 ha0 i).1
            have q1 := (s6 _ en1 a1 hen1 ha1 i).1
            rw [q1] at hq
            rw [hq] at t9
            cases hs0 : srg rg v0.2.1 0 with
            | none => rw [hs0] at t9; cases t9
            | some b =>
              rw [hs0] at t9
              simp only [Bool.and_eq_true] at t9
              have w1 : q.1 ≤ b.1 := of_decide_eq_true t9.1
              have w2 : b.2 ≤ q.2 := of_decide_eq_true t9.2
              have w3 := hI.1 v0.2.1 i b (q0.trans hs0) j0
              omega
          · rw [if_neg hc]
            exact hI.1 f i q hq j
        · unfold sX
          rw [hMff 29 (by omega), hMff 27 (by omega), hMff 50 (by omega)]
          exact hX
        · obtain ⟨q1, q2⟩ := List.mem_filter.mp hq
          obtain ⟨j, i, e1, e2, e3⟩ := hmo.1 q q1
          refine ⟨j, i, e1, e2, ?_⟩
          rw [hMf _ _ _ (fun z => by rw [z] at q2; simp at q2)]
          exact e3
        · refine sfI_congr (fun d hd j i _ _ => hMf _ _ _ ?_) (hmo.2 q hq)
          have := sfdv_fam hd
          omega
        · rw [← hfr.1 f j i hni]
          refine hMf _ _ _ (fun z => hni ?_)
          rw [z, (s6 _ en1 a1 hen1 ha1 i).2, hwr.1]
          exact smem2_ok t10
        · rw [← hfr.2.2 q hq j i hi]
          obtain ⟨e, e1, -, -⟩ := hwr.2 q hq
          have := sall_ok t11 _ e1
          exact hMf _ _ _ (fun z => by rw [z] at this; simp at this)
      · omega
    · omega
theorem ss_lay {EX : SEx} (hLY : sLAY fm rg EX l dC dI cA) (hE9 : EX A s s.heap) (hA : ∀ q, s.heap.size ≤ q → A q) (hx : p.tables.exec = Jvm.exec) (hb : c.code = cc) (hml : c.maxLocals = nL) (hown : s.vm.findClass own = some m.cls) (hts : ∀ w ∈ zT, w.before args s = true) (hKv : va_K (dC, dI) vwCl (ztys cA) s) (hs2 : ∀ i, scl rg 2 i = 0) (hwr : sWR md wl n0 ρ0 wr) {idx : Nat} (hRc : nc0 + w.2.2.2.1 + 1 ≤ R.cells) (hRs : ns0 + w.2.2.2.2 + 6 ≤ R.slots) (hRf : 12 ≤ R.frames) (hRl : 480 ≤ R.locals) (h1 : Cond.methodLink own idx yLay ∈ zT) (hdg : decode cc pc = .ok (.invokestatic idx, 3)) (h : sub (sx_lay md wl pc lv st w ret) xs) (Hk : ∀ (pc : Nat) (lv : SL) (st : List SV) (w : SW), sub (ret pc lv st w) xs → sW p l e R s m args below meth c Q dC dI cA A nL fm rg sX sfI wr scr n0 ρ0 M0 ad0 nc0 ns0 pc lv st w) : sW p l e R s m args below meth c Q dC dI cA A nL fm rg sX sfI wr scr n0 ρ0 M0 ad0 nc0 ns0 pc lv st w := by
  match st, h with
  | [], h => exact (sub_none h).elim
  | [_], h => exact (sub_none h).elim
  | [_, _], h => exact (sub_none h).elim
  | [_, _, _], h => exact (sub_none h).elim
  | [_, _, _, _], h => exact (sub_none h).elim
  | o :: c3 :: c2 :: c1 :: x :: st', h =>
    obtain ⟨h0, h⟩ := sub_cond h
    rw [sll_eq, sn_eq, sn_eq] at h
    simp only [Bool.and_eq_true] at h0
    obtain ⟨g1, g2, g3, g4, g5, g6, g7, g8, g9, g10, g11, g12⟩ := h0
    intro ρ M ad ws H locs ls clv cst hr
    have hr9 := hr
    obtain ⟨⟨ag, hn, hK⟩, ⟨r1, ⟨hI, hX⟩, hmo, hfr⟩, r2, r3, r4, r5, r6, r7⟩ := hr
    obtain ⟨co, cr, rfl, m1, m2⟩ := svs_cons r7
    obtain ⟨cc3, cr, rfl, m3, m4⟩ := svs_cons m2
    obtain ⟨cc2, cr, rfl, m5, m6⟩ := svs_cons m4
    obtain ⟨cc1, cr, rfl, m7, m8⟩ := svs_cons m6
    obtain ⟨cx, cr, rfl, m9, m10⟩ := svs_cons m8
    obtain ⟨v3, rfl, -⟩ := sv_int g4 m3
    obtain ⟨v2, rfl, -⟩ := sv_int g5 m5
    obtain ⟨v1, rfl, -⟩ := sv_int g6 m7
    have eo : co = .ref (ad 2 0) := by
      have ho2 := Nat.beq_eq.mp g1
      rcases m1 with ⟨q, -⟩ | ⟨q, -⟩ | ⟨-, jn, en, q1, q2, q3, q4⟩ | ⟨q, -⟩
      · omega
      · omega
      · rw [sbeq_ok g3, sev_c] at q1
        have e0 : jn = 0 := by omega
        rw [q4, e0, Nat.beq_eq.mp g2]
      · omega
    have ex : cx = .ref (ad 0 0) := by
      have ho2 := Nat.beq_eq.mp g7
      rcases m9 with ⟨q, -⟩ | ⟨q, -⟩ | ⟨-, jn, en, q1, q2, q3, q4⟩ | ⟨q, -⟩
      · omega
      · omega
      · rw [sbeq_ok g9, sev_c] at q1
        have e0 : jn = 0 := by omega
        rw [q4, e0, Nat.beq_eq.mp g8]
      · omega
    subst eo ex
    have hs8 : (cr.map fun v => v.category).sum ≤ 8 := by
      rw [svs_sum m10]
      exact Nat.le_of_ble_eq_true g10
    refine hLY p e R s m args below meth c Q A H locs ls cr _ _ pc idx own cc M ad ws v1 v2 v3 hx hb (hml.trans r5.1.symm) hown hts hKv hA hE9 hs8 hRf hRl hRc hRs h1 hdg r2 r3 r4 r1 hI hX (fun xv M' ws' H1 locs1 x0 x1 z1 z2 z3 z4 z5 z6 => ?_)
    have hMff : ∀ f', f' ≠ 2 → M' f' = M f' := fun f' q => by
      funext j' i'
      exact z3 f' j' i' q
    have hr2 : sRel fm rg sX sfI wr scr n0 ρ0 M0 ad0 dC dI cA A s.heap nL lv (o :: c3 :: c2 :: c1 :: x :: st') ((w.1.1.filter (fun q => !(Nat.beq q.1 2)), w.1.2), w.2.1, w.2.2.1, w.2.2.2.1 + 1, w.2.2.2.2 + 6) ρ M' ad ws' H1 locs1 ls clv (.ref (ad 2 0) :: .int v3 :: .int v2 :: .int v1 :: .ref (ad 0 0) :: cr) := by
      refine ⟨⟨ag, hn, hK⟩, ⟨z1, ⟨z2, ?_⟩, ⟨fun q hq => ?_, fun q hq => ?_⟩, ⟨fun f j i hni => ?_, hfr.2.1, fun q hq j i hi => ?_⟩⟩, z4, z5, z6, r5, r6, r7⟩
      · unfold sX
        rw [hMff 29 (by decide), hMff 27 (by decide), hMff 50 (by decide)]
        exact hX
      · obtain ⟨q1, q2⟩ := List.mem_filter.mp hq
        obtain ⟨j, i, e1, e2, e3⟩ := hmo.1 q q1
        refine ⟨j, i, e1, e2, ?_⟩
        rw [z3 _ _ _ (fun z => by rw [z] at q2; simp at q2)]
        exact e3
      · refine sfI_congr (fun d hd j i _ _ => z3 _ _ _ ?_) (hmo.2 q hq)
        have := zblt (sfdv_all2 _ _ d hd)
        omega
      · rw [← hfr.1 f j i hni]
        refine z3 _ _ _ (fun z => hni ?_)
        rw [z, hs2, hwr.1]
        exact smem2_ok g11
      · rw [← hfr.2.2 q hq j i hi]
        obtain ⟨e, e1, -, -⟩ := hwr.2 q hq
        have := sall_ok g12 _ e1
        exact z3 _ _ _ (fun z => by rw [z] at this; simp at this)
    obtain ⟨ρ', -, -, a3, a4, a5⟩ := snew_ok hr2 x0 x1 h
    have := Hk _ _ _ _ a5 ρ' M' ad ws' H1 locs1 ls clv (.int xv :: cr) ⟨a4.1, a4.2.1, a4.2.2.1, a4.2.2.2.1, a4.2.2.2.2.1, a4.2.2.2.2.2.1, a4.2.2.2.2.2.2.1, sv_mkI a3.symm, a4.2.2.2.2.2.2.2.2.2.2.2.2⟩
    exact this
end SNA
