/-! calls: what a method does, told by a predicate of what it answers and of the world behind it -/
abbrev SEx : Type := (Nat → Prop) → State → Heap → Prop
/-- what is known beside the world: it lives on where nothing outside the world changes -/
def sEXok (EX : SEx) : Prop := (∀ A U H H1, EX A U H → (∀ a : Nat, a < H.size → ¬ A a → H1[a]? = H[a]?) → EX A U H1) ∧ (∀ (A B : Nat → Prop) U H, EX A U H → (∀ q, B q → A q) → EX B U H) ∧ (∀ A (s U : State) H, s.WarmedH U.vm → EX A s H → EX A U H) ∧ (∀ A (u U : State) H, u.vm = U.vm → EX A u H → EX A U H) ∧ ∀ A U H, EX A U H → zX U
def sF (d : Nat) (me : ZMe) (EX : SEx) (p : Program) (R : Room) (s : State) (m : MethodId) (args : Array Value) (c : Code) (dC : Nat → ClassId) (dI : Nat → Nat → Nat) (cA : Nat → ClassId) (A : Nat → Prop) : Prop :=
  p.tables.exec = Jvm.exec ∧ c.code = me.2.2.1 ∧ c.maxLocals = me.2.2.2.1 ∧ s.vm.findClass me.1 = some m.cls ∧ (∀ w ∈ zT, w.before args s = true) ∧ va_K (dC, dI) vwCl (ztys cA) s ∧ (∀ q, s.heap.size ≤ q → A q) ∧ (d ≤ R.frames ∧ 40 * d ≤ R.locals) ∧ (me.2.2.2.2.2.1 ≤ R.cells ∧ me.2.2.2.2.2.2 ≤ R.slots) ∧ EX A s s.heap
def sret (me : ZMe) (pc : Nat) (r : List Value) : Prop := match me.2.2.2.2.1 with
  | none => decode me.2.2.1 pc = .ok (.return_, 1) ∧ r = []
  | some ty => decode me.2.2.1 pc = .ok (.ireturn, 1) ∧ ∃ x : Int32, r = [.int x] ∧ narrow ty (.int x) = .int x
/-- from its entry with these arguments in this world the method comes to a return where PO holds -/
def sRun (d : Nat) (me : ZMe) (EX : SEx) (l : Launch) (dC : Nat → ClassId) (dI : Nat → Nat → Nat) (cA : Nat → ClassId) (ws : va_W) (cas : List Value) (PO : List Value → va_W → Prop) : Prop :=
  ∀ (p : Program) (e : Env) (R : Room) (s : State) (m : MethodId) (args : Array Value) (below : List Frame) (meth : Method) (c : Code) (Q : State → Prop) (A : Nat → Prop) (ls : Array Slot), sF d me EX p R s m args c dC dI cA A → va_P (dC, dI) vwCl ws s.heap → va_D A ws → lv_has ls me.2.2.2.1 (lv_args 0 cas) →
    (∀ (pc' : Nat) (ls' : Array Slot) (r : List Value) (ws' : va_W) (H : Heap) (locs : List Loc) (nc ns : Nat), sret me pc' r → PO r ws' → va_P (dC, dI) vwCl ws' H → va_D A ws' → va_S A s.heap H locs → nc ≤ me.2.2.2.2.2.1 → ns ≤ me.2.2.2.2.2.2 → W p l e R s m args below meth c H locs nc ns Q (F0 m pc' ls' r)) →
    W p l e R s m args below meth c s.heap [] 0 0 Q (F0 m 0 ls [])
def sB (EX : SEx) (dC : Nat → ClassId) (dI : Nat → Nat → Nat) (cA : Nat → ClassId) (ws : va_W) (sz : Nat) (U : State) : Prop := U.heap.size = sz ∧ va_P (dC, dI) vwCl ws U.heap ∧ va_K (dC, dI) vwCl (ztys cA) U ∧ va_D (fun _ => True) ws ∧ EX (va_A ws sz) U U.heap
section SCA
variable {EX : SEx} {d : Nat} {own : String} {y : MethodName} {cc : ByteArray} {mL bc bs : Nat} {l : Launch} {dC : Nat → ClassId} {dI : Nat → Nat → Nat} {cA : Nat → ClassId} {cas : List Value} {ws : va_W} {sz : Nat} {PO : List Value → va_W → Prop}
theorem sB_blind (hEX : sEXok EX) : FrameBlind (va_Pc cas (sB EX dC dI cA ws sz)) := by
  intro a U g mk q
  obtain ⟨q0, q1, qP, qK, qD, qX⟩ := q
  exact ⟨q0, q1, qP, va_K.moved (u := U) (U := U.calling g mk a) (Vm.Alike.refl U.vm) qK, qD, hEX.2.2.2.1 _ U (U.calling g mk a) _ rfl qX⟩
theorem smetv (hpl : Jvm.plainName y.cls = true) (hoy : own = y.cls) (hlen : (lg_sl cas).length ≤ mL) (H0 : sRun d (own, y, cc, mL, none, bc, bs) EX l dC dI cA ws cas PO) :
    Met l y (.code y cc mL none :: zT) { frames := d, cells := bc, slots := bs, locals := 40 * d } (va_Pc cas (sB EX dC dI cA ws sz)) (va_Qv (PO []) (zend dC dI cA (va_A ws sz)) (va_A ws sz)) bc bs (va_A ws sz) := by
  refine Met.ofW (cc := cc) (maxL := mL) (ret := none) hpl rfl ?_
  intro p e s m args below meth c s₁ B hml hv
  obtain ⟨rfl, hsz, hP, hK, hD0, hE9⟩ := hv
  have hx := B.exec
  have hb := B.bytes
  have hr := B.returns
  have hts := atoms_spec (ws := .code y cc mL none :: zT) B.pre
  have hown : s.vm.findClass y.cls = some m.cls := findClass_of_methodNamed B.named
  have hlocks := B.notSynchronized
  subst hsz
  have hD := hD0.self (sz := s.heap.size)
  have hl := lv_entry cas (n := mL) hlen
  rw [lg_entry_eq]
  generalize (lg_sl cas ++ List.replicate (mL - (lg_sl cas).length) Slot.unset).toArray = ls at hl ⊢
  refine H0 p e _ s m _ below meth c _ (va_A ws s.heap.size) ls ⟨hx, hb, hml, by rw [hoy]; exact hown, fun w hw => hts w (List.mem_cons_of_mem _ hw), hK, fun q h => Or.inr h, ⟨Nat.le_refl _, Nat.le_refl _⟩, ⟨Nat.le_refl _, Nat.le_refl _⟩, hE9⟩ hP hD hl ?_
  intro pc' ls' r ws' H locs nc ns h1 h2 h3 h4 h5 h6 h7
  obtain ⟨hdec, rfl⟩ := (show decode cc pc' = .ok (.return_, 1) ∧ r = [] from h1)
  refine W.widen h6 h7 ?_
  exact W.vret hx hb hr (fun t ht hW => ⟨⟨ws', rfl, h2, by rw [ht]; exact h3, va_K.moved hW.alike hK, h4⟩, h5.F ht⟩) h5.2.2 hdec
theorem smeti {ty : FieldType} (hpl : Jvm.plainName y.cls = true) (hoy : own = y.cls) (hlen : (lg_sl cas).length ≤ mL) (H0 : sRun d (own, y, cc, mL, some ty, bc, bs) EX l dC dI cA ws cas PO) :
    Met l y (.code y cc mL (some ty) :: zT) { frames := d, cells := bc, slots := bs, locals := 40 * d } (va_Pc cas (sB EX dC dI cA ws sz)) (va_Qi (fun x u => PO [.int x] u) (zend dC dI cA (va_A ws sz)) (va_A ws sz)) bc bs (va_A ws sz) := by
  refine Met.ofW (cc := cc) (maxL := mL) (ret := some ty) hpl rfl ?_
  intro p e s m args below meth c s₁ B hml hv
  obtain ⟨rfl, hsz, hP, hK, hD0, hE9⟩ := hv
  have hx := B.exec
  have hb := B.bytes
  have hr := B.returns
  have hts := atoms_spec (ws := .code y cc mL (some ty) :: zT) B.pre
  have hown : s.vm.findClass y.cls = some m.cls := findClass_of_methodNamed B.named
  have hlocks := B.notSynchronized
  subst hsz
  have hD := hD0.self (sz := s.heap.size)
  have hl := lv_entry cas (n := mL) hlen
  rw [lg_entry_eq]
  generalize (lg_sl cas ++ List.replicate (mL - (lg_sl cas).length) Slot.unset).toArray = ls at hl ⊢
  refine H0 p e _ s m _ below meth c _ (va_A ws s.heap.size) ls ⟨hx, hb, hml, by rw [hoy]; exact hown, fun w hw => hts w (List.mem_cons_of_mem _ hw), hK, fun q h => Or.inr h, ⟨Nat.le_refl _, Nat.le_refl _⟩, ⟨Nat.le_refl _, Nat.le_refl _⟩, hE9⟩ hP hD hl ?_
  intro pc' ls' r ws' H locs nc ns h1 h2 h3 h4 h5 h6 h7
  obtain ⟨hdec, x, rfl, hnar⟩ := (show decode cc pc' = .ok (.ireturn, 1) ∧ ∃ x : Int32, r = [.int x] ∧ narrow ty (.int x) = .int x from h1)
  refine W.widen h6 h7 ?_
  exact W.zret hx hb hr hnar (fun t ht hW => ⟨⟨x, ws', rfl, h2, by rw [ht]; exact h3, va_K.moved hW.alike hK, h4⟩, h5.F ht⟩) h5.2.2 hdec
end SCA
section SCB
variable {EX : SEx} {p : Program} {l : Launch} {e : Env} {R : Room} {s : State} {m : MethodId} {args : Array Value} {below : List Frame} {meth : Method} {c : Code} {dC : Nat → ClassId} {dI : Nat → Nat → Nat} {cA : Nat → ClassId} {A : Nat → Prop} {nL : Nat} {cc : ByteArray} {pc : Nat} {nc ns : Nat} {own : String}
/-- the call itself, by its kind -/
theorem srun (hEX : sEXok EX) {y : MethodName} {idx kd n mL mc ms d' : Nat} {rt : Option FieldType} {bytes : ByteArray} {ins : Instr} {Qc : Array Value → State → Outcome → State → Prop} {ws : va_W} {H : Heap} {locs : List Loc} {ls : Array Slot} {cst cas crest : List Value}
    (hx : p.tables.exec = Jvm.exec) (hb : c.code = cc) (hml : c.maxLocals = nL) (hown : s.vm.findClass own = some m.cls) (hts : ∀ w ∈ zT, w.before args s = true) (hKv : va_K (dC, dI) vwCl (ztys cA) s) (hP : va_P (dC, dI) vwCl ws H) (hD : va_D A ws) (hls : ls.size = nL)
    (hM : Met l y (.code y bytes mL rt :: zT) { frames := d', cells := mc, slots := ms, locals := 40 * d' } (va_Pc cas (sB EX dC dI cA ws H.size)) Qc mc ms (va_A ws H.size))
    (hz9 : EX A s H) (hAA : ∀ q, va_A ws H.size q → A q) (hw : ∀ w ∈ zcw own idx kd y bytes mL rt, w ∈ zT) (hnest : kd = 1 ∨ kd = 5 → Cond.methodLinkNest own idx y "NamesUnder" ∈ zNl) (hd : y.cls ≠ "java/lang/invoke/MethodHandle" ∧ y.cls ≠ "java/lang/invoke/VarHandle" ∧ (parseMethodDescriptor y.desc).map (fun d => d.parameters.length) = some n) (hm : mL ≤ 21) (hk4 : kd ≤ 2)
    (hR : d' + 1 ≤ R.frames ∧ 40 * (d' + 1) ≤ R.locals) (hf : nc + mc ≤ R.cells ∧ ns + ms ≤ R.slots)
    (hst : cst = cas.reverse ++ crest) (h8 : (crest.map fun v => v.category).sum ≤ 8) (hn : cas.length = if kd ≤ 1 then n else n + 1)
    (hrc : 2 ≤ kd → ∃ (b : Nat) (as2 : List Value), cas = .ref b :: as2 ∧ (kd = 2 → ∃ cell : Cell, H[b]? = some cell ∧ cell.vm.isStatics = false ∧ s.vm.findClass y.cls = some cell.cls))
    (hins : (kd = 0 ∨ kd = 1) ∧ ins = .invokestatic idx ∨ kd = 2 ∧ ins = .invokevirtual idx) (hdg : decode cc pc = .ok (ins, 3)) :
    va_Run p l e R s m args below meth c H locs nc ns mc ms (F0 m pc ls cst) crest (Qc cas.toArray) (va_A ws H.size) := by
  have hroom := lv_room (m := m) (pc := pc) (ls := ls) (rest := cst) h8
  have hpre : ∀ U : State, U.heap = H → s.WarmedH U.vm → va_Pc cas (sB EX dC dI cA ws H.size) cas.toArray U := fun U hU hW => ⟨rfl, by rw [hU], by rw [hU]; exact hP, va_K.moved hW.alike hKv, hD.weaken (fun _ _ _ _ => trivial), by rw [hU]; exact hEX.2.2.1 _ s U H hW (hEX.2.1 _ _ _ _ hz9 hAA)⟩
  have hR2 : 8 + (mL + 11) + 40 * d' ≤ R.locals := by omega
  have hzX := hEX.2.2.2.2 _ _ _ hz9
  rcases hins with ⟨h0 | h0, rfl⟩ | ⟨h0, rfl⟩
  · subst h0
    rw [if_pos (by decide)] at hn
    have w1 := hw (.methodLink own idx y) (by simp [zcw])
    have w2 := hw (.static y) (by simp [zcw])
    have w3 := hw (.initialized y.cls) (by simp [zcw])
    have w4 := hw (.code y bytes mL rt) (by simp [zcw])
    exact va_runS (Ts := zT) (own := own) ⟨hx, hb, hml, hown, hts⟩ hM ⟨callB_of n hts (zT_good1 w4) rfl rfl rfl (hts _ w3) (hts _ w1) hd ⟨hR.1, hR2⟩, hts _ w2⟩ ⟨sB_blind hEX, hpre⟩ rfl hn hls hst hroom hdg hf
  · subst h0
    rw [if_pos (by decide)] at hn
    have w1 := hzX.1 _ (hnest (Or.inl rfl))
    have w2 := hw (.static y) (by simp [zcw])
    have w3 := hw (.initialized y.cls) (by simp [zcw])
    have w4 := hw (.code y bytes mL rt) (by simp [zcw])
    exact va_runSN (Ts := zT) (own := own) ⟨hx, hb, hml, hown, hts⟩ hM ⟨va_cnB n hts (zT_good1 w4) rfl rfl rfl w1 (hts _ w3) hd ⟨hR.1, hR2⟩, hts _ w2, trivial⟩ ⟨sB_blind hEX, hpre⟩ rfl hn hls hst hroom hdg hf
  · subst h0
    rw [if_neg (by decide)] at hn
    have w1 := hw (.methodLink own idx y) (by simp [zcw])
    have w2 := hw (.instanceMethod y) (by simp [zcw])
    have w3 := hw (.initialized y.cls) (by simp [zcw])
    have w4 := hw (.code y bytes mL rt) (by simp [zcw])
    have w5 := hw (.selects y.cls y y) (by simp [zcw])
    obtain ⟨b, as2, rfl, hcell⟩ := hrc (by decide)
    have hcell := hcell rfl
    exact va_runV (Ts := zT) (own := own) (C := y.cls) (As := as2) (b := b) ⟨hx, hb, hml, hown, hts⟩ hM ⟨callB_of n hts (zT_good1 w4) rfl rfl rfl (hts _ w3) (hts _ w1) hd ⟨hR.1, hR2⟩, hts _ w2, hts _ w5⟩ ⟨sB_blind hEX, hcell, hpre⟩ rfl (by simpa using hn) hls (by rw [hst]; simp) hroom hdg hf
end SCB
