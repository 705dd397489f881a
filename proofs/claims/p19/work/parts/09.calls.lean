/-! calls, and the run -/
def zcw (own : String) (idx kd : Nat) (y : MethodName) (cc : ByteArray) (mL : Nat) (rt : Option FieldType) : List Cond := match kd with
  | 0 => [.methodLink own idx y, .static y, .initialized y.cls, .code y cc mL rt]
  | 1 => [.static y, .initialized y.cls, .code y cc mL rt]
  | 2 => [.methodLink own idx y, .instanceMethod y, .initialized y.cls, .code y cc mL rt, .selects y.cls y y]
  | 4 => [.methodLink own idx y, .instanceMethod y, .initialized y.cls, .code y cc mL rt]
  | _ => [.instanceMethod y, .initialized y.cls, .code y cc mL rt]
def zcwk (own : String) (idx kd : Nat) (y : MethodName) (cc : ByteArray) (mL : Nat) (rt : Option FieldType) (is : List Nat) : Bool := cond (Nat.beq kd 1 || Nat.beq kd 5) (match is with
  | i :: is => zinN i (.methodLinkNest own idx y "NamesUnder") && zchk (zcw own idx kd y cc mL rt) is
  | [] => false) (zchk (zcw own idx kd y cc mL rt) is)
theorem zcwk_ok {own : String} {idx kd : Nat} {y : MethodName} {cc : ByteArray} {mL : Nat} {rt : Option FieldType} {is : List Nat} (h : zcwk own idx kd y cc mL rt is = true) : (∀ w ∈ zcw own idx kd y cc mL rt, w ∈ zT) ∧ (kd = 1 ∨ kd = 5 → Cond.methodLinkNest own idx y "NamesUnder" ∈ zNl) := by
  unfold zcwk at h
  cases hk : (Nat.beq kd 1 || Nat.beq kd 5) with
  | true =>
    rw [hk, cond_true] at h
    cases is with
    | nil => cases h
    | cons i is =>
      simp only [Bool.and_eq_true] at h
      exact ⟨zchk_ok h.2, fun _ => zinN_ok h.1⟩
  | false =>
    rw [hk, cond_false] at h
    refine ⟨zchk_ok h, fun q => ?_⟩
    rcases q with rfl | rfl
    · cases hk
    · cases hk
def zcal (zm : List ZMe) (own : String) (idx kd kc n ci : Nat) (is : List Nat) : Bool := match zm[kc]? with
  | some me => zcwk own idx kd me.2.1 me.2.2.1 me.2.2.2.1 me.2.2.2.2.1 is && (decide (me.2.1.cls ≠ "java/lang/invoke/MethodHandle" ∧ me.2.1.cls ≠ "java/lang/invoke/VarHandle" ∧ (parseMethodDescriptor me.2.1.desc).map (fun d => d.parameters.length) = some n) && (Nat.ble me.2.2.2.1 21 && (Jvm.plainName me.2.1.cls && (decide (me.1 = me.2.1.cls) && (cond (Nat.ble kd 1) true (zfl1 ci 0 (fun C _ _ => decide (C = me.2.1.cls))) && (cond (Nat.ble kd 3) true (decide (me.2.1.name = "<init>" ∧ me.2.2.2.2.1 = none)) && !(Nat.beq kc 0)))))))
  | none => false
def zlkc (zm : List ZMe) (own : String) (ins : Instr) (lk : List Nat) : Bool := match ins with
  | .invokespecial idx => (match lk with
    | kd :: kc :: n :: ci :: is => cond (Nat.beq kd 6) (zchk [.methodLink own idx objectInit, .instanceMethod objectInit, .code objectInit ⟨#[0xb1]⟩ 1 none] is) ((Nat.beq kd 4 || Nat.beq kd 5) && zcal zm own idx kd kc n ci is)
    | _ => false)
  | .invokestatic idx => (match lk with
    | kd :: kc :: n :: ci :: is => cond (Nat.beq kd 7) (zchk [.methodLink own idx arraycopyName, .native arraycopyName, .static arraycopyName, .initialized "java/lang/System"] is) (cond (Nat.beq kd 8) (zchk [.methodLink own idx Lib.Math.max.name, .static Lib.Math.max.name, .initialized "java/lang/Math", .code Lib.Math.max.name Lib.Math.max.code 2 (some .int)] is) ((Nat.beq kd 0 || Nat.beq kd 1) && zcal zm own idx kd kc n ci is))
    | _ => false)
  | .invokevirtual idx => (match lk with
    | kd :: kc :: n :: ci :: is => Nat.beq kd 2 && zcal zm own idx kd kc n ci is
    | _ => false)
  | _ => true
def zok (zm : List ZMe) (me : ZMe) (q : ZI) : Bool := decide (decode me.2.2.1 q.1 = .ok (q.2.1, q.2.2.1)) && (zlok q.2.1 q.2.2.1 && (zlk0 me.1 me.2.1 q.2.1 q.2.2.2 && zlkc zm me.1 q.2.1 q.2.2.2))
def zTab (zm : List ZMe) (zc : List (List ZI)) : Prop := ∀ (k : Nat) (me : ZMe) (tb : List ZI), zm[k]? = some me → zc[k]? = some tb → ∀ q ∈ tb, zok zm me q = true
noncomputable def zft (tb : List ZI) (pc : Nat) : Option ZI := List.rec (motive := fun _ => Option ZI) none (fun q _ ih => cond (Nat.beq q.1 pc) (some q) ih) tb
theorem zft_ok {tb : List ZI} {pc : Nat} {q : ZI} (h : zft tb pc = some q) : q ∈ tb ∧ q.1 = pc := by
  induction tb with
  | nil => cases h
  | cons a r ih =>
    have h2 : cond (Nat.beq a.1 pc) (some a) (zft r pc) = some q := h
    cases hb : Nat.beq a.1 pc with
    | true =>
      rw [hb, cond_true] at h2
      cases h2
      exact ⟨List.mem_cons_self, Nat.beq_eq.mp hb⟩
    | false =>
      rw [hb, cond_false] at h2
      exact ⟨List.mem_cons_of_mem _ (ih h2).1, (ih h2).2⟩
def zstop (rt : Option FieldType) (i : Instr) : Bool := match rt with
  | none => (match i with
    | .return_ => true
    | _ => false)
  | some _ => (match i with
    | .ireturn => true
    | _ => false)
def zrt (ty : FieldType) (v : Value) : Bool := match ty with
  | .int => zkd 0 v
  | .boolean => zkd 1 v
  | _ => false
def zrcv (hp : List ZE) (v : Option Value) (q : Nat → Option ZE) (ci : Nat) : Bool := match v with
  | some (.ref k) => (match q k with
    | some (.inr x) => Nat.beq x.1 ci
    | _ => false)
  | _ => false
noncomputable def zback (me : ZMe) (bc bs : Nat) (rest : List Value) (pc : Nat) (lv : ZL) (nc ns : Nat) (r : ZS) (ret : ZRt) : ZX :=
  cond (Nat.ble r.2.2.2.2.1 bc && Nat.ble r.2.2.2.2.2 bs) (zn (nc + bc) (fun nc' => zn (ns + bs) (fun ns' => match me.2.2.2.2.1, r.2.2.1 with
    | none, [] => ret (pc + 3) lv rest r.2.2.2.1 nc' ns'
    | some ty, [v] => cond (zrt ty v) (ret (pc + 3) lv (v :: rest) r.2.2.2.1 nc' ns') zfail
    | _, _ => zfail))) zfail
noncomputable def zfin (zc : List (List ZI)) (kc : Nat) (rt : Option FieldType) (pc : Nat) (x : ZX) : ZX := match zget zc kc with
  | some tb => (match zft tb pc with
    | some q => cond (zstop rt q.2.1) x zfail
    | none => zfail)
  | none => zfail
theorem zfin_ok {zc : List (List ZI)} {kc pc : Nat} {rt : Option FieldType} {x : ZX} {r : ZS} (h : zfin zc kc rt pc x = .ok r) : (∃ (tb : List ZI) (q : ZI), zc[kc]? = some tb ∧ q ∈ tb ∧ q.1 = pc ∧ zstop rt q.2.1 = true) ∧ x = .ok r := by
  unfold zfin at h
  rw [zget_eq] at h
  cases hc : zc[kc]? with
  | none => rw [hc] at h; cases h
  | some tb =>
    rw [hc] at h
    simp only at h
    cases hf : zft tb pc with
    | none => rw [hf] at h; cases h
    | some q =>
      rw [hf] at h
      simp only at h
      cases hs : zstop rt q.2.1 with
      | false => rw [hs] at h; cases h
      | true =>
        rw [hs, cond_true] at h
        exact ⟨⟨tb, q, rfl, (zft_ok hf).1, (zft_ok hf).2, hs⟩, h⟩
noncomputable def zinv (zm : List ZMe) (zc : List (List ZI)) (rec9 : Nat → Nat → ZRt) (k d bc bs kd kc n ci : Nat) (pc : Nat) (lv : ZL) (st : List Value) (hp : List ZE) (nc ns : Nat) : ZX := match zget zm kc with
  | some me => zn (cond (Nat.ble kd 1) n (n + 1)) (fun na => cond (Nat.beq (st.take na).length na && (Nat.ble ((st.drop na).map fun v => v.category).sum 8 && (Nat.ble ((st.take na).map fun v => v.category).sum me.2.2.2.1 && (Nat.ble (nc + me.2.2.2.2.2.1) bc && (Nat.ble (ns + me.2.2.2.2.2.2) bs && cond (Nat.ble kd 1) true (zrcv hp (zget st n) (zget hp) ci))))))
      (Nat.rec (motive := fun _ => ZX) zfail (fun d' _ => zfl (st.take na).reverse (fun as => zfl (st.drop na) (fun rest => zfl (lv_args 0 as) (fun la => match rec9 kc d' 0 la [] hp 0 0 with
        | .error x => .error x
        | .ok r => zfin zc kc me.2.2.2.2.1 r.1 (zback me me.2.2.2.2.2.1 me.2.2.2.2.2.2 rest pc lv nc ns r (rec9 k d)))))) d) zfail)
  | none => zfail
noncomputable def zcl (zm : List ZMe) (zc : List (List ZI)) (E : ZN) (rec9 : Nat → Nat → ZRt) (k d bc bs : Nat) (lk : List Nat) (pc : Nat) (lv : ZL) (st : List Value) (hp : List ZE) (nc ns : Nat) : ZX := match lk with
  | kd :: kc :: n :: ci :: _ => cond (Nat.beq kd 6) (cond (Nat.ble 1 d) (zx_obj pc lv st hp nc ns (rec9 k d)) zfail) (cond (Nat.beq kd 7) (cond (Nat.ble 1 d) (zx_cpy E pc lv st hp nc ns (rec9 k d)) zfail) (cond (Nat.beq kd 8) (cond (Nat.ble 1 d) (zx_max E bc bs pc lv st hp nc ns (rec9 k d)) zfail) (zinv zm zc rec9 k d bc bs kd kc n ci pc lv st hp nc ns)))
  | _ => zfail
noncomputable def zdo (zm : List ZMe) (zc : List (List ZI)) (zd : List (List Value)) (E : ZN) (L : Nat) (rec9 : Nat → Nat → ZRt) (k d : Nat) (me : ZMe) (ins : Instr) (lk : List Nat) (pc : Nat) (lv : ZL) (st : List Value) (hp : List ZE) (nc ns : Nat) : ZX := match ins with
  | .invokespecial _ => zcl zm zc E rec9 k d me.2.2.2.2.2.1 me.2.2.2.2.2.2 lk pc lv st hp nc ns
  | .invokestatic _ => zcl zm zc E rec9 k d me.2.2.2.2.2.1 me.2.2.2.2.2.2 lk pc lv st hp nc ns
  | .invokevirtual _ => zcl zm zc E rec9 k d me.2.2.2.2.2.1 me.2.2.2.2.2.2 lk pc lv st hp nc ns
  | ins => zx zd E L k me.2.2.2.1 me.2.2.2.2.2.1 me.2.2.2.2.2.2 ins lk pc lv st hp nc ns (rec9 k d)
noncomputable def zstep (zm : List ZMe) (zc : List (List ZI)) (zd : List (List Value)) (E : ZN) (L sp : Nat) (rec9 : Nat → Nat → ZRt) (k d : Nat) (pc : Nat) (lv : ZL) (st : List Value) (hp : List ZE) (nc ns : Nat) : ZX := zn pc (fun pc => match zget zm k, zget zc k with
  | some me, some tb => (match zft tb pc with
    | some q => cond (zstop me.2.2.2.2.1 q.2.1 || (Nat.beq k 1 && Nat.beq pc sp)) (.ok (pc, lv, st, hp, nc, ns)) (zdo zm zc zd E L rec9 k d me q.2.1 q.2.2.2 pc lv st hp nc ns)
    | none => zfail)
  | _, _ => zfail)
noncomputable def zgo (zm : List ZMe) (zc : List (List ZI)) (zd : List (List Value)) (E : ZN) (L sp : Nat) (n : Nat) : Nat → Nat → ZRt := Nat.rec (motive := fun _ => Nat → Nat → ZRt) (fun _ _ _ _ _ _ _ _ => zfail) (fun _ ih => zstep zm zc zd E L sp ih) n
def zF (E : ZN) (L k d : Nat) (me : ZMe) (p : Program) (R : Room) (s : State) (m : MethodId) (args : Array Value) (meth : Method) (c : Code) (dC : Nat → ClassId) (dI : Nat → Nat → Nat) (cA : Nat → ClassId) (g : ZG) (A : Nat → Prop) : Prop :=
  p.tables.exec = Jvm.exec ∧ c.code = me.2.2.1 ∧ c.maxLocals = me.2.2.2.1 ∧ s.vm.findClass me.1 = some m.cls ∧ (∀ w ∈ zT, w.before args s = true) ∧ va_K (dC, dI) vwCl (ztys cA) s ∧ (∀ q, s.heap.size ≤ q → A q) ∧ zen E g ∧ g.1 7 = g.1 0 &&& 31 ∧ (d ≤ R.frames ∧ 40 * d ≤ R.locals) ∧ (me.2.2.2.2.2.1 ≤ R.cells ∧ me.2.2.2.2.2.2 ≤ R.slots) ∧ (me.2.1.name = "<init>" → meth.name = "<init>") ∧ zX s ∧
  (k = 0 → ∃ xs : Nat → Int32, va_X g.2.1 L xs s s.heap ∧ g.2.1 < s.heap.size ∧ ¬ A g.2.1 ∧ (∀ j, j < L → g.1 j = xs j) ∧ L < 2 ^ 31)
def zB (dC : Nat → ClassId) (dI : Nat → Nat → Nat) (cA : Nat → ClassId) (ws : va_W) (sz : Nat) (U : State) : Prop := U.heap.size = sz ∧ va_P (dC, dI) vwCl ws U.heap ∧ va_K (dC, dI) vwCl (ztys cA) U ∧ va_D (fun _ => True) ws ∧ zX U
theorem zB_blind {dC : Nat → ClassId} {dI : Nat → Nat → Nat} {cA : Nat → ClassId} {ws : va_W} {sz : Nat} {cas : List Value} : FrameBlind (va_Pc cas (zB dC dI cA ws sz)) := by
  intro a U g mk q
  obtain ⟨q0, q1, qP, qK, qD, qX⟩ := q
  exact ⟨q0, q1, qP, va_K.moved (u := U) (U := U.calling g mk a) (Vm.Alike.refl U.vm) qK, qD, zX.same (s := U) (U := U.calling g mk a) rfl qX⟩
def zpost (g : ZG) (cA : Nat → ClassId) (hp : List ZE) (ws u : va_W) : Prop := zh g cA hp u ∧ ∀ (k a : Nat), (zad ws)[k]? = some a → (zad u)[k]? = some a
def zend (dC : Nat → ClassId) (dI : Nat → Nat → Nat) (cA : Nat → ClassId) (A : Nat → Prop) (u : va_W) (t : State) : Prop := va_P (dC, dI) vwCl u t.heap ∧ va_K (dC, dI) vwCl (ztys cA) t ∧ va_D A u
/-- a run of a method from its entry to its return is its contract -/
def zRun (E : ZN) (L k d : Nat) (me : ZMe) (l : Launch) (dC : Nat → ClassId) (dI : Nat → Nat → Nat) (cA : Nat → ClassId) (la : ZL) (hp : List ZE) (r : ZS) : Prop :=
  ∀ (p : Program) (e : Env) (R : Room) (s : State) (m : MethodId) (args : Array Value) (below : List Frame) (meth : Method) (c : Code) (Q : State → Prop) (g : ZG) (A : Nat → Prop), zF E L k d me p R s m args meth c dC dI cA g A →
    zW p l e R s m args below meth c Q dC dI cA g A me.2.2.2.1 r.1 r.2.1 r.2.2.1 r.2.2.2.1 r.2.2.2.2.1 r.2.2.2.2.2 → zW p l e R s m args below meth c Q dC dI cA g A me.2.2.2.1 0 la [] hp 0 0
section ZME
variable {E : ZN} {L kc d : Nat} {own : String} {y : MethodName} {cc : ByteArray} {mL bc bs : Nat} {l : Launch} {dC : Nat → ClassId} {dI : Nat → Nat → Nat} {cA : Nat → ClassId} {g : ZG} {as cas : List Value} {hp hp' : List ZE} {ws : va_W} {sz pc' nc' ns' : Nat} {lv' : ZL}
theorem zmetv (hpl : Jvm.plainName y.cls = true) (hoy : own = y.cls) (hkc : ¬ kc = 0) (hE : zen E g) (hg7 : g.1 7 = g.1 0 &&& 31) (hzh : zh g cA hp ws) (hzv : zvs (zad ws) g as cas) (hlen : (lg_sl cas).length ≤ mL) (hnc : nc' ≤ bc) (hns : ns' ≤ bs) (hdec : decode cc pc' = .ok (.return_, 1))
    (H0 : zRun E L kc d (own, y, cc, mL, none, bc, bs) l dC dI cA (lv_args 0 as) hp (pc', lv', [], hp', nc', ns')) :
    Met l y (.code y cc mL none :: zT) { frames := d, cells := bc, slots := bs, locals := 40 * d } (va_Pc cas (zB dC dI cA ws sz)) (va_Qv (zpost (zga g (zad ws)) cA hp' ws) (zend dC dI cA (va_A ws sz)) (va_A ws sz)) bc bs (va_A ws sz) := by
  refine Met.ofW (cc := cc) (maxL := mL) (ret := none) hpl rfl ?_
  intro p e s m args below meth c s₁ B hml hv
  obtain ⟨rfl, hsz, hP, hK, hD0, hz9⟩ := hv
  have hx := B.exec
  have hb := B.bytes
  have hr := B.returns
  have hts := atoms_spec (ws := .code y cc mL none :: zT) B.pre
  have hown : s.vm.findClass y.cls = some m.cls := findClass_of_methodNamed B.named
  have hlocks := B.notSynchronized
  have hin : meth.name = y.name := (name_of_methodNamed B.named B.method).1
  subst hsz
  have hD := hD0.self (sz := s.heap.size)
  have hS : va_S (va_A ws s.heap.size) s.heap s.heap [] := va_S.rf
  have hl := lv_entry cas (n := mL) hlen
  rw [lg_entry_eq]
  generalize (lg_sl cas ++ List.replicate (mL - (lg_sl cas).length) Slot.unset).toArray = ls at hl ⊢
  have F : zF E L kc d (own, y, cc, mL, none, bc, bs) p { frames := d, cells := bc, slots := bs, locals := 40 * d } s m cas.toArray meth c dC dI cA (zga g (zad ws)) (va_A ws s.heap.size) :=
    ⟨hx, hb, hml, by rw [hoy]; exact hown, fun w hw => hts w (List.mem_cons_of_mem _ hw), hK, fun q h => Or.inr h, hE, hg7, ⟨Nat.le_refl _, Nat.le_refl _⟩, ⟨Nat.le_refl _, Nat.le_refl _⟩, fun h => hin.trans h, hz9, fun h => absurd h hkc⟩
  refine H0 p e _ s m _ below meth c _ (zga g (zad ws)) (va_A ws s.heap.size) F ?_ ws s.heap [] ls (lv_args 0 cas) [] ⟨zh_g (g := g) rfl rfl (fun _ _ h => h) hzh, hP, hD, hS, hl, zls_args 0 (zvs_g (g := g) (g' := zga g (zad ws)) rfl rfl hzv), trivial⟩
  intro ws' H locs ls' clv cst ⟨r1, r2, r3, r4, r5, r6, r7⟩
  cases zvs_nil r7
  refine W.widen hnc hns ?_
  exact W.vret hx hb hr (fun t ht hW => ⟨⟨ws', rfl, ⟨r1, r1.2.2⟩, by rw [ht]; exact r2, va_K.moved hW.alike hK, r3⟩, r4.F ht⟩) r4.2.2 hdec
theorem zrt_ok {ad : List Nat} {g : ZG} {ty : FieldType} {v cv : Value} (h : zrt ty v = true) (hv : zv ad g v cv) : ∃ x : Int32, cv = .int x ∧ narrow ty (.int x) = .int x := by
  cases ty with
  | int =>
    obtain ⟨x, rfl⟩ := zint_ok (show zint v = true from h) hv
    exact ⟨x, rfl, rfl⟩
  | boolean =>
    have h1 := (zkd_ok (ty := .boolean) (show zkd 1 v = true from h) rfl hv).1
    cases v with
    | int x =>
      cases (show cv = _ from hv)
      exact ⟨x, rfl, h1⟩
    | _ => cases h
  | _ => cases h
theorem zmeti {ty : FieldType} {v : Value} (hpl : Jvm.plainName y.cls = true) (hoy : own = y.cls) (hkc : ¬ kc = 0) (hE : zen E g) (hg7 : g.1 7 = g.1 0 &&& 31) (hzh : zh g cA hp ws) (hzv : zvs (zad ws) g as cas) (hlen : (lg_sl cas).length ≤ mL) (hnc : nc' ≤ bc) (hns : ns' ≤ bs) (hv9 : zrt ty v = true) (hdec : decode cc pc' = .ok (.ireturn, 1))
    (H0 : zRun E L kc d (own, y, cc, mL, some ty, bc, bs) l dC dI cA (lv_args 0 as) hp (pc', lv', [v], hp', nc', ns')) :
    Met l y (.code y cc mL (some ty) :: zT) { frames := d, cells := bc, slots := bs, locals := 40 * d } (va_Pc cas (zB dC dI cA ws sz)) (va_Qi (fun x u => zpost (zga g (zad ws)) cA hp' ws u ∧ zv (zad u) (zga g (zad ws)) v (.int x)) (zend dC dI cA (va_A ws sz)) (va_A ws sz)) bc bs (va_A ws sz) := by
  refine Met.ofW (cc := cc) (maxL := mL) (ret := some ty) hpl rfl ?_
  intro p e s m args below meth c s₁ B hml hv
  obtain ⟨rfl, hsz, hP, hK, hD0, hz9⟩ := hv
  have hx := B.exec
  have hb := B.bytes
  have hr := B.returns
  have hts := atoms_spec (ws := .code y cc mL (some ty) :: zT) B.pre
  have hown : s.vm.findClass y.cls = some m.cls := findClass_of_methodNamed B.named
  have hlocks := B.notSynchronized
  have hin : meth.name = y.name := (name_of_methodNamed B.named B.method).1
  subst hsz
  have hD := hD0.self (sz := s.heap.size)
  have hS : va_S (va_A ws s.heap.size) s.heap s.heap [] := va_S.rf
  have hl := lv_entry cas (n := mL) hlen
  rw [lg_entry_eq]
  generalize (lg_sl cas ++ List.replicate (mL - (lg_sl cas).length) Slot.unset).toArray = ls at hl ⊢
  have F : zF E L kc d (own, y, cc, mL, some ty, bc, bs) p { frames := d, cells := bc, slots := bs, locals := 40 * d } s m cas.toArray meth c dC dI cA (zga g (zad ws)) (va_A ws s.heap.size) :=
    ⟨hx, hb, hml, by rw [hoy]; exact hown, fun w hw => hts w (List.mem_cons_of_mem _ hw), hK, fun q h => Or.inr h, hE, hg7, ⟨Nat.le_refl _, Nat.le_refl _⟩, ⟨Nat.le_refl _, Nat.le_refl _⟩, fun h => hin.trans h, hz9, fun h => absurd h hkc⟩
  refine H0 p e _ s m _ below meth c _ (zga g (zad ws)) (va_A ws s.heap.size) F ?_ ws s.heap [] ls (lv_args 0 cas) [] ⟨zh_g (g := g) rfl rfl (fun _ _ h => h) hzh, hP, hD, hS, hl, zls_args 0 (zvs_g (g := g) (g' := zga g (zad ws)) rfl rfl hzv), trivial⟩
  intro ws' H locs ls' clv cst ⟨r1, r2, r3, r4, r5, r6, r7⟩
  obtain ⟨cv, cr, rfl, h1, h2⟩ := zvs_cons r7
  cases zvs_nil h2
  obtain ⟨x, rfl, hnar⟩ := zrt_ok hv9 h1
  refine W.widen hnc hns ?_
  exact W.zret hx hb hr hnar (fun t ht hW => ⟨⟨x, ws', rfl, ⟨⟨r1, r1.2.2⟩, h1⟩, by rw [ht]; exact r2, va_K.moved hW.alike hK, r3⟩, r4.F ht⟩) r4.2.2 hdec
end ZME
theorem zT_good : GoodIn zT zT := fun w hw => ⟨hw, good_of_word (List.mem_filter.mp hw).2⟩
theorem zT_good1 {w : Cond} (h : w ∈ zT) : GoodIn zT (w :: zT) := fun v hv => (List.mem_cons.mp hv).elim (fun q => by rw [q]; exact zT_good w h) (zT_good v)
theorem zfree {A : Nat → Prop} {ws : va_W} {H0 H : Heap} {locs : List Loc} (hD : va_D A ws) (hS : va_S A H0 H locs) (hA : ∀ q, H0.size ≤ q → A q) : ∀ q, va_A ws H.size q → A q := by
  intro q h
  rcases h with ⟨k, e, h⟩ | h
  · exact hD.2 k (q, e) h
  · exact hA q (Nat.le_trans hS.1 h)
theorem zslots : ∀ (cas : List Value), (lg_sl cas).length = (cas.map fun v => v.category).sum := by
  intro cas
  induction cas with
  | nil => rfl
  | cons v r ih =>
    have e : lg_sl (v :: r) = (if v.category = 2 then [.val v, .second] else [.val v]) ++ lg_sl r := rfl
    rw [e, List.length_append, ih, List.map_cons, List.sum_cons]
    rcases lv_cat v with h | h
    · rw [h, if_neg (by decide)]
      rfl
    · rw [h, if_pos rfl]
      rfl
section ZCA
variable {p : Program} {l : Launch} {e : Env} {R : Room} {s : State} {m : MethodId} {args : Array Value} {below : List Frame} {meth : Method} {c : Code} {dC : Nat → ClassId} {dI : Nat → Nat → Nat} {cA : Nat → ClassId} {g : ZG} {A : Nat → Prop} {nL : Nat} {cc : ByteArray} {pc : Nat} {nc ns : Nat} {own : String}
/-- the call itself, by its kind -/
theorem zrun {y : MethodName} {idx kd n mL mc ms d' : Nat} {rt : Option FieldType} {bytes : ByteArray} {ins : Instr} {Qc : Array Value → State → Outcome → State → Prop} {ws : va_W} {H : Heap} {locs : List Loc} {ls : Array Slot} {cst cas crest : List Value}
    (hx : p.tables.exec = Jvm.exec) (hb : c.code = cc) (hml : c.maxLocals = nL) (hown : s.vm.findClass own = some m.cls) (hts : ∀ w ∈ zT, w.before args s = true) (hK : va_K (dC, dI) vwCl (ztys cA) s) (hP : va_P (dC, dI) vwCl ws H) (hD : va_D A ws) (hls : ls.size = nL)
    (hM : Met l y (.code y bytes mL rt :: zT) { frames := d', cells := mc, slots := ms, locals := 40 * d' } (va_Pc cas (zB dC dI cA ws H.size)) Qc mc ms (va_A ws H.size))
    (hz9 : zX s) (hw : ∀ w ∈ zcw own idx kd y bytes mL rt, w ∈ zT) (hnest : kd = 1 ∨ kd = 5 → Cond.methodLinkNest own idx y "NamesUnder" ∈ zNl) (hd : y.cls ≠ "java/lang/invoke/MethodHandle" ∧ y.cls ≠ "java/lang/invoke/VarHandle" ∧ (parseMethodDescriptor y.desc).map (fun d => d.parameters.length) = some n) (hm : mL ≤ 21) (hi : kd = 4 ∨ kd = 5 → y.name = "<init>" ∧ rt = none)
    (hR : d' + 1 ≤ R.frames ∧ 40 * (d' + 1) ≤ R.locals) (hf : nc + mc ≤ R.cells ∧ ns + ms ≤ R.slots)
    (hst : cst = cas.reverse ++ crest) (h8 : (crest.map fun v => v.category).sum ≤ 8) (hn : cas.length = if kd ≤ 1 then n else n + 1)
    (hrc : 2 ≤ kd → ∃ (b : Nat) (as2 : List Value), cas = .ref b :: as2 ∧ (kd = 2 → ∃ cell : Cell, H[b]? = some cell ∧ cell.vm.isStatics = false ∧ s.vm.findClass y.cls = some cell.cls))
    (hins : (kd = 0 ∨ kd = 1) ∧ ins = .invokestatic idx ∨ kd = 2 ∧ ins = .invokevirtual idx ∨ (kd = 4 ∨ kd = 5) ∧ ins = .invokespecial idx) (hdg : decode cc pc = .ok (ins, 3)) :
    va_Run p l e R s m args below meth c H locs nc ns mc ms (F0 m pc ls cst) crest (Qc cas.toArray) (va_A ws H.size) := by
  have hroom := lv_room (m := m) (pc := pc) (ls := ls) (rest := cst) h8
  have hpre : ∀ U : State, U.heap = H → s.WarmedH U.vm → va_Pc cas (zB dC dI cA ws H.size) cas.toArray U := fun U hU hW => ⟨rfl, by rw [hU], by rw [hU]; exact hP, va_K.moved hW.alike hK, hD.weaken (fun _ _ _ _ => trivial), hz9.warm hW⟩
  have hR2 : 8 + (mL + 11) + 40 * d' ≤ R.locals := by omega
  rcases hins with ⟨h0 | h0, rfl⟩ | ⟨h0, rfl⟩ | ⟨h0 | h0, rfl⟩
  · subst h0
    rw [if_pos (by decide)] at hn
    have w1 := hw (.methodLink own idx y) (by simp [zcw])
    have w2 := hw (.static y) (by simp [zcw])
    have w3 := hw (.initialized y.cls) (by simp [zcw])
    have w4 := hw (.code y bytes mL rt) (by simp [zcw])
    exact va_runS (Ts := zT) (own := own) ⟨hx, hb, hml, hown, hts⟩ hM ⟨callB_of n hts (zT_good1 w4) rfl rfl rfl (hts _ w3) (hts _ w1) hd ⟨hR.1, hR2⟩, hts _ w2⟩ ⟨zB_blind, hpre⟩ rfl hn hls hst hroom hdg hf
  · subst h0
    rw [if_pos (by decide)] at hn
    have w1 := hz9.1 _ (hnest (Or.inl rfl))
    have w2 := hw (.static y) (by simp [zcw])
    have w3 := hw (.initialized y.cls) (by simp [zcw])
    have w4 := hw (.code y bytes mL rt) (by simp [zcw])
    exact va_runSN (Ts := zT) (own := own) ⟨hx, hb, hml, hown, hts⟩ hM ⟨va_cnB n hts (zT_good1 w4) rfl rfl rfl w1 (hts _ w3) hd ⟨hR.1, hR2⟩, hts _ w2, trivial⟩ ⟨zB_blind, hpre⟩ rfl hn hls hst hroom hdg hf
  · subst h0
    rw [if_neg (by decide)] at hn
    have w1 := hw (.methodLink own idx y) (by simp [zcw])
    have w2 := hw (.instanceMethod y) (by simp [zcw])
    have w3 := hw (.initialized y.cls) (by simp [zcw])
    have w4 := hw (.code y bytes mL rt) (by simp [zcw])
    have w5 := hw (.selects y.cls y y) (by simp [zcw])
    obtain ⟨b, as2, rfl, hcell⟩ := hrc (by decide)
    have hcell := hcell rfl
    exact va_runV (Ts := zT) (own := own) (C := y.cls) (As := as2) (b := b) ⟨hx, hb, hml, hown, hts⟩ hM ⟨callB_of n hts (zT_good1 w4) rfl rfl rfl (hts _ w3) (hts _ w1) hd ⟨hR.1, hR2⟩, hts _ w2, hts _ w5⟩ ⟨zB_blind, hcell, hpre⟩ rfl (by simpa using hn) hls (by rw [hst]; simp) hroom hdg hf
  · subst h0
    rw [if_neg (by decide)] at hn
    have w1 := hw (.methodLink own idx y) (by simp [zcw])
    have w2 := hw (.instanceMethod y) (by simp [zcw])
    have w3 := hw (.initialized y.cls) (by simp [zcw])
    have w4 := hw (.code y bytes mL rt) (by simp [zcw])
    obtain ⟨b, as2, rfl, -⟩ := hrc (by decide)
    obtain ⟨i1, rfl⟩ := hi (Or.inl rfl)
    exact va_runI (Ts := zT) (own := own) (As := as2) (b := b) ⟨hx, hb, hml, hown, hts⟩ hM ⟨callB_of n hts (zT_good1 w4) rfl rfl rfl (hts _ w3) (hts _ w1) hd ⟨hR.1, hR2⟩, i1, hts _ w2⟩ ⟨zB_blind, hpre⟩ rfl (by simpa using hn) hls (by rw [hst]; simp) hroom hdg hf
  · subst h0
    rw [if_neg (by decide)] at hn
    have w1 := hz9.1 _ (hnest (Or.inr rfl))
    have w2 := hw (.instanceMethod y) (by simp [zcw])
    have w3 := hw (.initialized y.cls) (by simp [zcw])
    have w4 := hw (.code y bytes mL rt) (by simp [zcw])
    obtain ⟨b, as2, rfl, -⟩ := hrc (by decide)
    obtain ⟨i1, rfl⟩ := hi (Or.inr rfl)
    exact va_runIN (Ts := zT) (own := own) (As := as2) (b := b) ⟨hx, hb, hml, hown, hts⟩ hM ⟨va_cnB n hts (zT_good1 w4) rfl rfl rfl w1 (hts _ w3) hd ⟨hR.1, hR2⟩, i1, hts _ w2⟩ ⟨zB_blind, hpre⟩ rfl (by simpa using hn) hls (by rw [hst]; simp) hroom hdg hf
end ZCA
