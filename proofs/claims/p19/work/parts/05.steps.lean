/-! steps: each is the machine's own -/
abbrev ZRt : Type := Nat → ZL → List Value → List ZE → Nat → Nat → ZX
def zT : List Cond := lw_tbl.filter goodWord
def zrel (dC : Nat → ClassId) (dI : Nat → Nat → Nat) (cA : Nat → ClassId) (g : ZG) (A : Nat → Prop) (H0 : Heap) (nL : Nat) (lv : ZL) (st : List Value) (hp : List ZE) (ws : va_W) (H : Heap) (locs : List Loc) (ls : Array Slot) (clv : ZL) (cst : List Value) : Prop :=
  zh g cA hp ws ∧ va_P (dC, dI) vwCl ws H ∧ va_D A ws ∧ va_S A H0 H locs ∧ lv_has ls nL clv ∧ zls (zad ws) g lv clv ∧ zvs (zad ws) g st cst
def zW (p : Program) (l : Launch) (e : Env) (R : Room) (s : State) (m : MethodId) (args : Array Value) (below : List Frame) (meth : Method) (c : Code) (Q : State → Prop) (dC : Nat → ClassId) (dI : Nat → Nat → Nat) (cA : Nat → ClassId) (g : ZG) (A : Nat → Prop) (nL : Nat) (pc : Nat) (lv : ZL) (st : List Value) (hp : List ZE) (nc ns : Nat) : Prop :=
  ∀ (ws : va_W) (H : Heap) (locs : List Loc) (ls : Array Slot) (clv : ZL) (cst : List Value), zrel dC dI cA g A s.heap nL lv st hp ws H locs ls clv cst → W p l e R s m args below meth c H locs nc ns Q (F0 m pc ls cst)
theorem zblt {i n : Nat} (h : Nat.blt i n = true) : i < n := Nat.le_of_ble_eq_true h
section ZST
variable {p : Program} {l : Launch} {e : Env} {R : Room} {s : State} {m : MethodId} {args : Array Value} {below : List Frame} {meth : Method} {c : Code} {Q : State → Prop} {dC : Nat → ClassId} {dI : Nat → Nat → Nat} {cA : Nat → ClassId} {g : ZG} {A : Nat → Prop} {nL : Nat} {cc : ByteArray} {pc : Nat} {lv : ZL} {st : List Value} {hp : List ZE} {nc ns : Nat} {ret : ZRt} {r : ZS} {E : ZN} {own : String}
theorem zs_push {v : Value} {n : Nat} (hv : ∀ ad, zv ad g v v) (hrow : ∀ (H : Heap) (locs : List Loc) (ls : Array Slot) (cst : List Value), W p l e R s m args below meth c H locs nc ns Q (F0 m (pc + n) ls (v :: cst)) → W p l e R s m args below meth c H locs nc ns Q (F0 m pc ls cst)) (k : zW p l e R s m args below meth c Q dC dI cA g A nL (pc + n) lv (v :: st) hp nc ns) : zW p l e R s m args below meth c Q dC dI cA g A nL pc lv st hp nc ns := by
  intro ws H locs ls clv cst ⟨r1, r2, r3, r4, r5, r6, r7⟩
  exact hrow _ _ _ _ (k ws H locs ls clv (v :: cst) ⟨r1, r2, r3, r4, r5, r6, hv _, r7⟩)
/-- a local read -/
noncomputable def zx_ld (f : Value → Bool) (i n pc : Nat) (lv : ZL) (st : List Value) (hp : List ZE) (nc ns : Nat) (ret : ZRt) : ZX := match zlk lv i with
  | some v => cond (f v) (ret (pc + n) lv (v :: st) hp nc ns) zfail
  | none => zfail
theorem zx_ld_ok {f : Value → Bool} {i n : Nat} (h : zx_ld f i n pc lv st hp nc ns ret = .ok r) : ∃ v, zlk lv i = some v ∧ f v = true ∧ ret (pc + n) lv (v :: st) hp nc ns = .ok r := by
  unfold zx_ld at h
  cases hl : zlk lv i with
  | none => simp only [hl] at h; cases h
  | some v =>
    simp only [hl] at h
    cases hf : f v with
    | false => rw [hf] at h; cases h
    | true => rw [hf] at h; exact ⟨v, rfl, hf, h⟩
theorem zs_lv {ad : List Nat} {ls : Array Slot} {clv : ZL} {i : Nat} {v : Value} (r5 : lv_has ls nL clv) (r6 : zls ad g lv clv) (h : zlk lv i = some v) : ∃ (k : Nat) (cv : Value), clv[k]? = some (i, cv) ∧ ls[i]? = some (.val cv) ∧ zv ad g v cv := by
  obtain ⟨k, hk⟩ := zlk_at h
  obtain ⟨cv, h1, h2⟩ := zls_get r6 hk
  exact ⟨k, cv, h1, lv_at r5 k h1, h2⟩
theorem zs_iload_n (hx : p.tables.exec = Jvm.exec) (hb : c.code = cc) {i : Fin 4} (hdg : decode cc pc = .ok (.iload_n i, 1)) (h : zx_ld zint i.val 1 pc lv st hp nc ns ret = .ok r) (Hk : ∀ (pc : Nat) (lv : ZL) (st : List Value) (hp : List ZE) (nc ns : Nat), ret pc lv st hp nc ns = .ok r → zW p l e R s m args below meth c Q dC dI cA g A nL pc lv st hp nc ns) : zW p l e R s m args below meth c Q dC dI cA g A nL pc lv st hp nc ns := by
  obtain ⟨v, h1, h2, h3⟩ := zx_ld_ok h
  intro ws H locs ls clv cst ⟨r1, r2, r3, r4, r5, r6, r7⟩
  obtain ⟨k, cv, -, h4, h5⟩ := zs_lv r5 r6 h1
  obtain ⟨x, rfl⟩ := zint_ok h2 h5
  exact lv_iload_n hx hb hdg rfl h4 (Hk _ _ _ _ _ _ h3 ws H locs ls clv _ ⟨r1, r2, r3, r4, r5, r6, h5, r7⟩)
theorem zs_iload (hx : p.tables.exec = Jvm.exec) (hb : c.code = cc) {i : Nat} (hdg : decode cc pc = .ok (.iload i, 2)) (h : zx_ld zint i 2 pc lv st hp nc ns ret = .ok r) (Hk : ∀ (pc : Nat) (lv : ZL) (st : List Value) (hp : List ZE) (nc ns : Nat), ret pc lv st hp nc ns = .ok r → zW p l e R s m args below meth c Q dC dI cA g A nL pc lv st hp nc ns) : zW p l e R s m args below meth c Q dC dI cA g A nL pc lv st hp nc ns := by
  obtain ⟨v, h1, h2, h3⟩ := zx_ld_ok h
  intro ws H locs ls clv cst ⟨r1, r2, r3, r4, r5, r6, r7⟩
  obtain ⟨k, cv, -, h4, h5⟩ := zs_lv r5 r6 h1
  obtain ⟨x, rfl⟩ := zint_ok h2 h5
  exact lv_iload hx hb hdg h4 (Hk _ _ _ _ _ _ h3 ws H locs ls clv _ ⟨r1, r2, r3, r4, r5, r6, h5, r7⟩)
theorem zs_aload_n (hx : p.tables.exec = Jvm.exec) (hb : c.code = cc) {i : Fin 4} (hdg : decode cc pc = .ok (.aload_n i, 1)) (h : zx_ld zref i.val 1 pc lv st hp nc ns ret = .ok r) (Hk : ∀ (pc : Nat) (lv : ZL) (st : List Value) (hp : List ZE) (nc ns : Nat), ret pc lv st hp nc ns = .ok r → zW p l e R s m args below meth c Q dC dI cA g A nL pc lv st hp nc ns) : zW p l e R s m args below meth c Q dC dI cA g A nL pc lv st hp nc ns := by
  obtain ⟨v, h1, h2, h3⟩ := zx_ld_ok h
  intro ws H locs ls clv cst ⟨r1, r2, r3, r4, r5, r6, r7⟩
  obtain ⟨k, cv, -, h4, h5⟩ := zs_lv r5 r6 h1
  obtain ⟨x, rfl⟩ := zref_ok h2 h5
  exact lv_aload_n hx hb hdg rfl h4 (Hk _ _ _ _ _ _ h3 ws H locs ls clv _ ⟨r1, r2, r3, r4, r5, r6, h5, r7⟩)
theorem zs_aload (hx : p.tables.exec = Jvm.exec) (hb : c.code = cc) {i : Nat} (hdg : decode cc pc = .ok (.aload i, 2)) (h : zx_ld zref i 2 pc lv st hp nc ns ret = .ok r) (Hk : ∀ (pc : Nat) (lv : ZL) (st : List Value) (hp : List ZE) (nc ns : Nat), ret pc lv st hp nc ns = .ok r → zW p l e R s m args below meth c Q dC dI cA g A nL pc lv st hp nc ns) : zW p l e R s m args below meth c Q dC dI cA g A nL pc lv st hp nc ns := by
  obtain ⟨v, h1, h2, h3⟩ := zx_ld_ok h
  intro ws H locs ls clv cst ⟨r1, r2, r3, r4, r5, r6, r7⟩
  obtain ⟨k, cv, -, h4, h5⟩ := zs_lv r5 r6 h1
  obtain ⟨x, rfl⟩ := zref_ok h2 h5
  exact lv_aload hx hb hdg h4 (Hk _ _ _ _ _ _ h3 ws H locs ls clv _ ⟨r1, r2, r3, r4, r5, r6, h5, r7⟩)
/-- a local written -/
noncomputable def zx_st (f : Value → Bool) (nL i n pc : Nat) (lv : ZL) (st : List Value) (hp : List ZE) (nc ns : Nat) (ret : ZRt) : ZX := match st with
  | v :: st' => cond (f v && Nat.blt i nL) (zfl (lv.filter (zkeep i)) (fun lr => ret (pc + n) ((i, v) :: lr) st' hp nc ns)) zfail
  | [] => zfail
theorem zx_st_ok {f : Value → Bool} {i n : Nat} (h : zx_st f nL i n pc lv st hp nc ns ret = .ok r) : ∃ v st', st = v :: st' ∧ f v = true ∧ i < nL ∧ ret (pc + n) ((i, v) :: lv.filter (zkeep i)) st' hp nc ns = .ok r := by
  cases st with
  | nil => cases h
  | cons v st' =>
    simp only [zx_st] at h
    cases hf : (f v && Nat.blt i nL) with
    | false => rw [hf] at h; cases h
    | true =>
      rw [hf, cond_true, zfl_eq] at h
      rw [Bool.and_eq_true] at hf
      exact ⟨v, st', rfl, hf.1, zblt hf.2, h⟩
theorem zs_istore_n (hx : p.tables.exec = Jvm.exec) (hb : c.code = cc) {i : Fin 4} (hdg : decode cc pc = .ok (.istore_n i, 1)) (h : zx_st zint nL i.val 1 pc lv st hp nc ns ret = .ok r) (Hk : ∀ (pc : Nat) (lv : ZL) (st : List Value) (hp : List ZE) (nc ns : Nat), ret pc lv st hp nc ns = .ok r → zW p l e R s m args below meth c Q dC dI cA g A nL pc lv st hp nc ns) : zW p l e R s m args below meth c Q dC dI cA g A nL pc lv st hp nc ns := by
  obtain ⟨v, st', rfl, h2, h3, h4⟩ := zx_st_ok h
  intro ws H locs ls clv cst ⟨r1, r2, r3, r4, r5, r6, r7⟩
  obtain ⟨cv, cr, rfl, h5, h6⟩ := zvs_cons r7
  obtain ⟨x, rfl⟩ := zint_ok h2 h5
  exact lv_istore_n hx hb hdg rfl r5 h3 rfl (fun ls' hl' => Hk _ _ _ _ _ _ h4 ws H locs ls' _ _ ⟨r1, r2, r3, r4, hl', ⟨rfl, h5, zls_filter i.val r6⟩, h6⟩)
theorem zs_istore (hx : p.tables.exec = Jvm.exec) (hb : c.code = cc) {i : Nat} (hdg : decode cc pc = .ok (.istore i, 2)) (h : zx_st zint nL i 2 pc lv st hp nc ns ret = .ok r) (Hk : ∀ (pc : Nat) (lv : ZL) (st : List Value) (hp : List ZE) (nc ns : Nat), ret pc lv st hp nc ns = .ok r → zW p l e R s m args below meth c Q dC dI cA g A nL pc lv st hp nc ns) : zW p l e R s m args below meth c Q dC dI cA g A nL pc lv st hp nc ns := by
  obtain ⟨v, st', rfl, h2, h3, h4⟩ := zx_st_ok h
  intro ws H locs ls clv cst ⟨r1, r2, r3, r4, r5, r6, r7⟩
  obtain ⟨cv, cr, rfl, h5, h6⟩ := zvs_cons r7
  obtain ⟨x, rfl⟩ := zint_ok h2 h5
  exact lv_istore hx hb hdg r5 h3 rfl (fun ls' hl' => Hk _ _ _ _ _ _ h4 ws H locs ls' _ _ ⟨r1, r2, r3, r4, hl', ⟨rfl, h5, zls_filter i r6⟩, h6⟩)
theorem zs_astore_n (hx : p.tables.exec = Jvm.exec) (hb : c.code = cc) {i : Fin 4} (hdg : decode cc pc = .ok (.astore_n i, 1)) (h : zx_st zref nL i.val 1 pc lv st hp nc ns ret = .ok r) (Hk : ∀ (pc : Nat) (lv : ZL) (st : List Value) (hp : List ZE) (nc ns : Nat), ret pc lv st hp nc ns = .ok r → zW p l e R s m args below meth c Q dC dI cA g A nL pc lv st hp nc ns) : zW p l e R s m args below meth c Q dC dI cA g A nL pc lv st hp nc ns := by
  obtain ⟨v, st', rfl, h2, h3, h4⟩ := zx_st_ok h
  intro ws H locs ls clv cst ⟨r1, r2, r3, r4, r5, r6, r7⟩
  obtain ⟨cv, cr, rfl, h5, h6⟩ := zvs_cons r7
  obtain ⟨x, rfl⟩ := zref_ok h2 h5
  exact lv_astore_n hx hb hdg rfl r5 h3 rfl (fun ls' hl' => Hk _ _ _ _ _ _ h4 ws H locs ls' _ _ ⟨r1, r2, r3, r4, hl', ⟨rfl, h5, zls_filter i.val r6⟩, h6⟩)
theorem zs_astore (hx : p.tables.exec = Jvm.exec) (hb : c.code = cc) {i : Nat} (hdg : decode cc pc = .ok (.astore i, 2)) (h : zx_st zref nL i 2 pc lv st hp nc ns ret = .ok r) (Hk : ∀ (pc : Nat) (lv : ZL) (st : List Value) (hp : List ZE) (nc ns : Nat), ret pc lv st hp nc ns = .ok r → zW p l e R s m args below meth c Q dC dI cA g A nL pc lv st hp nc ns) : zW p l e R s m args below meth c Q dC dI cA g A nL pc lv st hp nc ns := by
  obtain ⟨v, st', rfl, h2, h3, h4⟩ := zx_st_ok h
  intro ws H locs ls clv cst ⟨r1, r2, r3, r4, r5, r6, r7⟩
  obtain ⟨cv, cr, rfl, h5, h6⟩ := zvs_cons r7
  obtain ⟨x, rfl⟩ := zref_ok h2 h5
  exact lv_astore hx hb hdg r5 h3 rfl (fun ls' hl' => Hk _ _ _ _ _ _ h4 ws H locs ls' _ _ ⟨r1, r2, r3, r4, hl', ⟨rfl, h5, zls_filter i r6⟩, h6⟩)
noncomputable def zx_iinc (nL i : Nat) (n : Int) (pc : Nat) (lv : ZL) (st : List Value) (hp : List ZE) (nc ns : Nat) (ret : ZRt) : ZX := match zlk lv i with
  | some (.int x) => cond (Nat.blt i nL) (zi (x + Int32.ofInt n) (fun y => zfl (lv.filter (zkeep i)) (fun lr => ret (pc + 3) ((i, .int y) :: lr) st hp nc ns))) zfail
  | _ => zfail
theorem zs_iinc (hx : p.tables.exec = Jvm.exec) (hb : c.code = cc) {i : Nat} {n : Int} (hdg : decode cc pc = .ok (.iinc i n, 3)) (h : zx_iinc nL i n pc lv st hp nc ns ret = .ok r) (Hk : ∀ (pc : Nat) (lv : ZL) (st : List Value) (hp : List ZE) (nc ns : Nat), ret pc lv st hp nc ns = .ok r → zW p l e R s m args below meth c Q dC dI cA g A nL pc lv st hp nc ns) : zW p l e R s m args below meth c Q dC dI cA g A nL pc lv st hp nc ns := by
  unfold zx_iinc at h
  cases hl : zlk lv i with
  | none => simp only [hl] at h; cases h
  | some v =>
    cases v with
    | int x =>
      simp only [hl] at h
      cases hf : Nat.blt i nL with
      | false => rw [hf] at h; cases h
      | true =>
        rw [hf, cond_true, zi_eq, zfl_eq] at h
        intro ws H locs ls clv cst ⟨r1, r2, r3, r4, r5, r6, r7⟩
        obtain ⟨k, cv, h3, h4, h5⟩ := zs_lv r5 r6 hl
        cases (show cv = _ from h5)
        exact lv_iinc hx hb hdg r5 h3 rfl (zblt hf) rfl (fun ls' hl' => Hk _ _ _ _ _ _ h ws H locs ls' _ _ ⟨r1, r2, r3, r4, hl', ⟨rfl, rfl, zls_filter i r6⟩, r7⟩)
    | ref k => simp only [hl] at h; cases h
    | double k => simp only [hl] at h; cases h
    | long x => simp only [hl] at h; cases h
    | float x => simp only [hl] at h; cases h
    | null => simp only [hl] at h; cases h
    | retAddr x => simp only [hl] at h; cases h
/-- two ints to one -/
noncomputable def zx_bin (E : ZN) (f : Int32 → Int32 → Int32) (pc : Nat) (lv : ZL) (st : List Value) (hp : List ZE) (nc ns : Nat) (ret : ZRt) : ZX := match st with
  | y :: x :: st' => zI E x (fun a => zI E y (fun b => zi (f a b) (fun z => ret (pc + 1) lv (.int z :: st') hp nc ns)))
  | _ => zfail
theorem zs_bin {f : Int32 → Int32 → Int32} (hE : zen E g) (hrow : ∀ (a b : Int32) (H : Heap) (locs : List Loc) (ls : Array Slot) (cst : List Value), W p l e R s m args below meth c H locs nc ns Q (F0 m (pc + 1) ls (.int (f a b) :: cst)) → W p l e R s m args below meth c H locs nc ns Q (F0 m pc ls (.int b :: .int a :: cst))) (h : zx_bin E f pc lv st hp nc ns ret = .ok r) (Hk : ∀ (pc : Nat) (lv : ZL) (st : List Value) (hp : List ZE) (nc ns : Nat), ret pc lv st hp nc ns = .ok r → zW p l e R s m args below meth c Q dC dI cA g A nL pc lv st hp nc ns) : zW p l e R s m args below meth c Q dC dI cA g A nL pc lv st hp nc ns := by
  match st, h with
  | [], h => cases h
  | [_], h => cases h
  | y :: x :: st', h =>
    intro ws H locs ls clv cst ⟨r1, r2, r3, r4, r5, r6, r7⟩
    obtain ⟨cy, cr, rfl, h5, h6⟩ := zvs_cons r7
    obtain ⟨cx, cr, rfl, h7, h8⟩ := zvs_cons h6
    simp only [zx_bin] at h
    obtain ⟨a, rfl, h⟩ := zI_ok hE h7 h
    obtain ⟨b, rfl, h⟩ := zI_ok hE h5 h
    rw [zi_eq] at h
    exact hrow _ _ _ _ _ _ (Hk _ _ _ _ _ _ h ws H locs ls clv _ ⟨r1, r2, r3, r4, r5, r6, rfl, h8⟩)
noncomputable def zx_div (E : ZN) (f : Int32 → Int32 → Int32) (pc : Nat) (lv : ZL) (st : List Value) (hp : List ZE) (nc ns : Nat) (ret : ZRt) : ZX := match st with
  | y :: x :: st' => zI E x (fun a => zI E y (fun b => cond (decide (b = 0)) zfail (zi (f a b) (fun z => ret (pc + 1) lv (.int z :: st') hp nc ns))))
  | _ => zfail
theorem zs_div {f : Int32 → Int32 → Int32} (hE : zen E g) (hrow : ∀ (a b : Int32) (H : Heap) (locs : List Loc) (ls : Array Slot) (cst : List Value), ¬ b = 0 → W p l e R s m args below meth c H locs nc ns Q (F0 m (pc + 1) ls (.int (f a b) :: cst)) → W p l e R s m args below meth c H locs nc ns Q (F0 m pc ls (.int b :: .int a :: cst))) (h : zx_div E f pc lv st hp nc ns ret = .ok r) (Hk : ∀ (pc : Nat) (lv : ZL) (st : List Value) (hp : List ZE) (nc ns : Nat), ret pc lv st hp nc ns = .ok r → zW p l e R s m args below meth c Q dC dI cA g A nL pc lv st hp nc ns) : zW p l e R s m args below meth c Q dC dI cA g A nL pc lv st hp nc ns := by
  match st, h with
  | [], h => cases h
  | [_], h => cases h
  | y :: x :: st', h =>
    intro ws H locs ls clv cst ⟨r1, r2, r3, r4, r5, r6, r7⟩
    obtain ⟨cy, cr, rfl, h5, h6⟩ := zvs_cons r7
    obtain ⟨cx, cr, rfl, h7, h8⟩ := zvs_cons h6
    simp only [zx_div] at h
    obtain ⟨a, rfl, h⟩ := zI_ok hE h7 h
    obtain ⟨b, rfl, h⟩ := zI_ok hE h5 h
    by_cases hb0 : b = 0
    · rw [decide_eq_true hb0] at h
      cases h
    · rw [decide_eq_false hb0, cond_false, zi_eq] at h
      exact hrow _ _ _ _ _ _ hb0 (Hk _ _ _ _ _ _ h ws H locs ls clv _ ⟨r1, r2, r3, r4, r5, r6, rfl, h8⟩)
/-- the law's own 'script[0] & 31' is token 7 -/
def zis (x y : Value) : Bool := match x, y with
  | .retAddr t, .int b => Nat.beq t 0 && decide (b = 31)
  | _, _ => false
noncomputable def zx_and (E : ZN) (pc : Nat) (lv : ZL) (st : List Value) (hp : List ZE) (nc ns : Nat) (ret : ZRt) : ZX := match st with
  | y :: x :: st' => cond (zis x y) (ret (pc + 1) lv (.retAddr 7 :: st') hp nc ns) (zx_bin E (fun a b => a &&& b) pc lv (y :: x :: st') hp nc ns ret)
  | _ => zfail
theorem zs_and (hx : p.tables.exec = Jvm.exec) (hb : c.code = cc) (hE : zen E g) (hg : g.1 7 = g.1 0 &&& 31) (hdg : decode cc pc = .ok (.iand, 1)) (h : zx_and E pc lv st hp nc ns ret = .ok r) (Hk : ∀ (pc : Nat) (lv : ZL) (st : List Value) (hp : List ZE) (nc ns : Nat), ret pc lv st hp nc ns = .ok r → zW p l e R s m args below meth c Q dC dI cA g A nL pc lv st hp nc ns) : zW p l e R s m args below meth c Q dC dI cA g A nL pc lv st hp nc ns := by
  match st, h with
  | [], h => cases h
  | [_], h => cases h
  | y :: x :: st', h =>
    simp only [zx_and] at h
    cases hz : zis x y with
    | false =>
      rw [hz, cond_false] at h
      exact zs_bin hE (fun a b H locs ls cst k => lv_iand hx hb hdg k) h Hk
    | true =>
      rw [hz, cond_true] at h
      intro ws H locs ls clv cst ⟨r1, r2, r3, r4, r5, r6, r7⟩
      obtain ⟨cy, cr, rfl, h5, h6⟩ := zvs_cons r7
      obtain ⟨cx, cr, rfl, h7, h8⟩ := zvs_cons h6
      cases x with
      | retAddr t =>
        cases y with
        | int b =>
          have hz2 : (Nat.beq t 0 && decide (b = 31)) = true := hz
          rw [Bool.and_eq_true] at hz2
          have ht := Nat.beq_eq.mp hz2.1
          have hb31 := of_decide_eq_true hz2.2
          cases (show cx = _ from h7)
          cases (show cy = _ from h5)
          subst ht
          subst hb31
          refine lv_iand hx hb hdg ?_
          rw [← hg]
          exact Hk _ _ _ _ _ _ h ws H locs ls clv _ ⟨r1, r2, r3, r4, r5, r6, rfl, h8⟩
        | _ => cases hz
      | _ => cases hz
/-- jumps -/
noncomputable def zj (pc : Nat) (off : Int) (k : Nat → ZX) : ZX := cond (decide (0 ≤ (pc : Int) + off)) (zn ((pc : Int) + off).toNat k) zfail
theorem zj_ok {off : Int} {k : Nat → ZX} (h : zj pc off k = .ok r) : ∃ tgt : Nat, (pc : Int) + off = (tgt : Int) ∧ k tgt = .ok r := by
  unfold zj at h
  by_cases hc : 0 ≤ (pc : Int) + off
  · rw [decide_eq_true hc, cond_true, zn_eq] at h
    exact ⟨_, by omega, h⟩
  · rw [decide_eq_false hc] at h
    cases h
theorem zs_goto (hx : p.tables.exec = Jvm.exec) (hb : c.code = cc) {off : Int} (hdg : decode cc pc = .ok (.goto off, 3)) (h : zj pc off (fun t => ret t lv st hp nc ns) = .ok r) (Hk : ∀ (pc : Nat) (lv : ZL) (st : List Value) (hp : List ZE) (nc ns : Nat), ret pc lv st hp nc ns = .ok r → zW p l e R s m args below meth c Q dC dI cA g A nL pc lv st hp nc ns) : zW p l e R s m args below meth c Q dC dI cA g A nL pc lv st hp nc ns := by
  obtain ⟨tgt, h1, h2⟩ := zj_ok h
  intro ws H locs ls clv cst ⟨r1, r2, r3, r4, r5, r6, r7⟩
  exact lv_goto hx hb hdg h1 (Hk _ _ _ _ _ _ h2 ws H locs ls clv _ ⟨r1, r2, r3, r4, r5, r6, r7⟩)
theorem zw_icmp (hx : p.tables.exec = Jvm.exec) (hb : c.code = cc) {op : ClassFile.Cond} {off : Int} {tgt : Nat} {H : Heap} {locs : List Loc} {ls : Array Slot} {rest : List Value} {x y : Int32} (hdg : decode cc pc = .ok (.if_icmp op off, 3)) (ht : (pc : Int) + off = (tgt : Int))
    (kt : zro op x.toInt y.toInt = true → W p l e R s m args below meth c H locs nc ns Q (F0 m tgt ls rest)) (kf : zro op x.toInt y.toInt = false → W p l e R s m args below meth c H locs nc ns Q (F0 m (pc + 3) ls rest)) : W p l e R s m args below meth c H locs nc ns Q (F0 m pc ls (.int y :: .int x :: rest)) := by
  have e1 : x = y ↔ x.toInt = y.toInt := Int32.toInt_inj.symm
  have e2 : x < y ↔ x.toInt < y.toInt := Int32.lt_iff_toInt_lt
  have e3 : x ≤ y ↔ x.toInt ≤ y.toInt := Int32.le_iff_toInt_le
  have e4 : y < x ↔ y.toInt < x.toInt := Int32.lt_iff_toInt_lt
  have e5 : y ≤ x ↔ y.toInt ≤ x.toInt := Int32.le_iff_toInt_le
  cases op with
  | eq => exact lv_icmp_eq hx hb hdg ht (fun q => kt (by simp [zro, e1.mp q])) (fun q => kf (by simp only [zro]; exact decide_eq_false (fun z => q (e1.mpr z))))
  | ne => exact lv_icmp_ne hx hb hdg ht (fun q => kt (by simp only [zro]; rw [decide_eq_false (fun z => q (e1.mpr z))]; rfl)) (fun q => kf (by simp only [zro]; rw [decide_eq_true (e1.mp q)]; rfl))
  | lt => exact lv_icmp_lt hx hb hdg ht (fun q => kt (by simp only [zro]; exact decide_eq_true (e2.mp q))) (fun q => kf (by simp only [zro]; exact decide_eq_false (fun z => q (e2.mpr z))))
  | ge => exact lv_icmp_ge hx hb hdg ht (fun q => kt (by simp only [zro]; rw [decide_eq_false (by have := e5.mp q; omega)]; rfl)) (fun q => kf (by simp only [zro]; rw [decide_eq_true (by have : ¬ y.toInt ≤ x.toInt := fun z => q (e5.mpr z); omega)]; rfl))
  | gt => exact lv_icmp_gt hx hb hdg ht (fun q => kt (by simp only [zro]; rw [decide_eq_false (by have := e4.mp q; omega)]; rfl)) (fun q => kf (by simp only [zro]; rw [decide_eq_true (by have : ¬ y.toInt < x.toInt := fun z => q (e4.mpr z); omega)]; rfl))
  | le => exact lv_icmp_le hx hb hdg ht (fun q => kt (by simp only [zro]; exact decide_eq_true (by have := e3.mp q; omega))) (fun q => kf (by simp only [zro]; exact decide_eq_false (by have : ¬ x.toInt ≤ y.toInt := fun z => q (e3.mpr z); omega)))
theorem zw_if (hx : p.tables.exec = Jvm.exec) (hb : c.code = cc) {op : ClassFile.Cond} {off : Int} {tgt : Nat} {H : Heap} {locs : List Loc} {ls : Array Slot} {rest : List Value} {x : Int32} (hdg : decode cc pc = .ok (.ifCond op off, 3)) (ht : (pc : Int) + off = (tgt : Int))
    (kt : zro op x.toInt (0 : Int32).toInt = true → W p l e R s m args below meth c H locs nc ns Q (F0 m tgt ls rest)) (kf : zro op x.toInt (0 : Int32).toInt = false → W p l e R s m args below meth c H locs nc ns Q (F0 m (pc + 3) ls rest)) : W p l e R s m args below meth c H locs nc ns Q (F0 m pc ls (.int x :: rest)) := by
  obtain ⟨y, hy⟩ : ∃ y : Int32, y = 0 := ⟨0, rfl⟩
  rw [← hy] at kt kf
  have e1 : x = y ↔ x.toInt = y.toInt := Int32.toInt_inj.symm
  have e2 : x < y ↔ x.toInt < y.toInt := Int32.lt_iff_toInt_lt
  have e3 : x ≤ y ↔ x.toInt ≤ y.toInt := Int32.le_iff_toInt_le
  have e4 : y < x ↔ y.toInt < x.toInt := Int32.lt_iff_toInt_lt
  have e5 : y ≤ x ↔ y.toInt ≤ x.toInt := Int32.le_iff_toInt_le
  cases op with
  | eq => exact lv_if_eq hx hb hdg ht (fun q => kt (by rw [← hy] at q; simp [zro, e1.mp q])) (fun q => kf (by rw [← hy] at q; simp only [zro]; exact decide_eq_false (fun z => q (e1.mpr z))))
  | ne => exact lv_if_ne hx hb hdg ht (fun q => kt (by rw [← hy] at q; simp only [zro]; rw [decide_eq_false (fun z => q (e1.mpr z))]; rfl)) (fun q => kf (by rw [← hy] at q; simp only [zro]; rw [decide_eq_true (e1.mp q)]; rfl))
  | lt => exact lv_if_lt hx hb hdg ht (fun q => kt (by rw [← hy] at q; simp only [zro]; exact decide_eq_true (e2.mp q))) (fun q => kf (by rw [← hy] at q; simp only [zro]; exact decide_eq_false (fun z => q (e2.mpr z))))
  | ge => exact lv_if_ge hx hb hdg ht (fun q => kt (by rw [← hy] at q; simp only [zro]; rw [decide_eq_false (by have := e5.mp q; omega)]; rfl)) (fun q => kf (by rw [← hy] at q; simp only [zro]; rw [decide_eq_true (by have : ¬ y.toInt ≤ x.toInt := fun z => q (e5.mpr z); omega)]; rfl))
  | gt => exact lv_if_gt hx hb hdg ht (fun q => kt (by rw [← hy] at q; simp only [zro]; rw [decide_eq_false (by have := e4.mp q; omega)]; rfl)) (fun q => kf (by rw [← hy] at q; simp only [zro]; rw [decide_eq_true (by have : ¬ y.toInt < x.toInt := fun z => q (e4.mpr z); omega)]; rfl))
  | le => exact lv_if_le hx hb hdg ht (fun q => kt (by rw [← hy] at q; simp only [zro]; exact decide_eq_true (by have := e3.mp q; omega))) (fun q => kf (by rw [← hy] at q; simp only [zro]; exact decide_eq_false (by have : ¬ x.toInt ≤ y.toInt := fun z => q (e3.mpr z); omega)))
noncomputable def zx_icmp (E : ZN) (op : ClassFile.Cond) (off : Int) (pc : Nat) (lv : ZL) (st : List Value) (hp : List ZE) (nc ns : Nat) (ret : ZRt) : ZX := match st with
  | y :: x :: st' => zcmp E op x y (fun d => zj pc off (fun t => cond d (ret t lv st' hp nc ns) (ret (pc + 3) lv st' hp nc ns)))
  | _ => zfail
theorem zs_icmp (hx : p.tables.exec = Jvm.exec) (hb : c.code = cc) (hE : zen E g) {op : ClassFile.Cond} {off : Int} (hdg : decode cc pc = .ok (.if_icmp op off, 3)) (h : zx_icmp E op off pc lv st hp nc ns ret = .ok r) (Hk : ∀ (pc : Nat) (lv : ZL) (st : List Value) (hp : List ZE) (nc ns : Nat), ret pc lv st hp nc ns = .ok r → zW p l e R s m args below meth c Q dC dI cA g A nL pc lv st hp nc ns) : zW p l e R s m args below meth c Q dC dI cA g A nL pc lv st hp nc ns := by
  match st, h with
  | [], h => cases h
  | [_], h => cases h
  | y :: x :: st', h =>
    intro ws H locs ls clv cst ⟨r1, r2, r3, r4, r5, r6, r7⟩
    obtain ⟨cy, cr, rfl, h5, h6⟩ := zvs_cons r7
    obtain ⟨cx, cr, rfl, h7, h8⟩ := zvs_cons h6
    simp only [zx_icmp] at h
    obtain ⟨a, b, rfl, rfl, h⟩ := zcmp_ok hE h7 h5 h
    obtain ⟨tgt, ht, h⟩ := zj_ok h
    refine zw_icmp hx hb hdg ht (fun q => ?_) (fun q => ?_)
    · rw [q, cond_true] at h
      exact Hk _ _ _ _ _ _ h ws H locs ls clv _ ⟨r1, r2, r3, r4, r5, r6, h8⟩
    · rw [q, cond_false] at h
      exact Hk _ _ _ _ _ _ h ws H locs ls clv _ ⟨r1, r2, r3, r4, r5, r6, h8⟩
noncomputable def zx_if (E : ZN) (op : ClassFile.Cond) (off : Int) (pc : Nat) (lv : ZL) (st : List Value) (hp : List ZE) (nc ns : Nat) (ret : ZRt) : ZX := match st with
  | x :: st' => zcmp E op x (.int 0) (fun d => zj pc off (fun t => cond d (ret t lv st' hp nc ns) (ret (pc + 3) lv st' hp nc ns)))
  | _ => zfail
theorem zs_if (hx : p.tables.exec = Jvm.exec) (hb : c.code = cc) (hE : zen E g) {op : ClassFile.Cond} {off : Int} (hdg : decode cc pc = .ok (.ifCond op off, 3)) (h : zx_if E op off pc lv st hp nc ns ret = .ok r) (Hk : ∀ (pc : Nat) (lv : ZL) (st : List Value) (hp : List ZE) (nc ns : Nat), ret pc lv st hp nc ns = .ok r → zW p l e R s m args below meth c Q dC dI cA g A nL pc lv st hp nc ns) : zW p l e R s m args below meth c Q dC dI cA g A nL pc lv st hp nc ns := by
  match st, h with
  | [], h => cases h
  | x :: st', h =>
    intro ws H locs ls clv cst ⟨r1, r2, r3, r4, r5, r6, r7⟩
    obtain ⟨cx, cr, rfl, h7, h8⟩ := zvs_cons r7
    simp only [zx_if] at h
    obtain ⟨a, b, rfl, e0, h⟩ := zcmp_ok (ad := zad ws) (y := .int 0) (cy := .int 0) hE h7 (show zv (zad ws) g (.int 0) (.int 0) from rfl) h
    cases e0
    obtain ⟨tgt, ht, h⟩ := zj_ok h
    refine zw_if hx hb hdg ht (fun q => ?_) (fun q => ?_)
    · rw [q, cond_true] at h
      exact Hk _ _ _ _ _ _ h ws H locs ls clv _ ⟨r1, r2, r3, r4, r5, r6, h8⟩
    · rw [q, cond_false] at h
      exact Hk _ _ _ _ _ _ h ws H locs ls clv _ ⟨r1, r2, r3, r4, r5, r6, h8⟩
/-- the switch -/
noncomputable def zx_tsw (E : ZN) (dflt lo hi : Int) (offs : List Int) (pc : Nat) (lv : ZL) (st : List Value) (hp : List ZE) (nc ns : Nat) (ret : ZRt) : ZX := match st with
  | x :: st' => zrg E x (fun a b t => zlt a b lo t (fun d => cond d (zj pc dflt (fun q => ret q lv st' hp nc ns)) (zlt a b (hi + 1) t (fun d => cond d (zI E x (fun z => match zget offs (z.toInt - lo).toNat with
    | some off => zj pc off (fun q => ret q lv st' hp nc ns)
    | none => zfail)) (zj pc dflt (fun q => ret q lv st' hp nc ns))))))
  | _ => zfail
theorem zs_tsw (hx : p.tables.exec = Jvm.exec) (hb : c.code = cc) (hE : zen E g) {dflt lo hi : Int} {offs : Array Int} {len : Nat} (hdg : decode cc pc = .ok (.tableswitch dflt lo hi offs, len)) (h : zx_tsw E dflt lo hi offs.toList pc lv st hp nc ns ret = .ok r) (Hk : ∀ (pc : Nat) (lv : ZL) (st : List Value) (hp : List ZE) (nc ns : Nat), ret pc lv st hp nc ns = .ok r → zW p l e R s m args below meth c Q dC dI cA g A nL pc lv st hp nc ns) : zW p l e R s m args below meth c Q dC dI cA g A nL pc lv st hp nc ns := by
  match st, h with
  | [], h => cases h
  | x :: st', h =>
    intro ws H locs ls clv cst ⟨r1, r2, r3, r4, r5, r6, r7⟩
    obtain ⟨cx, cr, rfl, h7, h8⟩ := zvs_cons r7
    simp only [zx_tsw] at h
    obtain ⟨a, l0, h0, t, rfl, b1, b2, h⟩ := zrg_ok hE h7 h
    have h := zlt_ok b1 b2 h
    by_cases q1 : a.toInt < lo
    · rw [decide_eq_true q1, cond_true] at h
      obtain ⟨tgt, ht, h⟩ := zj_ok h
      exact lv_tableOut hx hb hdg (Or.inl q1) ht (Hk _ _ _ _ _ _ h ws H locs ls clv _ ⟨r1, r2, r3, r4, r5, r6, h8⟩)
    · rw [decide_eq_false q1, cond_false] at h
      have h := zlt_ok b1 b2 h
      by_cases q2 : a.toInt < hi + 1
      · rw [decide_eq_true q2, cond_true] at h
        obtain ⟨z, e1, h⟩ := zI_ok hE h7 h
        cases e1
        rw [zget_eq, Array.getElem?_toList] at h
        cases ho : offs[(a.toInt - lo).toNat]? with
        | none => simp only [ho] at h; cases h
        | some off =>
          simp only [ho] at h
          obtain ⟨tgt, ht, h⟩ := zj_ok h
          exact lv_tableIn hx hb hdg q1 (by omega) ho ht (Hk _ _ _ _ _ _ h ws H locs ls clv _ ⟨r1, r2, r3, r4, r5, r6, h8⟩)
      · rw [decide_eq_false q2, cond_false] at h
        obtain ⟨tgt, ht, h⟩ := zj_ok h
        exact lv_tableOut hx hb hdg (Or.inr (by omega)) ht (Hk _ _ _ _ _ _ h ws H locs ls clv _ ⟨r1, r2, r3, r4, r5, r6, h8⟩)
/-- the stack -/
noncomputable def zx_dup (pc : Nat) (lv : ZL) (st : List Value) (hp : List ZE) (nc ns : Nat) (ret : ZRt) : ZX := match st with
  | v :: st' => cond (Nat.beq v.category 1) (ret (pc + 1) lv (v :: v :: st') hp nc ns) zfail
  | _ => zfail
theorem zs_dup (hx : p.tables.exec = Jvm.exec) (hb : c.code = cc) (hdg : decode cc pc = .ok (.dup, 1)) (h : zx_dup pc lv st hp nc ns ret = .ok r) (Hk : ∀ (pc : Nat) (lv : ZL) (st : List Value) (hp : List ZE) (nc ns : Nat), ret pc lv st hp nc ns = .ok r → zW p l e R s m args below meth c Q dC dI cA g A nL pc lv st hp nc ns) : zW p l e R s m args below meth c Q dC dI cA g A nL pc lv st hp nc ns := by
  match st, h with
  | [], h => cases h
  | v :: st', h =>
    intro ws H locs ls clv cst ⟨r1, r2, r3, r4, r5, r6, r7⟩
    obtain ⟨cv, cr, rfl, h7, h8⟩ := zvs_cons r7
    simp only [zx_dup] at h
    cases hc : Nat.beq v.category 1 with
    | false => rw [hc] at h; cases h
    | true =>
      rw [hc, cond_true] at h
      exact lv_dup hx hb hdg ((zv_cat h7).trans (Nat.beq_eq.mp hc)) (Hk _ _ _ _ _ _ h ws H locs ls clv _ ⟨r1, r2, r3, r4, r5, r6, h7, h7, h8⟩)
noncomputable def zx_dup2 (pc : Nat) (lv : ZL) (st : List Value) (hp : List ZE) (nc ns : Nat) (ret : ZRt) : ZX := match st with
  | v :: w :: st' => cond (Nat.beq v.category 1 && Nat.beq w.category 1) (ret (pc + 1) lv (v :: w :: v :: w :: st') hp nc ns) zfail
  | _ => zfail
theorem zs_dup2 (hx : p.tables.exec = Jvm.exec) (hb : c.code = cc) (hdg : decode cc pc = .ok (.dup2, 1)) (h : zx_dup2 pc lv st hp nc ns ret = .ok r) (Hk : ∀ (pc : Nat) (lv : ZL) (st : List Value) (hp : List ZE) (nc ns : Nat), ret pc lv st hp nc ns = .ok r → zW p l e R s m args below meth c Q dC dI cA g A nL pc lv st hp nc ns) : zW p l e R s m args below meth c Q dC dI cA g A nL pc lv st hp nc ns := by
  match st, h with
  | [], h => cases h
  | [_], h => cases h
  | v :: w :: st', h =>
    intro ws H locs ls clv cst ⟨r1, r2, r3, r4, r5, r6, r7⟩
    obtain ⟨cv, cr, rfl, h7, h8⟩ := zvs_cons r7
    obtain ⟨cw, cr, rfl, h9, h10⟩ := zvs_cons h8
    simp only [zx_dup2] at h
    cases hc : (Nat.beq v.category 1 && Nat.beq w.category 1) with
    | false => rw [hc] at h; cases h
    | true =>
      rw [hc, cond_true] at h
      rw [Bool.and_eq_true] at hc
      exact lv_dup2_11 hx hb hdg ((zv_cat h7).trans (Nat.beq_eq.mp hc.1)) ((zv_cat h9).trans (Nat.beq_eq.mp hc.2)) (Hk _ _ _ _ _ _ h ws H locs ls clv _ ⟨r1, r2, r3, r4, r5, r6, h7, h9, h7, h9, h10⟩)
noncomputable def zx_pop (pc : Nat) (lv : ZL) (st : List Value) (hp : List ZE) (nc ns : Nat) (ret : ZRt) : ZX := match st with
  | v :: st' => cond (Nat.beq v.category 1) (ret (pc + 1) lv st' hp nc ns) zfail
  | _ => zfail
theorem zs_pop (hx : p.tables.exec = Jvm.exec) (hb : c.code = cc) (hdg : decode cc pc = .ok (.pop, 1)) (h : zx_pop pc lv st hp nc ns ret = .ok r) (Hk : ∀ (pc : Nat) (lv : ZL) (st : List Value) (hp : List ZE) (nc ns : Nat), ret pc lv st hp nc ns = .ok r → zW p l e R s m args below meth c Q dC dI cA g A nL pc lv st hp nc ns) : zW p l e R s m args below meth c Q dC dI cA g A nL pc lv st hp nc ns := by
  match st, h with
  | [], h => cases h
  | v :: st', h =>
    intro ws H locs ls clv cst ⟨r1, r2, r3, r4, r5, r6, r7⟩
    obtain ⟨cv, cr, rfl, h7, h8⟩ := zvs_cons r7
    simp only [zx_pop] at h
    cases hc : Nat.beq v.category 1 with
    | false => rw [hc] at h; cases h
    | true =>
      rw [hc, cond_true] at h
      exact lv_pop hx hb hdg ((zv_cat h7).trans (Nat.beq_eq.mp hc)) (Hk _ _ _ _ _ _ h ws H locs ls clv _ ⟨r1, r2, r3, r4, r5, r6, h8⟩)
end ZST
