/-! steps of numbers, locals, branches -/
def cG (p : Program) (l : Launch) (e : Env) (R : Room) (s : State) (m : MethodId) (args : Array Value) (below : List Frame) (meth : Method) (c : Code) (Q : State → Prop) (dC : Nat → ClassId) (dI : Nat → Nat → Nat) (cA : Nat → ClassId) (A : Nat → Prop) (nL : Nat) (fm : List SF) (scr : Nat) (ad : SAd) (nc ns : Nat) (E : Nat → List CA → SMem → (List Int → SMem → Prop) → Prop) (Qr : List Int → SMem → Prop) (C : Nat → List Int → SMem → Prop) (Sx : SMem → Prop) (n pc : Nat) (lv : SL) (st : List SV) (L : List CN) : Prop :=
  ∀ (fd : Nat) (v : List Int) (M : SMem) (ws : va_W) (H : Heap) (locs : List Loc) (ls : Array Slot) (clv : ZL) (cst : List Value), v.length = n → Sx M → sH fm ad M cA ws → va_P (dC, dI) vwCl ws H → va_D A ws → va_S A s.heap H locs → lv_has ls nL clv → sls fm scr (cen v) ad lv clv → svs fm scr (cen v) ad st cst → cden E Qr C fd L v M → W p l e R s m args below meth c H locs nc ns Q (F0 m pc ls cst)
def ccons (q : CN) (x : CX) : CX := match x with
  | some L => some (q :: L)
  | none => none
theorem ccons_ok {q : CN} {x : CX} {L : List CN} (h : ccons q x = some L) : ∃ L', x = some L' ∧ L = q :: L' := by
  cases x with
  | none => cases h
  | some L' => cases h; exact ⟨L', rfl, rfl⟩
theorem ccond {b : Bool} {x : CX} {L : List CN} (h : cond b x none = some L) : b = true ∧ x = some L := by
  cases b with
  | true => exact ⟨rfl, h⟩
  | false => cases h
def cbr (a : Nat) (d : SE) (x y : CX) : CX := match x with
  | some x => (match y with
    | some y => some ((4, a, x.length, [(0, 0, d)]) :: (x ++ y))
    | none => none)
  | none => none
theorem cbr_ok {a : Nat} {d : SE} {x y : CX} {L : List CN} (h : cbr a d x y = some L) : ∃ x' y', x = some x' ∧ y = some y' ∧ L = (4, a, x'.length, [(0, 0, d)]) :: (x' ++ y') := by
  cases x with
  | none => cases h
  | some x =>
    cases y with
    | none => cases h
    | some y => cases h; exact ⟨x, y, rfl, rfl, rfl⟩
def cjmp (pc : Nat) (off : Int) (k : Nat → CX) : CX := cond (decide (0 ≤ (pc : Int) + off)) (sn ((pc : Int) + off).toNat k) none
theorem cjmp_ok {pc : Nat} {off : Int} {k : Nat → CX} {L : List CN} (h : cjmp pc off k = some L) : ∃ tgt : Nat, (pc : Int) + off = (tgt : Int) ∧ k tgt = some L := by
  obtain ⟨h1, h2⟩ := ccond h
  rw [sn_eq] at h2
  have h1 : 0 ≤ (pc : Int) + off := of_decide_eq_true h1
  exact ⟨_, by omega, h2⟩
def cbk (n : Nat) (lv : SL) (st : List SV) : Bool := sall (fun q => sbe n q.2.2.2) lv && sall (fun v => sbe n v.2.2) st
/-- a number that is new -/
def cbind (q : CN) (t n pc : Nat) (lv : SL) (st : List SV) (ret : CRt) : CX := cond (cbk n lv st) (sn (n + 1) (fun n1 => ccons q (ret n1 pc lv ((t, 0, sy n) :: st)))) none
def cx_ld (f : SV → Bool) (i k n pc : Nat) (lv : SL) (st : List SV) (ret : CRt) : CX := match slk lv i with
  | some v => cond (f v) (ret n (pc + k) lv (v :: st)) none
  | none => none
def cx_st (f : SV → Bool) (nL i k n pc : Nat) (lv : SL) (st : List SV) (ret : CRt) : CX := match st with
  | v :: st' => cond (f v && Nat.blt i nL) (sll (lv.filter (skeep i)) (fun lr => ret n (pc + k) ((i, v) :: lr) st')) none
  | [] => none
def cx_lin (t kd : Nat) (f : SE → SE → SE) (n pc : Nat) (lv : SL) (st : List SV) (ret : CRt) : CX := match st with
  | y :: x :: st' => cond (Nat.beq x.1 t && Nat.beq y.1 t) (sfe (f x.2.2 y.2.2) (fun e => ccons (6, kd, 0, [(0, 0, e)]) (ret n (pc + 1) lv ((t, 0, e) :: st')))) none
  | _ => none
def cx_op (ta tb tc o n pc : Nat) (lv : SL) (st : List SV) (ret : CRt) : CX := match st with
  | y :: x :: st' => cond (Nat.beq x.1 ta && Nat.beq y.1 tb) (cbind (5, o, 0, [x, y]) tc n (pc + 1) lv st' ret) none
  | _ => none
def cx_div (o n pc : Nat) (lv : SL) (st : List SV) (ret : CRt) : CX := match st with
  | y :: x :: st' => cond (sisc y.2.2 && decide (y.2.2.1 ≠ 0)) (cx_op 0 0 0 o n pc lv (y :: x :: st') ret) none
  | _ => none
def cx_mul (t kd o n pc : Nat) (lv : SL) (st : List SV) (ret : CRt) : CX := match st with
  | y :: x :: st' => cond (Nat.beq x.1 t && Nat.beq y.1 t) (match smulE x.2.2 y.2.2 with
    | some e => sfe e (fun e => ccons (6, kd, 0, [(0, 0, e)]) (ret n (pc + 1) lv ((t, 0, e) :: st')))
    | none => cond (Nat.beq t 0) (cbind (5, o, 0, [x, y]) t n (pc + 1) lv st' ret) none) none
  | _ => none
def cx_brd (op : ClassFile.Cond) (off : Int) (n pc : Nat) (lv : SL) (st : List SV) (d : SE) (ret : CRt) : CX := cjmp pc off (fun t => cond (sisc d) (cond (zro op d.1 0) (ret n t lv st) (ret n (pc + 3) lv st)) (sfe d (fun d => cbr (copn op) d (ret n t lv st) (ret n (pc + 3) lv st))))
def cx_icmp (op : ClassFile.Cond) (off : Int) (n pc : Nat) (lv : SL) (st : List SV) (ret : CRt) : CX := match st with
  | y :: x :: st' => cond (Nat.beq x.1 0 && Nat.beq y.1 0) (cx_brd op off n pc lv st' (ssub x.2.2 y.2.2) ret) none
  | _ => none
def cx_if (op : ClassFile.Cond) (off : Int) (n pc : Nat) (lv : SL) (st : List SV) (ret : CRt) : CX := match st with
  | x :: st' => cond (Nat.beq x.1 0) (cx_brd op off n pc lv st' x.2.2 ret) none
  | _ => none
def cx_cs (x : SE) (pc : Nat) (k : Nat → CX) : List Int → Int → CX
  | [], _ => some []
  | o :: os, v => sfe (saddc x (-v)) (fun d => cbr 0 d (cjmp pc o k) (cx_cs x pc k os (v + 1)))
def cx_tsw (dflt lo hi : Int) (offs : List Int) (n pc : Nat) (lv : SL) (st : List SV) (ret : CRt) : CX := match st with
  | x :: st' => cond (Nat.beq x.1 0 && decide (hi < lo + offs.length)) (sfe (saddc x.2.2 (-lo)) (fun d1 => sfe (saddc x.2.2 (-hi)) (fun d2 => cbr 2 d1 (cjmp pc dflt (fun t => ret n t lv st')) (cbr 4 d2 (cjmp pc dflt (fun t => ret n t lv st')) (cx_cs x.2.2 pc (fun t => ret n t lv st') offs lo))))) none
  | _ => none
def cx_dup (n pc : Nat) (lv : SL) (st : List SV) (ret : CRt) : CX := match st with
  | v :: st' => cond (Nat.beq (scat v) 1) (ret n (pc + 1) lv (v :: v :: st')) none
  | _ => none
def cx_dup2 (n pc : Nat) (lv : SL) (st : List SV) (ret : CRt) : CX := match st with
  | v :: u :: st' => cond (Nat.beq (scat v) 1 && Nat.beq (scat u) 1) (ret n (pc + 1) lv (v :: u :: v :: u :: st')) none
  | _ => none
def cx_pop (n pc : Nat) (lv : SL) (st : List SV) (ret : CRt) : CX := match st with
  | v :: st' => cond (Nat.beq (scat v) 1) (ret n (pc + 1) lv st') none
  | _ => none
def cx_iinc (nL i : Nat) (k : Int) (n pc : Nat) (lv : SL) (st : List SV) (ret : CRt) : CX := match slk lv i with
  | some v => cond (sti v && Nat.blt i nL) (sfe (saddc v.2.2 (Int32.ofInt k).toInt) (fun e => ccons (6, 0, 0, [(0, 0, e)]) (sll (lv.filter (skeep i)) (fun lr => ret n (pc + 3) ((i, (0, 0, e)) :: lr) st)))) none
  | none => none
def cx_i2l (n pc : Nat) (lv : SL) (st : List SV) (ret : CRt) : CX := match st with
  | x :: st' => cond (Nat.beq x.1 0) (ret n (pc + 1) lv ((1, 0, x.2.2) :: st')) none
  | _ => none
def cx_l2i (n pc : Nat) (lv : SL) (st : List SV) (ret : CRt) : CX := match st with
  | x :: st' => cond (Nat.beq x.1 1) (cbind (5, 10, 0, [x, x]) 0 n (pc + 1) lv st' ret) none
  | _ => none
def cx_i2c (n pc : Nat) (lv : SL) (st : List SV) (ret : CRt) : CX := match st with
  | x :: st' => cond (Nat.beq x.1 0) (ccons (6, 2, 0, [x]) (ret n (pc + 1) lv ((0, 0, x.2.2) :: st'))) none
  | _ => none
def cx_lcmp (n pc : Nat) (lv : SL) (st : List SV) (ret : CRt) : CX := match st with
  | y :: x :: st' => cond (Nat.beq x.1 1 && Nat.beq y.1 1) (sfe (ssub x.2.2 y.2.2) (fun d => cbr 4 d (ret n (pc + 1) lv ((0, 0, sc 1) :: st')) (cbr 0 d (ret n (pc + 1) lv ((0, 0, sc 0) :: st')) (ret n (pc + 1) lv ((0, 0, sc (-1)) :: st'))))) none
  | _ => none
theorem cofi (x : Int32) : Int32.ofInt x.toInt = x := Int32.ofInt_toInt x
theorem cofl (x : Int64) : Int64.ofInt x.toInt = x := Int64.ofInt_toInt x
section CST
variable {p : Program} {l : Launch} {e : Env} {R : Room} {s : State} {m : MethodId} {args : Array Value} {below : List Frame} {meth : Method} {c : Code} {Q : State → Prop} {dC : Nat → ClassId} {dI : Nat → Nat → Nat} {cA : Nat → ClassId} {A : Nat → Prop} {nL : Nat} {fm : List SF} {scr : Nat} {ad : SAd} {nc ns : Nat} {E : Nat → List CA → SMem → (List Int → SMem → Prop) → Prop} {Qr : List Int → SMem → Prop} {C : Nat → List Int → SMem → Prop} {Sx : SMem → Prop} {cc : ByteArray} {own : String} {n pc : Nat} {lv : SL} {st : List SV} {L : List CN} {ret : CRt}
theorem cG_push {x : SV} {cv : Value} {k : Nat} (hx9 : ∀ ρ ad, sv fm scr ρ ad x cv) (hrow : ∀ (H : Heap) (locs : List Loc) (ls : Array Slot) (cst : List Value), W p l e R s m args below meth c H locs nc ns Q (F0 m (pc + k) ls (cv :: cst)) → W p l e R s m args below meth c H locs nc ns Q (F0 m pc ls cst)) (h : ret n (pc + k) lv (x :: st) = some L) (Hk : ∀ (n pc : Nat) (lv : SL) (st : List SV) (L : List CN), ret n pc lv st = some L → cG p l e R s m args below meth c Q dC dI cA A nL fm scr ad nc ns E Qr C Sx n pc lv st L) : cG p l e R s m args below meth c Q dC dI cA A nL fm scr ad nc ns E Qr C Sx n pc lv st L := by
  intro fd v M ws H locs ls clv cst hv hX hH hP hD hS hl q6 q7 hd
  exact hrow _ _ _ _ (Hk _ _ _ _ _ h fd v M ws H locs ls clv (cv :: cst) hv hX hH hP hD hS hl q6 ⟨hx9 _ _, q7⟩ hd)
theorem cG_ld {f : SV → Bool} {i k : Nat} (hrow : ∀ (x : SV) (ρ : Nat → Int) (ad : SAd) (cv : Value) (H : Heap) (locs : List Loc) (ls : Array Slot) (cst : List Value), f x = true → sv fm scr ρ ad x cv → ls[i]? = some (.val cv) → W p l e R s m args below meth c H locs nc ns Q (F0 m (pc + k) ls (cv :: cst)) → W p l e R s m args below meth c H locs nc ns Q (F0 m pc ls cst)) (h : cx_ld f i k n pc lv st ret = some L) (Hk : ∀ (n pc : Nat) (lv : SL) (st : List SV) (L : List CN), ret n pc lv st = some L → cG p l e R s m args below meth c Q dC dI cA A nL fm scr ad nc ns E Qr C Sx n pc lv st L) : cG p l e R s m args below meth c Q dC dI cA A nL fm scr ad nc ns E Qr C Sx n pc lv st L := by
  unfold cx_ld at h
  cases hs : slk lv i with
  | none => rw [hs] at h; cases h
  | some x =>
    rw [hs] at h
    obtain ⟨h2, h3⟩ := ccond h
    intro fd v M ws H locs ls clv cst hv hX hH hP hD hS hl q6 q7 hd
    obtain ⟨k9, cv, h4, h5⟩ := sls_get q6 hs
    exact hrow x _ ad cv H locs ls cst h2 h5 (lv_at hl k9 h4) (Hk _ _ _ _ _ h3 fd v M ws H locs ls clv _ hv hX hH hP hD hS hl q6 ⟨h5, q7⟩ hd)
theorem cG_st {f : SV → Bool} {i k : Nat} (hrow : ∀ (x : SV) (ρ : Nat → Int) (ad : SAd) (cv : Value) (H : Heap) (locs : List Loc) (ls : Array Slot) (cst : List Value) (clv : ZL), f x = true → sv fm scr ρ ad x cv → lv_has ls nL clv → i < nL → (∀ ls' : Array Slot, lv_has ls' nL ((i, cv) :: clv.filter (zkeep i)) → W p l e R s m args below meth c H locs nc ns Q (F0 m (pc + k) ls' cst)) → W p l e R s m args below meth c H locs nc ns Q (F0 m pc ls (cv :: cst))) (h : cx_st f nL i k n pc lv st ret = some L) (Hk : ∀ (n pc : Nat) (lv : SL) (st : List SV) (L : List CN), ret n pc lv st = some L → cG p l e R s m args below meth c Q dC dI cA A nL fm scr ad nc ns E Qr C Sx n pc lv st L) : cG p l e R s m args below meth c Q dC dI cA A nL fm scr ad nc ns E Qr C Sx n pc lv st L := by
  match st, h with
  | [], h => cases h
  | x :: st', h =>
    obtain ⟨h1, h2⟩ := ccond h
    rw [sll_eq] at h2
    rw [Bool.and_eq_true] at h1
    intro fd v M ws H locs ls clv cst hv hX hH hP hD hS hl q6 q7 hd
    obtain ⟨cv, cr, rfl, h5, h6⟩ := svs_cons q7
    exact hrow x _ ad cv H locs ls cr clv h1.1 h5 hl (zblt h1.2) (fun ls' hl' => Hk _ _ _ _ _ h2 fd v M ws H locs ls' _ _ hv hX hH hP hD hS hl' ⟨rfl, h5, sls_filter i q6⟩ h6 hd)
/-- a number that is new, on the stack -/
theorem cG_bind {t : Nat} {q : CN} {st' : List SV} {pc' fd : Nat} {v : List Int} {M : SMem} {ws : va_W} {H : Heap} {locs : List Loc} {ls : Array Slot} {clv : ZL} {cst : List Value} {cv : Value} {z : Int} (h : cbind q t n pc' lv st' ret = some L) (Hk : ∀ (n pc : Nat) (lv : SL) (st : List SV) (L : List CN), ret n pc lv st = some L → cG p l e R s m args below meth c Q dC dI cA A nL fm scr ad nc ns E Qr C Sx n pc lv st L) (hv : v.length = n) (hX : Sx M) (hH : sH fm ad M cA ws) (hP : va_P (dC, dI) vwCl ws H) (hD : va_D A ws) (hS : va_S A s.heap H locs) (hl : lv_has ls nL clv) (q6 : sls fm scr (cen v) ad lv clv) (q7 : svs fm scr (cen v) ad st' cst) (hz : sfit t cv z) (hd : ∀ L', L = q :: L' → cden E Qr C fd L' (v ++ [z]) M) : W p l e R s m args below meth c H locs nc ns Q (F0 m pc' ls (cv :: cst)) := by
  obtain ⟨h1, h2⟩ := ccond h
  rw [sn_eq] at h2
  obtain ⟨L', h3, h4⟩ := ccons_ok h2
  unfold cbk at h1
  rw [Bool.and_eq_true] at h1
  have ha : ∀ t, t < n → cen (v ++ [z]) t = cen v t := fun t ht => cen_app (by omega)
  exact Hk _ _ _ _ _ h3 fd (v ++ [z]) M ws H locs ls clv (cv :: cst) (by simp [hv]) hX hH hP hD hS hl (sls_ag ha h1.1 q6) ⟨sfit_sv (by rw [sev_y, cen_new hv]; exact hz), svs_ag ha h1.2 q7⟩ (hd L' h4)
theorem cG_op {ta tb tc o : Nat} (ha : ta < 2) (hb2 : tb < 2) (hop : ∀ (H : Heap) (locs : List Loc) (ls : Array Slot) (cst : List Value) (a b : Value) (x y : Int), sfit ta a x → sfit tb b y → ∃ cv, sfit tc cv (cfn o x y) ∧ (W p l e R s m args below meth c H locs nc ns Q (F0 m (pc + 1) ls (cv :: cst)) → W p l e R s m args below meth c H locs nc ns Q (F0 m pc ls (b :: a :: cst)))) (h : cx_op ta tb tc o n pc lv st ret = some L) (Hk : ∀ (n pc : Nat) (lv : SL) (st : List SV) (L : List CN), ret n pc lv st = some L → cG p l e R s m args below meth c Q dC dI cA A nL fm scr ad nc ns E Qr C Sx n pc lv st L) : cG p l e R s m args below meth c Q dC dI cA A nL fm scr ad nc ns E Qr C Sx n pc lv st L := by
  match st, h with
  | [], h => cases h
  | [_], h => cases h
  | y :: x :: st', h =>
    obtain ⟨h0, h⟩ := ccond h
    rw [Bool.and_eq_true] at h0
    intro fd v M ws H locs ls clv cst hv hX hH hP hD hS hl q6 q7 hd
    obtain ⟨cy, cr, rfl, h5, h6⟩ := svs_cons q7
    obtain ⟨cx, cr, rfl, h7, h8⟩ := svs_cons h6
    obtain ⟨cv, g1, g2⟩ := hop H locs ls cr cx cy _ _ (sv_fit h0.1 ha h7) (sv_fit h0.2 hb2 h5)
    refine g2 ?_
    have hn : ∃ n', fd = n' + 1 := by
      cases fd with
      | zero => exact hd.elim
      | succ k => exact ⟨k, rfl⟩
    obtain ⟨n', rfl⟩ := hn
    exact cG_bind (fd := n') h Hk hv hX hH hP hD hS hl q6 h8 g1 (fun L' e9 => by rw [e9] at hd; exact hd)
theorem cG_lin {t kd : Nat} {f : SE → SE → SE} (ht : t < 2) (hop : ∀ (H : Heap) (locs : List Loc) (ls : Array Slot) (cst : List Value) (a b : Value) (ρ : Nat → Int) (x y : SE), sfit t a (sev ρ x) → sfit t b (sev ρ y) → clo kd ≤ sev ρ (f x y) ∧ sev ρ (f x y) ≤ chi kd → ∃ cv, sfit t cv (sev ρ (f x y)) ∧ (W p l e R s m args below meth c H locs nc ns Q (F0 m (pc + 1) ls (cv :: cst)) → W p l e R s m args below meth c H locs nc ns Q (F0 m pc ls (b :: a :: cst)))) (h : cx_lin t kd f n pc lv st ret = some L) (Hk : ∀ (n pc : Nat) (lv : SL) (st : List SV) (L : List CN), ret n pc lv st = some L → cG p l e R s m args below meth c Q dC dI cA A nL fm scr ad nc ns E Qr C Sx n pc lv st L) : cG p l e R s m args below meth c Q dC dI cA A nL fm scr ad nc ns E Qr C Sx n pc lv st L := by
  match st, h with
  | [], h => cases h
  | [_], h => cases h
  | y :: x :: st', h =>
    obtain ⟨h0, h⟩ := ccond h
    rw [Bool.and_eq_true] at h0
    rw [sfe_eq] at h
    obtain ⟨L', h1, rfl⟩ := ccons_ok h
    intro fd v M ws H locs ls clv cst hv hX hH hP hD hS hl q6 q7 hd
    obtain ⟨cy, cr, rfl, h5, h6⟩ := svs_cons q7
    obtain ⟨cx, cr, rfl, h7, h8⟩ := svs_cons h6
    obtain ⟨fd', rfl, hb, hd⟩ := cden_s hd
    obtain ⟨cv, g1, g2⟩ := hop H locs ls cr cx cy (cen v) x.2.2 y.2.2 (sv_fit h0.1 ht h7) (sv_fit h0.2 ht h5) hb
    exact g2 (Hk _ _ _ _ _ h1 fd' v M ws H locs ls clv _ hv hX hH hP hD hS hl q6 ⟨sfit_sv g1, h8⟩ hd)
theorem cG_brd {op : ClassFile.Cond} {off : Int} {d : SE} {fd : Nat} {v : List Int} {M : SMem} {ws : va_W} {H : Heap} {locs : List Loc} {ls : Array Slot} {clv : ZL} {cst : List Value} (h : cx_brd op off n pc lv st d ret = some L) (Hk : ∀ (n pc : Nat) (lv : SL) (st : List SV) (L : List CN), ret n pc lv st = some L → cG p l e R s m args below meth c Q dC dI cA A nL fm scr ad nc ns E Qr C Sx n pc lv st L) (hv : v.length = n) (hX : Sx M) (hH : sH fm ad M cA ws) (hP : va_P (dC, dI) vwCl ws H) (hD : va_D A ws) (hS : va_S A s.heap H locs) (hl : lv_has ls nL clv) (q6 : sls fm scr (cen v) ad lv clv) (q7 : svs fm scr (cen v) ad st cst) (hd : cden E Qr C fd L v M) : ∃ tgt : Nat, (pc : Int) + off = (tgt : Int) ∧ (sCmp op (sev (cen v) d) → W p l e R s m args below meth c H locs nc ns Q (F0 m tgt ls cst)) ∧ (¬ sCmp op (sev (cen v) d) → W p l e R s m args below meth c H locs nc ns Q (F0 m (pc + 3) ls cst)) := by
  unfold cx_brd at h
  obtain ⟨tgt, ht, h⟩ := cjmp_ok h
  refine ⟨tgt, ht, ?_⟩
  cases hc : sisc d with
  | true =>
    rw [hc, cond_true] at h
    have e1 := sisc_ok hc (cen v)
    have hz : zro op d.1 0 = true ↔ sCmp op (sev (cen v) d) := by rw [szro, e1, Int.sub_zero]
    cases hr : zro op d.1 0 with
    | true =>
      rw [hr, cond_true] at h
      exact ⟨fun _ => Hk _ _ _ _ _ h fd v M ws H locs ls clv cst hv hX hH hP hD hS hl q6 q7 hd, fun q => absurd (hz.mp hr) q⟩
    | false =>
      rw [hr, cond_false] at h
      exact ⟨fun q => (by rw [hz.mpr q] at hr; cases hr), fun _ => Hk _ _ _ _ _ h fd v M ws H locs ls clv cst hv hX hH hP hD hS hl q6 q7 hd⟩
  | false =>
    rw [hc, cond_false, sfe_eq] at h
    obtain ⟨x, y, h1, h2, rfl⟩ := cbr_ok h
    obtain ⟨fd', rfl, hd1, hd2⟩ := cden_s hd
    simp only [List.take_left', List.drop_left', cCmp_eq] at hd1 hd2
    exact ⟨fun q => Hk _ _ _ _ _ h1 fd' v M ws H locs ls clv cst hv hX hH hP hD hS hl q6 q7 (hd1 q), fun q => Hk _ _ _ _ _ h2 fd' v M ws H locs ls clv cst hv hX hH hP hD hS hl q6 q7 (hd2 q)⟩
theorem cG_icmp (hx : p.tables.exec = Jvm.exec) (hb : c.code = cc) {op : ClassFile.Cond} {off : Int} (hdg : decode cc pc = .ok (.if_icmp op off, 3)) (h : cx_icmp op off n pc lv st ret = some L) (Hk : ∀ (n pc : Nat) (lv : SL) (st : List SV) (L : List CN), ret n pc lv st = some L → cG p l e R s m args below meth c Q dC dI cA A nL fm scr ad nc ns E Qr C Sx n pc lv st L) : cG p l e R s m args below meth c Q dC dI cA A nL fm scr ad nc ns E Qr C Sx n pc lv st L := by
  match st, h with
  | [], h => cases h
  | [_], h => cases h
  | y :: x :: st', h =>
    obtain ⟨h0, h⟩ := ccond h
    rw [Bool.and_eq_true] at h0
    intro fd v M ws H locs ls clv cst hv hX hH hP hD hS hl q6 q7 hd
    obtain ⟨cy, cr, rfl, h5, h6⟩ := svs_cons q7
    obtain ⟨cx, cr, rfl, h7, h8⟩ := svs_cons h6
    obtain ⟨a, rfl, e1⟩ := sv_int h0.1 h7
    obtain ⟨b, rfl, e2⟩ := sv_int h0.2 h5
    obtain ⟨tgt, ht, k1, k2⟩ := cG_brd h Hk hv hX hH hP hD hS hl q6 h8 hd
    rw [ssub_ev, ← e1, ← e2] at k1 k2
    refine zw_icmp hx hb hdg ht (fun q => k1 (szro.mp q)) (fun q => k2 (fun z => ?_))
    rw [szro.mpr z] at q
    cases q
theorem cG_if (hx : p.tables.exec = Jvm.exec) (hb : c.code = cc) {op : ClassFile.Cond} {off : Int} (hdg : decode cc pc = .ok (.ifCond op off, 3)) (h : cx_if op off n pc lv st ret = some L) (Hk : ∀ (n pc : Nat) (lv : SL) (st : List SV) (L : List CN), ret n pc lv st = some L → cG p l e R s m args below meth c Q dC dI cA A nL fm scr ad nc ns E Qr C Sx n pc lv st L) : cG p l e R s m args below meth c Q dC dI cA A nL fm scr ad nc ns E Qr C Sx n pc lv st L := by
  match st, h with
  | [], h => cases h
  | x :: st', h =>
    obtain ⟨h0, h⟩ := ccond h
    intro fd v M ws H locs ls clv cst hv hX hH hP hD hS hl q6 q7 hd
    obtain ⟨cx, cr, rfl, h7, h8⟩ := svs_cons q7
    obtain ⟨a, rfl, e1⟩ := sv_int h0 h7
    obtain ⟨tgt, ht, k1, k2⟩ := cG_brd h Hk hv hX hH hP hD hS hl q6 h8 hd
    have e3 : a.toInt - (0 : Int32).toInt = sev (cen v) x.2.2 := by
      have : (0 : Int32).toInt = 0 := rfl
      omega
    rw [← e3] at k1 k2
    refine zw_if hx hb hdg ht (fun q => k1 (szro.mp q)) (fun q => k2 (fun z => ?_))
    rw [szro.mpr z] at q
    cases q
theorem cG_goto (hx : p.tables.exec = Jvm.exec) (hb : c.code = cc) {off : Int} (hdg : decode cc pc = .ok (.goto off, 3)) (h : cjmp pc off (fun t => ret n t lv st) = some L) (Hk : ∀ (n pc : Nat) (lv : SL) (st : List SV) (L : List CN), ret n pc lv st = some L → cG p l e R s m args below meth c Q dC dI cA A nL fm scr ad nc ns E Qr C Sx n pc lv st L) : cG p l e R s m args below meth c Q dC dI cA A nL fm scr ad nc ns E Qr C Sx n pc lv st L := by
  obtain ⟨tgt, h1, h2⟩ := cjmp_ok h
  intro fd v M ws H locs ls clv cst hv hX hH hP hD hS hl q6 q7 hd
  exact lv_goto hx hb hdg h1 (Hk _ _ _ _ _ h2 fd v M ws H locs ls clv cst hv hX hH hP hD hS hl q6 q7 hd)
theorem cx_cs_ok {x : SE} {k : Nat → CX} {o : Int} {v : List Int} {M : SMem} : ∀ {os : List Int} {a : Int} {L : List CN} {fd : Nat}, a ≤ sev (cen v) x → os[(sev (cen v) x - a).toNat]? = some o → cx_cs x pc k os a = some L → cden E Qr C fd L v M → ∃ (L' : List CN) (fd' : Nat), cjmp pc o k = some L' ∧ cden E Qr C fd' L' v M := by
  intro os
  induction os with
  | nil => intro a L fd _ h; simp at h
  | cons b os ih =>
    intro a L fd hv h hs hd
    unfold cx_cs at hs
    rw [sfe_eq] at hs
    obtain ⟨x', y', h1, h2, rfl⟩ := cbr_ok hs
    obtain ⟨fd', rfl, hd1, hd2⟩ := cden_s hd
    simp only [List.take_left', List.drop_left', cCmp, cE2, saddc_ev] at hd1 hd2
    by_cases hc : sev (cen v) x = a
    · rw [hc, Int.sub_self] at h
      cases h
      exact ⟨x', fd', h1, hd1 (by omega)⟩
    · refine ih (by omega) ?_ h2 (hd2 (by omega))
      have e : (sev (cen v) x - a).toNat = (sev (cen v) x - (a + 1)).toNat + 1 := by omega
      rw [e, List.getElem?_cons_succ] at h
      exact h
theorem cG_tsw (hx : p.tables.exec = Jvm.exec) (hb : c.code = cc) {dflt lo hi : Int} {offs : Array Int} {len : Nat} (hdg : decode cc pc = .ok (.tableswitch dflt lo hi offs, len)) (h : cx_tsw dflt lo hi offs.toList n pc lv st ret = some L) (Hk : ∀ (n pc : Nat) (lv : SL) (st : List SV) (L : List CN), ret n pc lv st = some L → cG p l e R s m args below meth c Q dC dI cA A nL fm scr ad nc ns E Qr C Sx n pc lv st L) : cG p l e R s m args below meth c Q dC dI cA A nL fm scr ad nc ns E Qr C Sx n pc lv st L := by
  match st, h with
  | [], h => cases h
  | x :: st', h =>
    obtain ⟨h0, h⟩ := ccond h
    rw [Bool.and_eq_true] at h0
    have hlen : hi < lo + offs.toList.length := of_decide_eq_true h0.2
    rw [sfe_eq, sfe_eq] at h
    obtain ⟨x1, y1, h1, h2, rfl⟩ := cbr_ok h
    obtain ⟨x2, y2, h3, h4, rfl⟩ := cbr_ok h2
    obtain ⟨tgt, ht, h1⟩ := cjmp_ok h1
    obtain ⟨tgt2, ht2, h3⟩ := cjmp_ok h3
    intro fd v M ws H locs ls clv cst hv hX hH hP hD hS hl q6 q7 hd
    obtain ⟨cx, cr, rfl, h7, h8⟩ := svs_cons q7
    obtain ⟨a, rfl, e1⟩ := sv_int h0.1 h7
    obtain ⟨fd', rfl, hd1, hd2⟩ := cden_s hd
    simp only [List.take_left', List.drop_left', cCmp, cE2, saddc_ev] at hd1 hd2
    by_cases c1 : a.toInt < lo
    · exact lv_tableOut hx hb hdg (Or.inl c1) ht (Hk _ _ _ _ _ h1 fd' v M ws H locs ls clv cr hv hX hH hP hD hS hl q6 h8 (hd1 (by omega)))
    · obtain ⟨fd2, rfl, hd3, hd4⟩ := cden_s (hd2 (by omega))
      simp only [List.take_left', List.drop_left', cCmp, cE2, saddc_ev] at hd3 hd4
      by_cases c2 : hi < a.toInt
      · exact lv_tableOut hx hb hdg (Or.inr c2) ht2 (Hk _ _ _ _ _ h3 fd2 v M ws H locs ls clv cr hv hX hH hP hD hS hl q6 h8 (hd3 (by omega)))
      · have hlt : (a.toInt - lo).toNat < offs.toList.length := by omega
        have ho : offs[(a.toInt - lo).toNat]? = some (offs.toList[(a.toInt - lo).toNat]) := by
          rw [← Array.getElem?_toList, List.getElem?_eq_getElem hlt]
        have ho2 : offs.toList[(sev (cen v) x.2.2 - lo).toNat]? = some (offs.toList[(a.toInt - lo).toNat]) := by
          rw [← e1, List.getElem?_eq_getElem hlt]
        obtain ⟨L', fd3, k1, k2⟩ := cx_cs_ok (by omega) ho2 h4 (hd4 (by omega))
        obtain ⟨tgt3, ht3, k1⟩ := cjmp_ok k1
        exact lv_tableIn hx hb hdg c1 c2 ho ht3 (Hk _ _ _ _ _ k1 fd3 v M ws H locs ls clv cr hv hX hH hP hD hS hl q6 h8 k2)
theorem cG_dup (hx : p.tables.exec = Jvm.exec) (hb : c.code = cc) (hdg : decode cc pc = .ok (.dup, 1)) (h : cx_dup n pc lv st ret = some L) (Hk : ∀ (n pc : Nat) (lv : SL) (st : List SV) (L : List CN), ret n pc lv st = some L → cG p l e R s m args below meth c Q dC dI cA A nL fm scr ad nc ns E Qr C Sx n pc lv st L) : cG p l e R s m args below meth c Q dC dI cA A nL fm scr ad nc ns E Qr C Sx n pc lv st L := by
  match st, h with
  | [], h => cases h
  | x :: st', h =>
    obtain ⟨h0, h⟩ := ccond h
    intro fd v M ws H locs ls clv cst hv hX hH hP hD hS hl q6 q7 hd
    obtain ⟨cv, cr, rfl, h7, h8⟩ := svs_cons q7
    exact lv_dup hx hb hdg ((sv_cat h7).trans (Nat.beq_eq.mp h0)) (Hk _ _ _ _ _ h fd v M ws H locs ls clv _ hv hX hH hP hD hS hl q6 ⟨h7, h7, h8⟩ hd)
theorem cG_dup2 (hx : p.tables.exec = Jvm.exec) (hb : c.code = cc) (hdg : decode cc pc = .ok (.dup2, 1)) (h : cx_dup2 n pc lv st ret = some L) (Hk : ∀ (n pc : Nat) (lv : SL) (st : List SV) (L : List CN), ret n pc lv st = some L → cG p l e R s m args below meth c Q dC dI cA A nL fm scr ad nc ns E Qr C Sx n pc lv st L) : cG p l e R s m args below meth c Q dC dI cA A nL fm scr ad nc ns E Qr C Sx n pc lv st L := by
  match st, h with
  | [], h => cases h
  | [_], h => cases h
  | x :: u :: st', h =>
    obtain ⟨h0, h⟩ := ccond h
    rw [Bool.and_eq_true] at h0
    intro fd v M ws H locs ls clv cst hv hX hH hP hD hS hl q6 q7 hd
    obtain ⟨cv, cr, rfl, h7, h8⟩ := svs_cons q7
    obtain ⟨cw, cr, rfl, h9, h10⟩ := svs_cons h8
    exact lv_dup2_11 hx hb hdg ((sv_cat h7).trans (Nat.beq_eq.mp h0.1)) ((sv_cat h9).trans (Nat.beq_eq.mp h0.2)) (Hk _ _ _ _ _ h fd v M ws H locs ls clv _ hv hX hH hP hD hS hl q6 ⟨h7, h9, h7, h9, h10⟩ hd)
theorem cG_pop (hx : p.tables.exec = Jvm.exec) (hb : c.code = cc) (hdg : decode cc pc = .ok (.pop, 1)) (h : cx_pop n pc lv st ret = some L) (Hk : ∀ (n pc : Nat) (lv : SL) (st : List SV) (L : List CN), ret n pc lv st = some L → cG p l e R s m args below meth c Q dC dI cA A nL fm scr ad nc ns E Qr C Sx n pc lv st L) : cG p l e R s m args below meth c Q dC dI cA A nL fm scr ad nc ns E Qr C Sx n pc lv st L := by
  match st, h with
  | [], h => cases h
  | x :: st', h =>
    obtain ⟨h0, h⟩ := ccond h
    intro fd v M ws H locs ls clv cst hv hX hH hP hD hS hl q6 q7 hd
    obtain ⟨cv, cr, rfl, h7, h8⟩ := svs_cons q7
    exact lv_pop hx hb hdg ((sv_cat h7).trans (Nat.beq_eq.mp h0)) (Hk _ _ _ _ _ h fd v M ws H locs ls clv _ hv hX hH hP hD hS hl q6 h8 hd)
theorem cG_iinc (hx : p.tables.exec = Jvm.exec) (hb : c.code = cc) {i : Nat} {k : Int} (hdg : decode cc pc = .ok (.iinc i k, 3)) (h : cx_iinc nL i k n pc lv st ret = some L) (Hk : ∀ (n pc : Nat) (lv : SL) (st : List SV) (L : List CN), ret n pc lv st = some L → cG p l e R s m args below meth c Q dC dI cA A nL fm scr ad nc ns E Qr C Sx n pc lv st L) : cG p l e R s m args below meth c Q dC dI cA A nL fm scr ad nc ns E Qr C Sx n pc lv st L := by
  unfold cx_iinc at h
  cases hs : slk lv i with
  | none => rw [hs] at h; cases h
  | some x =>
    rw [hs] at h
    obtain ⟨h0, h⟩ := ccond h
    rw [Bool.and_eq_true] at h0
    rw [sfe_eq] at h
    obtain ⟨L', h1, rfl⟩ := ccons_ok h
    rw [sll_eq] at h1
    intro fd v M ws H locs ls clv cst hv hX hH hP hD hS hl q6 q7 hd
    obtain ⟨k9, cv, h4, h5⟩ := sls_get q6 hs
    obtain ⟨y, rfl, e1⟩ := sv_int h0.1 h5
    obtain ⟨fd', rfl, hb9, hd⟩ := cden_s hd
    have hb9 : -2147483648 ≤ sev (cen v) (saddc x.2.2 (Int32.ofInt k).toInt) ∧ sev (cen v) (saddc x.2.2 (Int32.ofInt k).toInt) ≤ 2147483647 := hb9
    refine lv_iinc hx hb hdg hl h4 rfl (zblt h0.2) rfl (fun ls' hl' => ?_)
    exact Hk _ _ _ _ _ h1 fd' v M ws H locs ls' _ cst hv hX hH hP hD hS hl' ⟨rfl, sv_mkI (siadd hb9 (by rw [saddc_ev, e1])), sls_filter i q6⟩ q7 hd
theorem cG_i2l (hx : p.tables.exec = Jvm.exec) (hb : c.code = cc) (hdg : decode cc pc = .ok (.i2l, 1)) (h : cx_i2l n pc lv st ret = some L) (Hk : ∀ (n pc : Nat) (lv : SL) (st : List SV) (L : List CN), ret n pc lv st = some L → cG p l e R s m args below meth c Q dC dI cA A nL fm scr ad nc ns E Qr C Sx n pc lv st L) : cG p l e R s m args below meth c Q dC dI cA A nL fm scr ad nc ns E Qr C Sx n pc lv st L := by
  match st, h with
  | [], h => cases h
  | x :: st', h =>
    obtain ⟨h0, h⟩ := ccond h
    intro fd v M ws H locs ls clv cst hv hX hH hP hD hS hl q6 q7 hd
    obtain ⟨cv, cr, rfl, h7, h8⟩ := svs_cons q7
    obtain ⟨a, rfl, e1⟩ := sv_int h0 h7
    exact lv_i2l hx hb hdg rfl (Hk _ _ _ _ _ h fd v M ws H locs ls clv _ hv hX hH hP hD hS hl q6 ⟨sv_mkL (by rw [Int32.toInt_toInt64, e1]), h8⟩ hd)
theorem cG_l2i (hx : p.tables.exec = Jvm.exec) (hb : c.code = cc) (hdg : decode cc pc = .ok (.l2i, 1)) (h : cx_l2i n pc lv st ret = some L) (Hk : ∀ (n pc : Nat) (lv : SL) (st : List SV) (L : List CN), ret n pc lv st = some L → cG p l e R s m args below meth c Q dC dI cA A nL fm scr ad nc ns E Qr C Sx n pc lv st L) : cG p l e R s m args below meth c Q dC dI cA A nL fm scr ad nc ns E Qr C Sx n pc lv st L := by
  match st, h with
  | [], h => cases h
  | x :: st', h =>
    obtain ⟨h0, h⟩ := ccond h
    intro fd v M ws H locs ls clv cst hv hX hH hP hD hS hl q6 q7 hd
    obtain ⟨cv, cr, rfl, h7, h8⟩ := svs_cons q7
    obtain ⟨a, rfl, e1⟩ := sv_lng h0 h7
    have hn : ∃ n', fd = n' + 1 := by
      cases fd with
      | zero => exact hd.elim
      | succ k => exact ⟨k, rfl⟩
    obtain ⟨n', rfl⟩ := hn
    refine lv_l2i hx hb hdg rfl ?_
    have hz : sfit 0 (.int a.toInt32) (cfn 10 (cE2 v x) (cE2 v x)) := Or.inl ⟨rfl, _, rfl, by rw [show cE2 v x = a.toInt from e1.symm]; show _ = (Int64.ofInt a.toInt).toInt32.toInt; rw [cofl]⟩
    exact cG_bind (fd := n') h Hk hv hX hH hP hD hS hl q6 h8 hz (fun L' e9 => by rw [e9] at hd; exact hd)
theorem cG_i2c (hx : p.tables.exec = Jvm.exec) (hb : c.code = cc) (hdg : decode cc pc = .ok (.i2c, 1)) (h : cx_i2c n pc lv st ret = some L) (Hk : ∀ (n pc : Nat) (lv : SL) (st : List SV) (L : List CN), ret n pc lv st = some L → cG p l e R s m args below meth c Q dC dI cA A nL fm scr ad nc ns E Qr C Sx n pc lv st L) : cG p l e R s m args below meth c Q dC dI cA A nL fm scr ad nc ns E Qr C Sx n pc lv st L := by
  match st, h with
  | [], h => cases h
  | x :: st', h =>
    obtain ⟨h0, h⟩ := ccond h
    obtain ⟨L', h1, rfl⟩ := ccons_ok h
    intro fd v M ws H locs ls clv cst hv hX hH hP hD hS hl q6 q7 hd
    obtain ⟨cv, cr, rfl, h7, h8⟩ := svs_cons q7
    obtain ⟨a, rfl, e1⟩ := sv_int h0 h7
    obtain ⟨fd', rfl, hb9, hd⟩ := cden_s hd
    have hb9 : 0 ≤ sev (cen v) x.2.2 ∧ sev (cen v) x.2.2 ≤ 65535 := hb9
    rw [← e1] at hb9
    exact lv_i2c hx hb hdg rfl (Hk _ _ _ _ _ h1 fd' v M ws H locs ls clv _ hv hX hH hP hD hS hl q6 ⟨sv_mkI (by rw [(s2c a).2.2 hb9, e1]), h8⟩ hd)
theorem cG_lcmp (hx : p.tables.exec = Jvm.exec) (hb : c.code = cc) (hdg : decode cc pc = .ok (.lcmp, 1)) (h : cx_lcmp n pc lv st ret = some L) (Hk : ∀ (n pc : Nat) (lv : SL) (st : List SV) (L : List CN), ret n pc lv st = some L → cG p l e R s m args below meth c Q dC dI cA A nL fm scr ad nc ns E Qr C Sx n pc lv st L) : cG p l e R s m args below meth c Q dC dI cA A nL fm scr ad nc ns E Qr C Sx n pc lv st L := by
  match st, h with
  | [], h => cases h
  | [_], h => cases h
  | y :: x :: st', h =>
    obtain ⟨h0, h⟩ := ccond h
    rw [Bool.and_eq_true] at h0
    rw [sfe_eq] at h
    obtain ⟨x1, y1, h1, h2, rfl⟩ := cbr_ok h
    obtain ⟨x2, y2, h3, h4, rfl⟩ := cbr_ok h2
    intro fd v M ws H locs ls clv cst hv hX hH hP hD hS hl q6 q7 hd
    obtain ⟨cy, cr, rfl, h5, h6⟩ := svs_cons q7
    obtain ⟨cx, cr, rfl, h7, h8⟩ := svs_cons h6
    obtain ⟨a, rfl, e1⟩ := sv_lng h0.1 h7
    obtain ⟨b, rfl, e2⟩ := sv_lng h0.2 h5
    obtain ⟨fd', rfl, hd1, hd2⟩ := cden_s hd
    simp only [List.take_left', List.drop_left', cCmp, cE2, ssub_ev] at hd1 hd2
    refine W.lcmp hx hb hdg ?_
    unfold lg_cmp
    by_cases c1 : a > b
    · rw [if_pos c1]
      have c1 : b.toInt < a.toInt := Int64.lt_iff_toInt_lt.mp c1
      exact Hk _ _ _ _ _ h1 fd' v M ws H locs ls clv _ hv hX hH hP hD hS hl q6 ⟨sv_mkI (by rw [sev_c]; rfl), h8⟩ (hd1 (by omega))
    · rw [if_neg c1]
      have c1 : ¬ b.toInt < a.toInt := fun q => c1 (Int64.lt_iff_toInt_lt.mpr q)
      obtain ⟨fd2, rfl, hd3, hd4⟩ := cden_s (hd2 (by omega))
      simp only [List.take_left', List.drop_left', cCmp, cE2, ssub_ev] at hd3 hd4
      by_cases c2 : a = b
      · rw [if_pos c2]
        exact Hk _ _ _ _ _ h3 fd2 v M ws H locs ls clv _ hv hX hH hP hD hS hl q6 ⟨sv_mkI (by rw [sev_c]; rfl), h8⟩ (hd3 (by rw [← e1, ← e2, c2]; omega))
      · rw [if_neg c2]
        have c2 : a.toInt ≠ b.toInt := fun q => c2 (Int64.toInt_inj.mp q)
        exact Hk _ _ _ _ _ h4 fd2 v M ws H locs ls clv _ hv hX hH hP hD hS hl q6 ⟨sv_mkI (by rw [sev_c]; rfl), h8⟩ (hd4 (by omega))
end CST
