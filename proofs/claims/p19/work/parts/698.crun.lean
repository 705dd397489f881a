/-! calls; every instruction; the run to cuts and returns; a method's contract -/
def cK (a : CA) : SV := (a.1, a.2.1, sc a.2.2)
/-- from these arguments and numbers the method comes to these -/
def cBG (zm : List ZMe) (fm : List SF) (EX : SEx) (l : Launch) (dC : Nat → ClassId) (dI : Nat → Nat → Nat) (cA : Nat → ClassId) (ad : SAd) (scrS : Nat) (d kc : Nat) (as : List CA) (M : SMem) (post : List Int → SMem → Prop) : Prop := ∀ (me : ZMe), zm[kc]? = some me → ∀ (ws : va_W) (cas : List Value), sH fm ad M cA ws → svs fm scrS (fun _ => 0) ad (as.map cK) cas → sRun d me EX l dC dI cA ws cas (fun rr ws' => ∃ (r : List Int) (M' : SMem), (∃ xs : List Int32, rr = xs.map Value.int ∧ xs.map Int32.toInt = r) ∧ sH fm ad M' cA ws' ∧ post r M')
theorem cBG_mono {zm : List ZMe} {fm : List SF} {EX : SEx} {l : Launch} {dC : Nat → ClassId} {dI : Nat → Nat → Nat} {cA : Nat → ClassId} {ad : SAd} {scrS d d' kc : Nat} {as : List CA} {M : SMem} {post : List Int → SMem → Prop} (hd : d ≤ d') (h : cBG zm fm EX l dC dI cA ad scrS d kc as M post) : cBG zm fm EX l dC dI cA ad scrS d' kc as M post := fun me hm ws cas h1 h2 => sRun_mono hd (h me hm ws cas h1 h2)
theorem sv_conc {fm : List SF} {scr : Nat} {ρ ρ' : Nat → Int} {ad : SAd} {x : SV} {c : Value} (h : sv fm scr ρ ad x c) : sv fm scr ρ' ad (x.1, x.2.1, sc (sev ρ x.2.2)) c := by
  unfold sv at h ⊢
  rw [sev_c]
  exact h
theorem svs_conc {fm : List SF} {scr : Nat} {v : List Int} {ρ' : Nat → Int} {ad : SAd} : ∀ {vs : List SV} {cs : List Value}, svs fm scr (cen v) ad vs cs → svs fm scr ρ' ad ((cAs v vs).map cK) cs := by
  intro vs
  induction vs with
  | nil => intro cs h; cases svs_nil h; trivial
  | cons x vs ih =>
    intro cs h
    obtain ⟨c, r, rfl, h1, h2⟩ := svs_cons h
    exact ⟨sv_conc h1, ih h2⟩
theorem svs_cback {fm : List SF} {scr : Nat} {v : List Int} {ρ' : Nat → Int} {ad : SAd} : ∀ {vs : List SV} {cs : List Value}, svs fm scr ρ' ad ((cAs v vs).map cK) cs → svs fm scr (cen v) ad vs cs := by
  intro vs
  induction vs with
  | nil => intro cs h; cases svs_nil h; trivial
  | cons x vs ih =>
    intro cs h
    obtain ⟨c, r, rfl, h1, h2⟩ := svs_cons h
    refine ⟨?_, ih h2⟩
    have h1 : sv fm scr ρ' ad (x.1, x.2.1, sc (sev (cen v) x.2.2)) c := h1
    unfold sv at h1 ⊢
    rw [sev_c] at h1
    exact h1
noncomputable def cx_call (zm : List ZMe) (fm : List SF) (kd kc na ci n pc : Nat) (lv : SL) (st : List SV) (ret : CRt) : CX := match zget zm kc with
  | some me2 => sll (st.take na).reverse (fun as => sll (st.drop na) (fun rest => cond (Nat.beq as.length na && (Nat.ble (rest.map scat).sum 8 && (Nat.ble (as.map scat).sum me2.2.2.2.1 && (Nat.beq me2.2.2.2.2.2.1 0 && (Nat.beq me2.2.2.2.2.2.2 0 && (cond (Nat.ble kd 1) true (srcv fm ci as) && sno3 as))))))
    (match me2.2.2.2.2.1 with
      | none => ccons (8, kc, 0, as) (ret n (pc + 3) lv rest)
      | some _ => cbind (8, kc, 1, as) 0 n (pc + 3) lv rest ret) none))
  | none => none
def cx_mm (o n pc : Nat) (lv : SL) (st : List SV) (ret : CRt) : CX := match st with
  | y :: x :: st' => cond (Nat.beq x.1 0 && (Nat.beq y.1 0 && Nat.ble ((st'.map scat).sum) 8)) (cbind (5, o, 0, [x, y]) 0 n (pc + 3) lv st' ret) none
  | _ => none
noncomputable def cx_inv (zm : List ZMe) (fm : List SF) (lk : List Nat) (n pc : Nat) (lv : SL) (st : List SV) (ret : CRt) : CX := match lk with
  | kd :: kc :: k :: ci :: _ => cond (Nat.beq kd 7) (cx_cpy fm n pc lv st ret) (cond (Nat.beq kd 8) (cx_mm 11 n pc lv st ret) (cond (Nat.beq kd 10) (cx_mm 12 n pc lv st ret) (cond (Nat.ble kd 2) (sn (cond (Nat.ble kd 1) k (k + 1)) (fun na => cx_call zm fm kd kc na ci n pc lv st ret)) none)))
  | _ => none
noncomputable def cxi (zm : List ZMe) (fm : List SF) (lw : Bool) (nL : Nat) (ins : Instr) (lk : List Nat) (n pc : Nat) (lv : SL) (st : List SV) (ret : CRt) : CX := match ins with
  | .iconst k => sfi (Int32.ofInt k).toInt (fun x => ret n (pc + 1) lv ((0, 0, sc x) :: st))
  | .bipush k => sfi (Int8.ofInt k).toInt32.toInt (fun x => ret n (pc + 2) lv ((0, 0, sc x) :: st))
  | .sipush k => sfi (Int16.ofInt k).toInt32.toInt (fun x => ret n (pc + 3) lv ((0, 0, sc x) :: st))
  | .lconst k => sfi (Int64.ofNat k.val).toInt (fun x => ret n (pc + 1) lv ((1, 0, sc x) :: st))
  | .ldc_w _ => (match lk with
    | [v, _] => sfi (Int32.ofNat v).toInt (fun x => ret n (pc + 3) lv ((0, 0, sc x) :: st))
    | _ => none)
  | .ldc2_w _ => (match lk with
    | [v, _] => sfi (Int64.ofNat v).toInt (fun x => ret n (pc + 3) lv ((1, 0, sc x) :: st))
    | _ => none)
  | .iload_n i => cx_ld sti i.val 1 n pc lv st ret
  | .iload i => cx_ld sti i 2 n pc lv st ret
  | .aload_n i => cx_ld str i.val 1 n pc lv st ret
  | .aload i => cx_ld str i 2 n pc lv st ret
  | .lload_n i => cx_ld stl i.val 1 n pc lv st ret
  | .lload i => cx_ld stl i 2 n pc lv st ret
  | .istore_n i => cx_st sti nL i.val 1 n pc lv st ret
  | .istore i => cx_st sti nL i 2 n pc lv st ret
  | .astore_n i => cx_st str nL i.val 1 n pc lv st ret
  | .astore i => cx_st str nL i 2 n pc lv st ret
  | .iinc i k => cx_iinc nL i k n pc lv st ret
  | .iadd => cx_lin 0 0 sadd n pc lv st ret
  | .isub => cx_lin 0 0 ssub n pc lv st ret
  | .imul => cx_mul 0 0 4 n pc lv st ret
  | .ladd => cx_lin 1 3 sadd n pc lv st ret
  | .lsub => cx_lin 1 3 ssub n pc lv st ret
  | .iand => cx_op 0 0 0 0 n pc lv st ret
  | .ior => cx_op 0 0 0 1 n pc lv st ret
  | .ishl => cx_op 0 0 0 2 n pc lv st ret
  | .ishr => cx_op 0 0 0 3 n pc lv st ret
  | .idiv => cx_div 13 n pc lv st ret
  | .irem => cx_div 14 n pc lv st ret
  | .land => cx_op 1 1 1 5 n pc lv st ret
  | .lor => cx_op 1 1 1 6 n pc lv st ret
  | .lshl => cx_op 1 0 1 7 n pc lv st ret
  | .lshr => cx_op 1 0 1 8 n pc lv st ret
  | .lushr => cx_op 1 0 1 9 n pc lv st ret
  | .i2l => cx_i2l n pc lv st ret
  | .l2i => cx_l2i n pc lv st ret
  | .i2c => cx_i2c n pc lv st ret
  | .lcmp => cx_lcmp n pc lv st ret
  | .if_icmp op off => cx_icmp op off n pc lv st ret
  | .ifCond op off => cx_if op off n pc lv st ret
  | .goto off => cjmp pc off (fun t => ret n t lv st)
  | .tableswitch dflt lo hi offs => cx_tsw dflt lo hi offs.toList n pc lv st ret
  | .dup => cx_dup n pc lv st ret
  | .dup2 => cx_dup2 n pc lv st ret
  | .pop => cx_pop n pc lv st ret
  | .getfield _ => (match lk with
    | [ci, f, _] => cx_getf fm ci f n pc lv st ret
    | _ => none)
  | .putfield _ => (match lk with
    | [ci, f, kd, _] => cx_putf fm ci f kd n pc lv st ret
    | _ => none)
  | .iaload => cond lw (cx_sld n pc lv st ret) (cx_ald fm 0 0 n pc lv st ret)
  | .baload => cx_ald fm 1 0 n pc lv st ret
  | .caload => cx_ald fm 2 0 n pc lv st ret
  | .laload => cx_ald fm 3 1 n pc lv st ret
  | .aaload => cx_aald fm n pc lv st ret
  | .iastore => cx_ast fm 0 0 n pc lv st ret
  | .bastore => cx_ast fm 1 0 n pc lv st ret
  | .castore => cx_ast fm 2 0 n pc lv st ret
  | .lastore => cx_ast fm 3 1 n pc lv st ret
  | .arraylength => cond lw none (cx_len fm n pc lv st ret)
  | .invokestatic _ => cx_inv zm fm lk n pc lv st ret
  | .invokevirtual _ => cx_inv zm fm lk n pc lv st ret
  | _ => none
/-- the locals, where a cut wants them: those that the cut's numbers name -/
def cutm (lv : SL) : SL → Nat → Option (List SV)
  | [], _ => some []
  | q :: r, k => match slk lv q.1 with
    | some x => cond (Nat.beq x.1 q.2.1 && Nat.beq x.2.1 q.2.2.1) (cond (sisc q.2.2.2) (cond (sbeq x.2.2 q.2.2.2) (cutm lv r k) none) (cond (sbeq q.2.2.2 (sy k)) (match cutm lv r (k + 1) with
      | some es => some (x :: es)
      | none => none) none)) none
    | none => none
def cfind (pc : Nat) : List (Nat × SL) → Option SL
  | [] => none
  | q :: r => cond (Nat.beq q.1 pc) (some q.2) (cfind pc r)
def crk (rt : Option FieldType) : Option Nat := match rt with
  | none => some 0
  | some .int => some 0
  | some .boolean => some 1
  | _ => none
def cretn (rt : Option FieldType) (st : List SV) : CX := match rt, st with
  | none, [] => some [(10, 0, 0, [])]
  | some ty, [x] => cond (Nat.beq x.1 0) (match crk (some ty) with
    | some k => some [(10, k, 0, [x])]
    | none => none) none
  | _, _ => none
noncomputable def cstp (zm : List ZMe) (zc : List (List ZI)) (fm : List SF) (cu : List (Nat × SL)) (fst : Bool) (k : Nat) (rec9 : CRt) (n pc : Nat) (lv : SL) (st : List SV) : CX := match cond fst none (cfind pc cu) with
  | some T => (match st with
    | [] => (match cutm lv T 0 with
      | some es => some [(9, pc, 0, es)]
      | none => none)
    | _ => none)
  | none => (match zget zm k with
    | some me => (match zget zc k with
      | some tb => (match zft tb pc with
        | some q => cond (zstop me.2.2.2.2.1 q.2.1) (cretn me.2.2.2.2.1 st) (cxi zm fm (Nat.beq k 0) me.2.2.2.1 q.2.1 q.2.2.2 n pc lv st rec9)
        | none => some [])
      | none => none)
    | none => none)
noncomputable def cgo (zm : List ZMe) (zc : List (List ZI)) (fm : List SF) (cu : List (Nat × SL)) (k : Nat) (f : Nat) : CRt := Nat.rec (motive := fun _ => CRt) (fun _ _ _ _ => none) (fun _ ih n pc lv st => sn pc (fun pc => cstp zm zc fm cu false k ih n pc lv st)) f
