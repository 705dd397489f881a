/-! the run: calls by contract or inside, to cuts and returns -/
def slkc (zm : List ZMe) (own : String) (ins : Instr) (lk : List Nat) : Bool := match ins with
  | .invokestatic idx => (match lk with
    | kd :: kc :: n :: ci :: is => cond (Nat.beq kd 7) (zchk [.methodLink own idx arraycopyName, .native arraycopyName, .static arraycopyName, .initialized "java/lang/System"] is) (cond (Nat.beq kd 8) (zchk [.methodLink own idx Lib.Math.max.name, .static Lib.Math.max.name, .initialized "java/lang/Math", .code Lib.Math.max.name Lib.Math.max.code 2 (some .int)] is) (cond (Nat.beq kd 10) (zchk [.methodLink own idx Lib.Math.min.name, .static Lib.Math.min.name, .initialized "java/lang/Math", .code Lib.Math.min.name Lib.Math.min.code 2 (some .int)] is) (cond (Nat.beq kd 11) (zchk [.methodLink own idx yLay] is) ((Nat.beq kd 0 || Nat.beq kd 1) && zcal zm own idx kd kc n ci is))))
    | _ => false)
  | .invokevirtual idx => (match lk with
    | kd :: kc :: n :: ci :: is => cond (Nat.beq kd 9) (zchk [.methodLink own idx yChr] is) (Nat.beq kd 2 && zcal zm own idx kd kc n ci is)
    | _ => false)
  | _ => true
def sok (zm : List ZMe) (me : ZMe) (q : ZI) : Bool := decide (decode me.2.2.1 q.1 = .ok (q.2.1, q.2.2.1)) && (szlok q.2.1 q.2.2.1 && (slk0 me.1 q.2.1 q.2.2.2 && slkc zm me.1 q.2.1 q.2.2.2))
def sTab (zm : List ZMe) (zc : List (List ZI)) : Prop := ∀ (k : Nat) (me : ZMe) (tb : List ZI), zm[k]? = some me → zc[k]? = some tb → ∀ q ∈ tb, sok zm me q = true
def sgp (g : SG) (k : SG → SX) : SX := match g with
  | [] => k []
  | q :: r => sfe q.2 (fun e => sgp r (fun r => k ((q.1, e) :: r)))
theorem sgp_eq (g : SG) (k : SG → SX) : sgp g k = k g := by
  induction g generalizing k with
  | nil => rfl
  | cons q r ih => simp only [sgp, sfe_eq, ih]
def sqk (a s : SV) : Bool := Nat.beq a.1 s.1 && (Nat.beq a.2.1 s.2.1 && cond (sisc a.2.2 && sisc s.2.2) (decide (a.2.2.1 = s.2.2.1)) true)
def sqL : List SV → List SV → Bool
  | [], [] => true
  | a :: r, s :: q => cond (sqk a s) (sqL r q) false
  | _, _ => false
def swlc (rg : SRg) (K : SK) (md : List (Nat × Nat)) (wlS : List (Nat × SE)) (q : Nat × SE) : Bool := cond (sisr rg q.1) (cond (smem2 q.1 0 md) (sany (fun b => Nat.beq b.1 q.1 && sent K (ssub b.2 q.2)) wlS) true) false
def sctk (rg : SRg) (mdc : List (Nat × Nat)) (wlc : List (Nat × SE)) (lw : Bool) (d : Nat) (lv : SL) (st rest : List SV) (g : SG) (w : SW) (C : SC) (wlS : List (Nat × SE)) : Bool :=
  cond (sbS w.2.1 lv st w) (cond (sall (fun q => sbe w.2.1 q.2) g) (cond (sall (fun q => smem2 q.1 q.2 mdc) C.2.2.2.2.1) (cond (sall (swlc rg w.2.2.1 C.2.2.2.2.1 wlS) wlc) (cond (sall (fun q => snad C.2.2.2.2.1 q.2) lv) (cond (sall (snad C.2.2.2.2.1) rest) (cond (cond lw (sno3 C.2.2.1) true) (cond (sall (fun X => sno3 X.1) C.2.2.2.2.2.2.1) (Nat.ble C.2.2.2.2.2.2.2 d) false) false) false) false) false) false) false) false
def sct (rg : SRg) (mdc : List (Nat × Nat)) (wlc : List (Nat × SE)) (N : Nat) (lw : Bool) (d bc bs : Nat) (lv : SL) (st rest as : List SV) (k : List SV → SW → SX) : List SC → SW → SX
  | [], _ => none
  | C :: r, w => cond (Nat.blt C.1 N && sqL C.2.2.1 as) (sgp (sbdL 0 C.2.2.1 as []) (fun g => smtm rg 0 lv st C.2.2.2.1.1.1 g w (fun g w => cond (svL 0 g w.2.2.1 C.2.2.1 as && svW 0 g w C.2.2.2.1) (match swlS g C.2.2.2.2.2.1 with
      | some wlS => cond (sctk rg mdc wlc lw d lv st rest g w C wlS) (sxits rg C.2.2.2.1.2.1 bc bs g C.2.2.2.2.1 wlS w k C.2.2.2.2.2.2.1) none
      | none => none) (sct rg mdc wlc N lw d bc bs lv st rest as k r w)))) (sct rg mdc wlc N lw d bc bs lv st rest as k r w)
def srtk (rt : Option FieldType) (K : SK) (st : List SV) : Bool := match rt, st with
  | none, [] => true
  | some ty, [v] => cond (Nat.beq v.1 0) (match ty with
    | .int => true
    | .boolean => sin K v.2.2 0 1
    | _ => false) false
  | _, _ => false
noncomputable def srp (zc : List (List ZI)) (kc : Nat) (rt : Option FieldType) (pc : Nat) : Bool := match zget zc kc with
  | some tb => (match zft tb pc with
    | some q => zstop rt q.2.1
    | none => false)
  | none => false
def scont (ok : Nat → Bool) (rt : Option FieldType) (bc bs : Nat) (w0 : SW) (pc : Nat) (lv : SL) (rest : List SV) (ret : SRt) : List SS → SX
  | [] => some []
  | Y :: r => sapp (cond (ok Y.1 && (srtk rt Y.2.2.2.2.2.1 Y.2.2.1 && (Nat.ble Y.2.2.2.2.2.2.1 bc && Nat.ble Y.2.2.2.2.2.2.2 bs))) (sn (w0.2.2.2.1 + bc) (fun nc => sn (w0.2.2.2.2 + bs) (fun ns => ret (pc + 3) lv (Y.2.2.1 ++ rest) (Y.2.2.2.1, Y.2.2.2.2.1, Y.2.2.2.2.2.1, nc, ns)))) none) (scont ok rt bc bs w0 pc lv rest ret r)
noncomputable def srcv (fm : List SF) (ci : Nat) (as : List SV) : Bool := match as with
  | v :: _ => cond (Nat.beq v.1 2) (match zget fm v.2.1 with
    | some en => (match en.2.2.2 with
      | .inl o => Nat.beq o.1 ci
      | .inr _ => false)
    | none => false) false
  | [] => false
noncomputable def sinv (zm : List ZMe) (zc : List (List ZI)) (fm : List SF) (rg : SRg) (cts : List (List SC)) (md : List (Nat × Nat)) (wl : List (Nat × SE)) (N : Nat) (rec9 : Nat → Nat → SRt) (k d : Nat) (me : ZMe) (kd kc n ci : Nat) (pc : Nat) (lv : SL) (st : List SV) (w : SW) : SX := match d, zget zm kc with
  | d' + 1, some me2 => sn (cond (Nat.ble kd 1) n (n + 1)) (fun na => sll (st.take na).reverse (fun as => sll (st.drop na) (fun rest => cond (Nat.beq as.length na && (Nat.ble (rest.map scat).sum 8 && (Nat.ble (as.map scat).sum me2.2.2.2.1 && (Nat.ble (w.2.2.2.1 + me2.2.2.2.2.2.1) me.2.2.2.2.2.1 && (Nat.ble (w.2.2.2.2 + me2.2.2.2.2.2.2) me.2.2.2.2.2.2 && cond (Nat.ble kd 1) true (srcv fm ci as))))))
    (match zget cts kc with
      | some (C :: r) => sct rg md wl N (Nat.beq k 0) d' me2.2.2.2.2.2.1 me2.2.2.2.2.2.2 lv st rest as (fun vs w => rec9 k d (pc + 3) lv (vs ++ rest) w) (C :: r) w
      | _ => cond (sall (fun q => sbe w.2.1 q.2.2.2) lv && (sall (fun v => sbe w.2.1 v.2.2) rest && (sall (fun q => snad md q.2) lv && (sall (snad md) rest && (cond (Nat.beq k 0) (sno3 as) true && !(Nat.beq kc 0)))))) (match rec9 kc d' 0 (sargs 0 as) [] (w.1, w.2.1, w.2.2.1, 0, 0) with
        | some ys => scont (srp zc kc me2.2.2.2.2.1) me2.2.2.2.2.1 me2.2.2.2.2.2.1 me2.2.2.2.2.2.2 w pc lv rest (rec9 k d) ys
        | none => none) none) none)))
  | _, _ => none
noncomputable def scll (zm : List ZMe) (zc : List (List ZI)) (fm : List SF) (rg : SRg) (cts : List (List SC)) (md : List (Nat × Nat)) (wl : List (Nat × SE)) (N : Nat) (rec9 : Nat → Nat → SRt) (k d : Nat) (me : ZMe) (lk : List Nat) (pc : Nat) (lv : SL) (st : List SV) (w : SW) : SX := match lk with
  | kd :: kc :: n :: ci :: _ => cond (Nat.beq kd 7) (cond (Nat.ble 1 d) (sx_cpy fm rg md wl pc lv st w (rec9 k d)) none) (cond (Nat.beq kd 8) (cond (Nat.ble 1 d && (Nat.ble w.2.2.2.1 me.2.2.2.2.2.1 && Nat.ble w.2.2.2.2 me.2.2.2.2.2.2)) (sx_mm true pc lv st w (rec9 k d)) none) (cond (Nat.beq kd 10) (cond (Nat.ble 1 d && (Nat.ble w.2.2.2.1 me.2.2.2.2.2.1 && Nat.ble w.2.2.2.2 me.2.2.2.2.2.2)) (sx_mm false pc lv st w (rec9 k d)) none) (cond (Nat.beq kd 9) (cond (Nat.ble 4 d && (Nat.ble w.2.2.2.1 me.2.2.2.2.2.1 && (Nat.ble w.2.2.2.2 me.2.2.2.2.2.2 && !(Nat.beq k 0)))) (sx_chr pc lv st w (rec9 k d)) none) (cond (Nat.beq kd 11) (cond (Nat.ble 12 d && (Nat.ble (w.2.2.2.1 + 1) me.2.2.2.2.2.1 && (Nat.ble (w.2.2.2.2 + 6) me.2.2.2.2.2.2 && Nat.ble 1 N))) (sx_lay md wl pc lv st w (rec9 k d)) none) (sinv zm zc fm rg cts md wl N rec9 k d me kd kc n ci pc lv st w)))))
  | _ => none
noncomputable def sdo (zm : List ZMe) (zc : List (List ZI)) (fm : List SF) (rg : SRg) (cts : List (List SC)) (md : List (Nat × Nat)) (wl : List (Nat × SE)) (N : Nat) (rec9 : Nat → Nat → SRt) (k d : Nat) (me : ZMe) (ins : Instr) (lk : List Nat) (pc : Nat) (lv : SL) (st : List SV) (w : SW) : SX := match ins with
  | .invokestatic _ => scll zm zc fm rg cts md wl N rec9 k d me lk pc lv st w
  | .invokevirtual _ => scll zm zc fm rg cts md wl N rec9 k d me lk pc lv st w
  | ins => sxi fm rg md wl (Nat.beq k 0) me.2.2.2.1 ins lk pc lv st w (rec9 k d)
def smn1 (a : Nat) : List Nat → Bool
  | [] => false
  | b :: r => cond (Nat.beq a b) true (smn1 a r)
/-- one step; 'fst' says that it is the first of a run, which doesn't stop at its own cut -/
noncomputable def sstep (zm : List ZMe) (zc : List (List ZI)) (fm : List SF) (rg : SRg) (cts : List (List SC)) (md : List (Nat × Nat)) (wl : List (Nat × SE)) (N D0 : Nat) (cuts : List Nat) (fst : Bool) (rec9 : Nat → Nat → SRt) (k d : Nat) (pc : Nat) (lv : SL) (st : List SV) (w : SW) : SX := sn pc (fun pc => match zget zm k, zget zc k with
  | some me, some tb => (match zft tb pc with
    | some q => cond (zstop me.2.2.2.2.1 q.2.1 || cond fst false (Nat.beq d D0 && smn1 pc cuts)) (some [(pc, lv, st, w)]) (sdo zm zc fm rg cts md wl N rec9 k d me q.2.1 q.2.2.2 pc lv st w)
    | none => none)
  | _, _ => none)
noncomputable def sgo (zm : List ZMe) (zc : List (List ZI)) (fm : List SF) (rg : SRg) (cts : List (List SC)) (md : List (Nat × Nat)) (wl : List (Nat × SE)) (N D0 : Nat) (cuts : List Nat) (n : Nat) : Nat → Nat → SRt := Nat.rec (motive := fun _ => Nat → Nat → SRt) (fun _ _ _ _ _ _ => none) (fun _ ih => sstep zm zc fm rg cts md wl N D0 cuts false ih) n
