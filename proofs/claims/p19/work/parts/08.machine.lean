/-! the machine of known values, and what its tables must say -/
abbrev ZMe : Type := String × MethodName × ByteArray × Nat × Option FieldType × Nat × Nat
abbrev ZI : Type := Nat × Instr × Nat × List Nat
def zl (i : Instr) : Nat := match i with
  | .iconst _ => 1
  | .lconst _ => 1
  | .bipush _ => 2
  | .sipush _ => 3
  | .ldc _ => 2
  | .ldc2_w _ => 3
  | .iload _ => 2
  | .aload _ => 2
  | .istore _ => 2
  | .astore _ => 2
  | .iinc _ _ => 3
  | .if_icmp _ _ => 3
  | .ifCond _ _ => 3
  | .goto _ => 3
  | .getfield _ => 3
  | .putfield _ => 3
  | .new _ => 3
  | .newarray _ => 2
  | .anewarray _ => 3
  | .invokespecial _ => 3
  | .invokestatic _ => 3
  | .invokevirtual _ => 3
  | _ => 1
def zlok (i : Instr) (len : Nat) : Bool := match i with
  | .tableswitch _ _ _ _ => true
  | i => Nat.beq len (zl i)
def zfl1 (ci f : Nat) (k : String → u_T → Nat → Bool) : Bool := match vwCl[ci]? with
  | some q => Nat.blt f q.2.2 && k q.1 q.2.1 q.2.2
  | none => false
theorem zfl1_ok {ci f : Nat} {k : String → u_T → Nat → Bool} (h : zfl1 ci f k = true) : ∃ C T N, vwCl[ci]? = some (C, T, N) ∧ f < N ∧ k C T N = true := by
  unfold zfl1 at h
  cases hq : vwCl[ci]? with
  | none => rw [hq] at h; cases h
  | some q =>
    rw [hq] at h
    simp only [Bool.and_eq_true] at h
    exact ⟨q.1, q.2.1, q.2.2, rfl, zblt h.1, h.2⟩
def zpf (kd : Nat) (ds : String) : Bool := match parseFieldDescriptor ds with
  | some ty => zkt kd ty
  | none => false
theorem zpf_ok {kd : Nat} {ds : String} (h : zpf kd ds = true) : ∃ ty, parseFieldDescriptor ds = some ty ∧ zkt kd ty = true := by
  unfold zpf at h
  cases hq : parseFieldDescriptor ds with
  | none => rw [hq] at h; cases h
  | some ty => rw [hq] at h; exact ⟨ty, rfl, h⟩
/-- the words that an instruction of a method needs -/
def zlk0 (own : String) (y : MethodName) (ins : Instr) (lk : List Nat) : Bool := match ins with
  | .getfield idx => (match lk with
    | [ci, f, i] => zfl1 ci f (fun _ T _ => zin i (.fieldLink own idx (T f).1 (T f).2.1 (T f).2.2.1))
    | _ => false)
  | .putfield idx => (match lk with
    | [ci, f, kd, fin, i] => zfl1 ci f (fun _ T _ => zin i (.fieldLink own idx (T f).1 (T f).2.1 (T f).2.2.1) && (zpf kd (T f).2.2.1 && cond (Nat.beq fin 0) (decide ((T f).2.2.2 = false)) (decide ((T f).2.2.2 = true) && (decide ((T f).1 = own) && decide (y.name = "<init>")))))
    | _ => false)
  | .new idx => (match lk with
    | [ci, n, i1, i2, i3] => zfl1 ci 0 (fun C _ N => Nat.beq n N && (zin i1 (.classLink own idx C) && (zin i2 (.instantiable C N) && zin i3 (.initialized C))))
    | _ => false)
  | .newarray at0 => (match lk with
    | [t, i] => Nat.blt t 4 && (decide (newarray.typeOf at0 = zty t) && zin i (.arrayClass (newarray.typeOf at0)))
    | _ => false)
  | .anewarray idx => (match lk with
    | [t, i1, _] => (match zty t with
      | .object C => (Nat.beq t 4 || Nat.beq t 5) && zin i1 (.classLink own idx C)
      | _ => false)
    | _ => false)
  | .ldc idx => (match lk with
    | [v, i] => zin i (.constant own idx (Int32.ofNat v))
    | _ => false)
  | .ldc2_w idx => (match lk with
    | [v, i] => zin i (.constantLong own idx (Int64.ofNat v))
    | _ => false)
  | .aastore => (match lk with
    | [t, ci] => (Nat.beq t 4 && Nat.beq ci 7) || (Nat.beq t 5 && Nat.beq ci 2)
    | _ => false)
  | _ => true
def zpl (v : Value) : Bool := match v with
  | .int _ => true
  | .long _ => true
  | .null => true
  | _ => false
theorem zpl_ok {g : ZG} {ad : List Nat} : ∀ {fs : List Value}, fs.all zpl = true → zvs ad g fs fs := by
  intro fs
  induction fs with
  | nil => exact fun _ => trivial
  | cons v fs ih =>
    intro h
    rw [List.all_cons, Bool.and_eq_true] at h
    refine ⟨?_, ih h.2⟩
    cases v with
    | int x => rfl
    | long x => rfl
    | null => rfl
    | _ => cases h.1
/-- one instruction that neither calls nor ends -/
noncomputable def zx (zd : List (List Value)) (E : ZN) (L k : Nat) (nL bc bs : Nat) (ins : Instr) (lk : List Nat) (pc : Nat) (lv : ZL) (st : List Value) (hp : List ZE) (nc ns : Nat) (ret : ZRt) : ZX := match ins with
  | .iconst n => zi (Int32.ofInt n) (fun x => ret (pc + 1) lv (.int x :: st) hp nc ns)
  | .bipush n => zi (Int8.ofInt n).toInt32 (fun x => ret (pc + 2) lv (.int x :: st) hp nc ns)
  | .sipush n => zi (Int16.ofInt n).toInt32 (fun x => ret (pc + 3) lv (.int x :: st) hp nc ns)
  | .ldc _ => (match lk with
    | [v, _] => zi (Int32.ofNat v) (fun x => ret (pc + 2) lv (.int x :: st) hp nc ns)
    | _ => zfail)
  | .ldc2_w _ => (match lk with
    | [v, _] => ret (pc + 3) lv (.long (Int64.ofNat v) :: st) hp nc ns
    | _ => zfail)
  | .iload_n i => zx_ld zint i.val 1 pc lv st hp nc ns ret
  | .iload i => zx_ld zint i 2 pc lv st hp nc ns ret
  | .aload_n i => zx_ld zref i.val 1 pc lv st hp nc ns ret
  | .aload i => zx_ld zref i 2 pc lv st hp nc ns ret
  | .istore_n i => zx_st zint nL i.val 1 pc lv st hp nc ns ret
  | .istore i => zx_st zint nL i 2 pc lv st hp nc ns ret
  | .astore_n i => zx_st zref nL i.val 1 pc lv st hp nc ns ret
  | .astore i => zx_st zref nL i 2 pc lv st hp nc ns ret
  | .iinc i n => zx_iinc nL i n pc lv st hp nc ns ret
  | .iadd => zx_bin E (fun a b => a + b) pc lv st hp nc ns ret
  | .isub => zx_bin E (fun a b => a - b) pc lv st hp nc ns ret
  | .imul => zx_bin E (fun a b => a * b) pc lv st hp nc ns ret
  | .ior => zx_bin E (fun a b => a ||| b) pc lv st hp nc ns ret
  | .ishl => zx_bin E (fun a b => a <<< (b &&& 31)) pc lv st hp nc ns ret
  | .ishr => zx_bin E (fun a b => a >>> (b &&& 31)) pc lv st hp nc ns ret
  | .idiv => zx_div E (fun a b => a / b) pc lv st hp nc ns ret
  | .irem => zx_div E (fun a b => a - a / b * b) pc lv st hp nc ns ret
  | .iand => zx_and E pc lv st hp nc ns ret
  | .if_icmp op off => zx_icmp E op off pc lv st hp nc ns ret
  | .ifCond op off => zx_if E op off pc lv st hp nc ns ret
  | .goto off => zj pc off (fun t => ret t lv st hp nc ns)
  | .tableswitch dflt lo hi offs => zx_tsw E dflt lo hi offs.toList pc lv st hp nc ns ret
  | .dup => zx_dup pc lv st hp nc ns ret
  | .dup2 => zx_dup2 pc lv st hp nc ns ret
  | .pop => zx_pop pc lv st hp nc ns ret
  | .getfield _ => (match lk with
    | [ci, f, _] => zx_getf ci f pc lv st hp nc ns ret
    | _ => zfail)
  | .putfield _ => (match lk with
    | [ci, f, kd, _, _] => zx_putf ci f kd pc lv st hp nc ns ret
    | _ => zfail)
  | .iaload => cond (Nat.beq k 0) (zx_sld E L pc lv st hp nc ns ret) (zx_ald E (fun t => Nat.beq t 0) pc lv st hp nc ns ret)
  | .baload => zx_ald E (fun t => Nat.beq t 1) pc lv st hp nc ns ret
  | .caload => zx_ald E (fun t => Nat.beq t 2) pc lv st hp nc ns ret
  | .laload => zx_ald E (fun t => Nat.beq t 3) pc lv st hp nc ns ret
  | .aaload => zx_ald E (fun t => Nat.beq t 4 || Nat.beq t 5) pc lv st hp nc ns ret
  | .iastore => zx_ast E 0 zfi pc lv st hp nc ns ret
  | .bastore => zx_ast E 1 (zfz E) pc lv st hp nc ns ret
  | .lastore => zx_ast E 3 zfL pc lv st hp nc ns ret
  | .aastore => (match lk with
    | [t, ci] => zx_ast E t (zfo hp ci) pc lv st hp nc ns ret
    | _ => zfail)
  | .arraylength => cond (Nat.beq k 0) (zx_slen L pc lv st hp nc ns ret) (zx_alen pc lv st hp nc ns ret)
  | .new _ => (match lk with
    | [ci, n, _, _, _] => (match zget zd ci with
      | some fs => zx_new fs ci n bc bs pc lv st hp nc ns ret
      | none => zfail)
    | _ => zfail)
  | .newarray _ => (match lk with
    | [t, _] => zx_newa E t bc bs 2 pc lv st hp nc ns ret
    | _ => zfail)
  | .anewarray _ => (match lk with
    | [t, _, _] => zx_newa E t bc bs 3 pc lv st hp nc ns ret
    | _ => zfail)
  | _ => zfail
/-- what is known of the classes -/
def zCl (zd : List (List Value)) : Prop := ∀ (ci : Nat) (C : String) (T : u_T) (N : Nat), vwCl[ci]? = some (C, T, N) → (∀ w ∈ u_ws C T N, w ∈ zT) ∧ ∃ ty0 : Nat → FieldType, (∀ k, k < N → parseFieldDescriptor (T k).2.2.1 = some (ty0 k)) ∧ (∀ a, a < N → ∀ b, b < N → a ≠ b → (T a).2.1 ≠ (T b).2.1) ∧ ∃ fs, zd[ci]? = some fs ∧ fs.all zpl = true ∧ ∀ j, j < N → defaultValue (ty0 j) = vp_V fs j
section ZMA
variable {p : Program} {l : Launch} {e : Env} {R : Room} {s : State} {m : MethodId} {args : Array Value} {below : List Frame} {meth : Method} {c : Code} {Q : State → Prop} {dC : Nat → ClassId} {dI : Nat → Nat → Nat} {cA : Nat → ClassId} {g : ZG} {A : Nat → Prop} {nL : Nat} {cc : ByteArray} {pc : Nat} {lv : ZL} {st : List Value} {hp : List ZE} {nc ns : Nat} {ret : ZRt} {r : ZS} {E : ZN} {own : String}
set_option maxHeartbeats 4000000 in
theorem zx_sound {zd : List (List Value)} {L k bc bs len : Nat} {y : MethodName} {ins : Instr} {lk : List Nat} (hcl : zCl zd) (hz9 : zX s) (hx : p.tables.exec = Jvm.exec) (hb : c.code = cc) (hown : s.vm.findClass own = some m.cls) (hts : ∀ w ∈ zT, w.before args s = true) (hK : va_K (dC, dI) vwCl (ztys cA) s) (hA : ∀ q, s.heap.size ≤ q → A q) (hE : zen E g) (hg : g.1 7 = g.1 0 &&& 31) (hRc : bc ≤ R.cells) (hRs : bs ≤ R.slots) (hI : y.name = "<init>" → meth.name = "<init>")
    (hscr : k = 0 → ∃ xs : Nat → Int32, va_X g.2.1 L xs s s.heap ∧ g.2.1 < s.heap.size ∧ ¬ A g.2.1 ∧ (∀ j, j < L → g.1 j = xs j) ∧ L < 2 ^ 31)
    (hdg : decode cc pc = .ok (ins, len)) (hlen : zlok ins len = true) (hlk : zlk0 own y ins lk = true) (h : zx zd E L k nL bc bs ins lk pc lv st hp nc ns ret = .ok r) (Hk : ∀ (pc : Nat) (lv : ZL) (st : List Value) (hp : List ZE) (nc ns : Nat), ret pc lv st hp nc ns = .ok r → zW p l e R s m args below meth c Q dC dI cA g A nL pc lv st hp nc ns) : zW p l e R s m args below meth c Q dC dI cA g A nL pc lv st hp nc ns := by
  cases ins with
  | iconst n =>
    cases Nat.beq_eq.mp (show Nat.beq len 1 = true from hlen)
    simp only [zx, zi_eq] at h
    exact zs_push (v := .int _) (fun _ => rfl) (fun H locs ls cst w => lv_iconst hx hb hdg rfl w) (Hk _ _ _ _ _ _ h)
  | bipush n =>
    cases Nat.beq_eq.mp (show Nat.beq len 2 = true from hlen)
    simp only [zx, zi_eq] at h
    exact zs_push (v := .int _) (fun _ => rfl) (fun H locs ls cst w => lv_bipush hx hb hdg rfl w) (Hk _ _ _ _ _ _ h)
  | sipush n =>
    cases Nat.beq_eq.mp (show Nat.beq len 3 = true from hlen)
    simp only [zx, zi_eq] at h
    exact zs_push (v := .int _) (fun _ => rfl) (fun H locs ls cst w => lv_sipush hx hb hdg rfl w) (Hk _ _ _ _ _ _ h)
  | ldc idx =>
    cases Nat.beq_eq.mp (show Nat.beq len 2 = true from hlen)
    match lk, hlk, h with
    | [v, i], hlk, h =>
      simp only [zx, zi_eq] at h
      exact zs_push (v := .int _) (fun _ => rfl) (fun H locs ls cst w => lv_ldc hx hb hown (hts _ (zin_ok hlk)) hdg w) (Hk _ _ _ _ _ _ h)
    | [], hlk, h => cases hlk
    | [_], hlk, h => cases hlk
    | _ :: _ :: _ :: _, hlk, h => cases hlk
  | ldc2_w idx =>
    cases Nat.beq_eq.mp (show Nat.beq len 3 = true from hlen)
    match lk, hlk, h with
    | [v, i], hlk, h =>
      simp only [zx] at h
      exact zs_push (v := .long _) (fun _ => rfl) (fun H locs ls cst w => lv_ldc2 hx hb hown (hts _ (zin_ok hlk)) hdg w) (Hk _ _ _ _ _ _ h)
    | [], hlk, h => cases hlk
    | [_], hlk, h => cases hlk
    | _ :: _ :: _ :: _, hlk, h => cases hlk
  | iload_n i =>
    cases Nat.beq_eq.mp (show Nat.beq len 1 = true from hlen)
    exact zs_iload_n hx hb hdg h Hk
  | iload i =>
    cases Nat.beq_eq.mp (show Nat.beq len 2 = true from hlen)
    exact zs_iload hx hb hdg h Hk
  | aload_n i =>
    cases Nat.beq_eq.mp (show Nat.beq len 1 = true from hlen)
    exact zs_aload_n hx hb hdg h Hk
  | aload i =>
    cases Nat.beq_eq.mp (show Nat.beq len 2 = true from hlen)
    exact zs_aload hx hb hdg h Hk
  | istore_n i =>
    cases Nat.beq_eq.mp (show Nat.beq len 1 = true from hlen)
    exact zs_istore_n hx hb hdg h Hk
  | istore i =>
    cases Nat.beq_eq.mp (show Nat.beq len 2 = true from hlen)
    exact zs_istore hx hb hdg h Hk
  | astore_n i =>
    cases Nat.beq_eq.mp (show Nat.beq len 1 = true from hlen)
    exact zs_astore_n hx hb hdg h Hk
  | astore i =>
    cases Nat.beq_eq.mp (show Nat.beq len 2 = true from hlen)
    exact zs_astore hx hb hdg h Hk
  | iinc i n =>
    cases Nat.beq_eq.mp (show Nat.beq len 3 = true from hlen)
    exact zs_iinc hx hb hdg h Hk
  | iadd =>
    cases Nat.beq_eq.mp (show Nat.beq len 1 = true from hlen)
    exact zs_bin hE (fun a b H locs ls cst w => lv_iadd hx hb hdg w) h Hk
  | isub =>
    cases Nat.beq_eq.mp (show Nat.beq len 1 = true from hlen)
    exact zs_bin hE (fun a b H locs ls cst w => lv_isub hx hb hdg w) h Hk
  | imul =>
    cases Nat.beq_eq.mp (show Nat.beq len 1 = true from hlen)
    exact zs_bin hE (fun a b H locs ls cst w => lv_imul hx hb hdg w) h Hk
  | ior =>
    cases Nat.beq_eq.mp (show Nat.beq len 1 = true from hlen)
    exact zs_bin hE (fun a b H locs ls cst w => lv_ior hx hb hdg w) h Hk
  | ishl =>
    cases Nat.beq_eq.mp (show Nat.beq len 1 = true from hlen)
    exact zs_bin hE (fun a b H locs ls cst w => lv_ishl hx hb hdg w) h Hk
  | ishr =>
    cases Nat.beq_eq.mp (show Nat.beq len 1 = true from hlen)
    exact zs_bin hE (fun a b H locs ls cst w => lv_ishr hx hb hdg w) h Hk
  | idiv =>
    cases Nat.beq_eq.mp (show Nat.beq len 1 = true from hlen)
    exact zs_div hE (fun a b H locs ls cst hne w => lv_idiv hx hb hdg hne w) h Hk
  | irem =>
    cases Nat.beq_eq.mp (show Nat.beq len 1 = true from hlen)
    exact zs_div hE (fun a b H locs ls cst hne w => lv_irem hx hb hdg hne w) h Hk
  | iand =>
    cases Nat.beq_eq.mp (show Nat.beq len 1 = true from hlen)
    exact zs_and hx hb hE hg hdg h Hk
  | if_icmp op off =>
    cases Nat.beq_eq.mp (show Nat.beq len 3 = true from hlen)
    exact zs_icmp hx hb hE hdg h Hk
  | ifCond op off =>
    cases Nat.beq_eq.mp (show Nat.beq len 3 = true from hlen)
    exact zs_if hx hb hE hdg h Hk
  | goto off =>
    cases Nat.beq_eq.mp (show Nat.beq len 3 = true from hlen)
    exact zs_goto hx hb hdg h Hk
  | tableswitch dflt lo hi offs => exact zs_tsw hx hb hE hdg h Hk
  | dup =>
    cases Nat.beq_eq.mp (show Nat.beq len 1 = true from hlen)
    exact zs_dup hx hb hdg h Hk
  | dup2 =>
    cases Nat.beq_eq.mp (show Nat.beq len 1 = true from hlen)
    exact zs_dup2 hx hb hdg h Hk
  | pop =>
    cases Nat.beq_eq.mp (show Nat.beq len 1 = true from hlen)
    exact zs_pop hx hb hdg h Hk
  | getfield idx =>
    cases Nat.beq_eq.mp (show Nat.beq len 3 = true from hlen)
    match lk, hlk, h with
    | [ci, f, i], hlk, h =>
      simp only [zlk0] at hlk
      obtain ⟨C, T, N, h1, h2, h3⟩ := zfl1_ok hlk
      exact zs_getf hx hb hown hts hK (hcl ci C T N h1).1 h1 h2 (zin_ok h3) hdg h Hk
    | [], hlk, h => cases hlk
    | [_], hlk, h => cases hlk
    | [_, _], hlk, h => cases hlk
    | _ :: _ :: _ :: _ :: _, hlk, h => cases hlk
  | putfield idx =>
    cases Nat.beq_eq.mp (show Nat.beq len 3 = true from hlen)
    match lk, hlk, h with
    | [ci, f, kd, fin, i], hlk, h =>
      simp only [zlk0] at hlk
      obtain ⟨C, T, N, h1, h2, h3⟩ := zfl1_ok hlk
      rw [Bool.and_eq_true, Bool.and_eq_true] at h3
      obtain ⟨h4, h5, h6⟩ := h3
      obtain ⟨ty, h7, h8⟩ := zpf_ok h5
      obtain ⟨q1, ty0, q2, q3, -⟩ := hcl ci C T N h1
      cases hf : Nat.beq fin 0 with
      | true =>
        rw [hf, cond_true] at h6
        exact zs_putf hx hb hown hts hK q1 q2 q3 h1 h2 (zin_ok h4) (of_decide_eq_true h6) h7 h8 hdg h Hk
      | false =>
        rw [hf, cond_false, Bool.and_eq_true, Bool.and_eq_true] at h6
        exact zs_putF hx hb hown hts hK q1 q2 q3 h1 h2 (zin_ok h4) (of_decide_eq_true h6.1) (hI (of_decide_eq_true h6.2.2)) (of_decide_eq_true h6.2.1) h7 h8 hdg h Hk
    | [], hlk, h => cases hlk
    | [_], hlk, h => cases hlk
    | [_, _], hlk, h => cases hlk
    | [_, _, _], hlk, h => cases hlk
    | [_, _, _, _], hlk, h => cases hlk
    | _ :: _ :: _ :: _ :: _ :: _ :: _, hlk, h => cases hlk
  | iaload =>
    cases Nat.beq_eq.mp (show Nat.beq len 1 = true from hlen)
    simp only [zx] at h
    cases hk : Nat.beq k 0 with
    | true =>
      rw [hk, cond_true] at h
      obtain ⟨xs, q1, q2, q3, q4, q5⟩ := hscr (Nat.beq_eq.mp hk)
      exact zs_sld hx hb hE q1 q2 q3 q4 q5 hdg h Hk
    | false =>
      rw [hk, cond_false] at h
      exact zs_iald hx hb hK hE hdg h Hk
  | baload =>
    cases Nat.beq_eq.mp (show Nat.beq len 1 = true from hlen)
    exact zs_zald hx hb hK hE hdg h Hk
  | caload =>
    cases Nat.beq_eq.mp (show Nat.beq len 1 = true from hlen)
    exact zs_cald hx hb hK hE hdg h Hk
  | laload =>
    cases Nat.beq_eq.mp (show Nat.beq len 1 = true from hlen)
    exact zs_lald hx hb hK hE hdg h Hk
  | aaload =>
    cases Nat.beq_eq.mp (show Nat.beq len 1 = true from hlen)
    exact zs_aald hx hb hK hE hdg h Hk
  | iastore =>
    cases Nat.beq_eq.mp (show Nat.beq len 1 = true from hlen)
    exact zs_iast hx hb hK hE hdg h Hk
  | bastore =>
    cases Nat.beq_eq.mp (show Nat.beq len 1 = true from hlen)
    exact zs_zast hx hb hK hE hdg h Hk
  | lastore =>
    cases Nat.beq_eq.mp (show Nat.beq len 1 = true from hlen)
    exact zs_last hx hb hK hE hdg h Hk
  | aastore =>
    cases Nat.beq_eq.mp (show Nat.beq len 1 = true from hlen)
    match lk, hlk, h with
    | [t, ci], hlk, h =>
      have h1 : ((Nat.beq t 4 && Nat.beq ci 7) || (Nat.beq t 5 && Nat.beq ci 2)) = true := hlk
      rw [Bool.or_eq_true, Bool.and_eq_true, Bool.and_eq_true] at h1
      exact zs_aast hx hb hK hE (h1.imp (fun q => ⟨Nat.beq_eq.mp q.1, Nat.beq_eq.mp q.2⟩) (fun q => ⟨Nat.beq_eq.mp q.1, Nat.beq_eq.mp q.2⟩)) hdg h Hk
    | [], hlk, h => cases hlk
    | [_], hlk, h => cases hlk
    | _ :: _ :: _ :: _, hlk, h => cases hlk
  | arraylength =>
    cases Nat.beq_eq.mp (show Nat.beq len 1 = true from hlen)
    simp only [zx] at h
    cases hk : Nat.beq k 0 with
    | true =>
      rw [hk, cond_true] at h
      obtain ⟨xs, q1, q2, q3, q4, q5⟩ := hscr (Nat.beq_eq.mp hk)
      exact zs_slen hx hb q1 q2 q3 hdg h Hk
    | false =>
      rw [hk, cond_false] at h
      exact zs_alen hx hb hK hdg h Hk
  | new idx =>
    cases Nat.beq_eq.mp (show Nat.beq len 3 = true from hlen)
    match lk, hlk, h with
    | [ci, n, i1, i2, i3], hlk, h =>
      simp only [zlk0] at hlk
      obtain ⟨C, T, N, h1, h2, h3⟩ := zfl1_ok hlk
      rw [Bool.and_eq_true, Bool.and_eq_true, Bool.and_eq_true] at h3
      obtain ⟨h4, h5, h6, h7⟩ := h3
      cases Nat.beq_eq.mp h4
      obtain ⟨q1, ty0, q2, q3, fs, q4, q5, q6⟩ := hcl ci C T n h1
      simp only [zx, zget_eq, q4] at h
      exact zs_new hx hb hown hts hK hA hRc hRs q1 q2 h1 q6 (fun ad => zpl_ok q5) (zin_ok h5) (zin_ok h6) (zin_ok h7) hdg h Hk
    | [], hlk, h => cases hlk
    | [_], hlk, h => cases hlk
    | [_, _], hlk, h => cases hlk
    | [_, _, _], hlk, h => cases hlk
    | [_, _, _, _], hlk, h => cases hlk
    | _ :: _ :: _ :: _ :: _ :: _ :: _, hlk, h => cases hlk
  | newarray at0 =>
    cases Nat.beq_eq.mp (show Nat.beq len 2 = true from hlen)
    match lk, hlk, h with
    | [t, i], hlk, h =>
      have h1 : (Nat.blt t 4 && (decide (newarray.typeOf at0 = zty t) && zin i (.arrayClass (newarray.typeOf at0)))) = true := hlk
      rw [Bool.and_eq_true, Bool.and_eq_true] at h1
      exact zs_newa hx hb hts hK hE hA hRc hRs (zblt h1.1) (of_decide_eq_true h1.2.1) (zin_ok h1.2.2) hdg h Hk
    | [], hlk, h => cases hlk
    | [_], hlk, h => cases hlk
    | _ :: _ :: _ :: _, hlk, h => cases hlk
  | anewarray idx =>
    cases Nat.beq_eq.mp (show Nat.beq len 3 = true from hlen)
    match lk, hlk, h with
    | [t, i1, i2], hlk, h =>
      simp only [zlk0] at hlk
      cases hz : zty t with
      | object C =>
        rw [hz] at hlk
        simp only [Bool.and_eq_true, Bool.or_eq_true] at hlk
        have ho : va_AO C s := by
          rcases hlk.1 with z | z
          · cases Nat.beq_eq.mp z
            cases hz
            exact hz9.2.1
          · cases Nat.beq_eq.mp z
            cases hz
            exact hz9.2.2
        exact zs_anewa hx hb hown hts hK hE hA hRc hRs (hlk.1.imp Nat.beq_eq.mp Nat.beq_eq.mp) hz (zin_ok hlk.2) ho hdg h Hk
      | _ => rw [hz] at hlk; cases hlk
    | [], hlk, h => cases hlk
    | [_], hlk, h => cases hlk
    | [_, _], hlk, h => cases hlk
    | _ :: _ :: _ :: _ :: _, hlk, h => cases hlk
  | _ => cases h
end ZMA
