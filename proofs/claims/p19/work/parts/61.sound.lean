/-! every instruction is the machine's -/
section SXT
variable {p : Program} {l : Launch} {e : Env} {R : Room} {s : State} {m : MethodId} {args : Array Value} {below : List Frame} {meth : Method} {c : Code} {Q : State → Prop} {dC : Nat → ClassId} {dI : Nat → Nat → Nat} {cA : Nat → ClassId} {A : Nat → Prop} {nL : Nat} {fm : List SF} {rg : SRg} {wr : SWr} {scr n0 : Nat} {ρ0 : Nat → Int} {M0 : SMem} {ad0 : SAd} {nc0 ns0 : Nat} {cc : ByteArray} {pc : Nat} {lv : SL} {st : List SV} {w : SW} {ret : SRt} {xs : List SS} {own : String}
variable {md : List (Nat × Nat)} {wl : List (Nat × SE)}
theorem srow_iload (hx : p.tables.exec = Jvm.exec) (hb : c.code = cc) {i n : Nat} {ins : Instr} (hrow : ∀ (x : Int32) (H : Heap) (locs : List Loc) (ls : Array Slot) (cst : List Value), ls[i]? = some (.val (.int x)) → W p l e R s m args below meth c H locs (nc0 + w.2.2.2.1) (ns0 + w.2.2.2.2) Q (F0 m (pc + n) ls (.int x :: cst)) → W p l e R s m args below meth c H locs (nc0 + w.2.2.2.1) (ns0 + w.2.2.2.2) Q (F0 m pc ls cst)) (h : sub (sx_ld sti i n pc lv st w ret) xs) (Hk : ∀ (pc : Nat) (lv : SL) (st : List SV) (w : SW), sub (ret pc lv st w) xs → sW p l e R s m args below meth c Q dC dI cA A nL fm rg sX sfI wr scr n0 ρ0 M0 ad0 nc0 ns0 pc lv st w) : sW p l e R s m args below meth c Q dC dI cA A nL fm rg sX sfI wr scr n0 ρ0 M0 ad0 nc0 ns0 pc lv st w := by
  refine ss_ld (f := sti) (fun v ρ ad cv H locs ls cst h1 h2 h3 h4 => ?_) h Hk
  obtain ⟨x, rfl, -⟩ := sv_int h1 h2
  exact hrow x H locs ls cst h3 h4
theorem srow_lload (hx : p.tables.exec = Jvm.exec) (hb : c.code = cc) {i n : Nat} {ins : Instr} (hrow : ∀ (x : Int64) (H : Heap) (locs : List Loc) (ls : Array Slot) (cst : List Value), ls[i]? = some (.val (.long x)) → W p l e R s m args below meth c H locs (nc0 + w.2.2.2.1) (ns0 + w.2.2.2.2) Q (F0 m (pc + n) ls (.long x :: cst)) → W p l e R s m args below meth c H locs (nc0 + w.2.2.2.1) (ns0 + w.2.2.2.2) Q (F0 m pc ls cst)) (h : sub (sx_ld stl i n pc lv st w ret) xs) (Hk : ∀ (pc : Nat) (lv : SL) (st : List SV) (w : SW), sub (ret pc lv st w) xs → sW p l e R s m args below meth c Q dC dI cA A nL fm rg sX sfI wr scr n0 ρ0 M0 ad0 nc0 ns0 pc lv st w) : sW p l e R s m args below meth c Q dC dI cA A nL fm rg sX sfI wr scr n0 ρ0 M0 ad0 nc0 ns0 pc lv st w := by
  refine ss_ld (f := stl) (fun v ρ ad cv H locs ls cst h1 h2 h3 h4 => ?_) h Hk
  obtain ⟨x, rfl, -⟩ := sv_lng h1 h2
  exact hrow x H locs ls cst h3 h4
theorem srow_aload (hx : p.tables.exec = Jvm.exec) (hb : c.code = cc) {i n : Nat} {ins : Instr} (hrow : ∀ (x : Nat) (H : Heap) (locs : List Loc) (ls : Array Slot) (cst : List Value), ls[i]? = some (.val (.ref x)) → W p l e R s m args below meth c H locs (nc0 + w.2.2.2.1) (ns0 + w.2.2.2.2) Q (F0 m (pc + n) ls (.ref x :: cst)) → W p l e R s m args below meth c H locs (nc0 + w.2.2.2.1) (ns0 + w.2.2.2.2) Q (F0 m pc ls cst)) (h : sub (sx_ld str i n pc lv st w ret) xs) (Hk : ∀ (pc : Nat) (lv : SL) (st : List SV) (w : SW), sub (ret pc lv st w) xs → sW p l e R s m args below meth c Q dC dI cA A nL fm rg sX sfI wr scr n0 ρ0 M0 ad0 nc0 ns0 pc lv st w) : sW p l e R s m args below meth c Q dC dI cA A nL fm rg sX sfI wr scr n0 ρ0 M0 ad0 nc0 ns0 pc lv st w := by
  refine ss_ld (f := str) (fun v ρ ad cv H locs ls cst h1 h2 h3 h4 => ?_) h Hk
  obtain ⟨x, rfl⟩ := sv_ref h1 h2
  exact hrow x H locs ls cst h3 h4
set_option maxHeartbeats 4000000 in
theorem sxi_sound {len : Nat} {lw : Bool} {ins : Instr} {lk : List Nat} (hcl : ∀ (ci : Nat) (C : String) (T : u_T) (N : Nat), vwCl[ci]? = some (C, T, N) → (∀ w ∈ u_ws C T N, w ∈ zT) ∧ ∃ ty0 : Nat → FieldType, (∀ k, k < N → parseFieldDescriptor (T k).2.2.1 = some (ty0 k)) ∧ ∀ a, a < N → ∀ b, b < N → a ≠ b → (T a).2.1 ≠ (T b).2.1) (hS : sST fm rg) (hwr : sWR md wl n0 ρ0 wr) (hx : p.tables.exec = Jvm.exec) (hb : c.code = cc) (hown : s.vm.findClass own = some m.cls) (hts : ∀ w ∈ zT, w.before args s = true) (hKv : va_K (dC, dI) vwCl (ztys cA) s) (hstr : lw = false → own = "NamesUnder$OrderReader" → ∃ tx, vk_R own 159 tx scr s) (hscr : lw = true → sSCR rg scr s A M0 wr)
    (hdg : decode cc pc = .ok (ins, len)) (hlen : szlok ins len = true) (hlk : slk0 own ins lk = true) (h : sub (sxi fm rg md wl lw nL ins lk pc lv st w ret) xs) (Hk : ∀ (pc : Nat) (lv : SL) (st : List SV) (w : SW), sub (ret pc lv st w) xs → sW p l e R s m args below meth c Q dC dI cA A nL fm rg sX sfI wr scr n0 ρ0 M0 ad0 nc0 ns0 pc lv st w) : sW p l e R s m args below meth c Q dC dI cA A nL fm rg sX sfI wr scr n0 ρ0 M0 ad0 nc0 ns0 pc lv st w := by
  cases ins with
  | iconst n =>
    cases Nat.beq_eq.mp (show Nat.beq len 1 = true from hlen)
    simp only [sxi, sfi_eq] at h
    exact ss_push (v := (0, 0, sc _)) (fun _ _ => sv_mkI (by rw [sev_c])) (fun H locs ls cst w => lv_iconst hx hb hdg rfl w) h Hk
  | bipush n =>
    cases Nat.beq_eq.mp (show Nat.beq len 2 = true from hlen)
    simp only [sxi, sfi_eq] at h
    exact ss_push (v := (0, 0, sc _)) (fun _ _ => sv_mkI (by rw [sev_c])) (fun H locs ls cst w => lv_bipush hx hb hdg rfl w) h Hk
  | sipush n =>
    cases Nat.beq_eq.mp (show Nat.beq len 3 = true from hlen)
    simp only [sxi, sfi_eq] at h
    exact ss_push (v := (0, 0, sc _)) (fun _ _ => sv_mkI (by rw [sev_c])) (fun H locs ls cst w => lv_sipush hx hb hdg rfl w) h Hk
  | lconst n =>
    cases Nat.beq_eq.mp (show Nat.beq len 1 = true from hlen)
    simp only [sxi, sfi_eq] at h
    exact ss_push (v := (1, 0, sc _)) (fun _ _ => sv_mkL (by rw [sev_c])) (fun H locs ls cst w => lv_lconst hx hb hdg rfl w) h Hk
  | ldc idx =>
    cases Nat.beq_eq.mp (show Nat.beq len 2 = true from hlen)
    cases hl : lw with
    | true => simp only [sxi, hl, cond_true] at h; exact (sub_none h).elim
    | false =>
      simp only [sxi, hl, cond_false] at h
      have h1 : (decide (own = "NamesUnder$OrderReader") && Nat.beq idx 159) = true := hlk
      rw [Bool.and_eq_true] at h1
      obtain ⟨tx, htx⟩ := hstr hl (of_decide_eq_true h1.1)
      cases Nat.beq_eq.mp h1.2
      exact ss_push (v := (3, 0, sc 0)) (fun _ _ => Or.inr (Or.inr (Or.inr ⟨rfl, rfl⟩))) (fun H locs ls cst w => va_ldcS hx hb hown htx hdg w) h Hk
  | ldc_w idx =>
    cases Nat.beq_eq.mp (show Nat.beq len 3 = true from hlen)
    match lk, hlk, h with
    | [v, i], hlk, h =>
      simp only [sxi, sfi_eq] at h
      exact ss_push (v := (0, 0, sc _)) (fun _ _ => sv_mkI (by rw [sev_c])) (fun H locs ls cst w => lv_ldcw hx hb hown (hts _ (zin_ok hlk)) hdg w) h Hk
    | [], hlk, h => cases hlk
    | [_], hlk, h => cases hlk
    | _ :: _ :: _ :: _, hlk, h => cases hlk
  | ldc2_w idx =>
    cases Nat.beq_eq.mp (show Nat.beq len 3 = true from hlen)
    match lk, hlk, h with
    | [v, i], hlk, h =>
      simp only [sxi, sfi_eq] at h
      exact ss_push (v := (1, 0, sc _)) (fun _ _ => sv_mkL (by rw [sev_c])) (fun H locs ls cst w => lv_ldc2 hx hb hown (hts _ (zin_ok hlk)) hdg w) h Hk
    | [], hlk, h => cases hlk
    | [_], hlk, h => cases hlk
    | _ :: _ :: _ :: _, hlk, h => cases hlk
  | iload_n i =>
    cases Nat.beq_eq.mp (show Nat.beq len 1 = true from hlen)
    exact srow_iload (ins := .nop) hx hb (fun x H locs ls cst h1 w => lv_iload_n hx hb hdg rfl h1 w) h Hk
  | iload i =>
    cases Nat.beq_eq.mp (show Nat.beq len 2 = true from hlen)
    exact srow_iload (ins := .nop) hx hb (fun x H locs ls cst h1 w => lv_iload hx hb hdg h1 w) h Hk
  | aload_n i =>
    cases Nat.beq_eq.mp (show Nat.beq len 1 = true from hlen)
    exact srow_aload (ins := .nop) hx hb (fun x H locs ls cst h1 w => lv_aload_n hx hb hdg rfl h1 w) h Hk
  | aload i =>
    cases Nat.beq_eq.mp (show Nat.beq len 2 = true from hlen)
    exact srow_aload (ins := .nop) hx hb (fun x H locs ls cst h1 w => lv_aload hx hb hdg h1 w) h Hk
  | lload_n i =>
    cases Nat.beq_eq.mp (show Nat.beq len 1 = true from hlen)
    exact srow_lload (ins := .nop) hx hb (fun x H locs ls cst h1 w => lv_lload_n hx hb hdg rfl h1 w) h Hk
  | lload i =>
    cases Nat.beq_eq.mp (show Nat.beq len 2 = true from hlen)
    exact srow_lload (ins := .nop) hx hb (fun x H locs ls cst h1 w => lv_lload hx hb hdg h1 w) h Hk
  | istore_n i =>
    cases Nat.beq_eq.mp (show Nat.beq len 1 = true from hlen)
    refine ss_st (f := sti) (fun v ρ ad cv H locs ls cst clv h1 h2 h3 h4 kk => ?_) h Hk
    obtain ⟨x, rfl, -⟩ := sv_int h1 h2
    exact lv_istore_n hx hb hdg rfl h3 h4 rfl kk
  | istore i =>
    cases Nat.beq_eq.mp (show Nat.beq len 2 = true from hlen)
    refine ss_st (f := sti) (fun v ρ ad cv H locs ls cst clv h1 h2 h3 h4 kk => ?_) h Hk
    obtain ⟨x, rfl, -⟩ := sv_int h1 h2
    exact lv_istore hx hb hdg h3 h4 rfl kk
  | astore_n i =>
    cases Nat.beq_eq.mp (show Nat.beq len 1 = true from hlen)
    refine ss_st (f := str) (fun v ρ ad cv H locs ls cst clv h1 h2 h3 h4 kk => ?_) h Hk
    obtain ⟨x, rfl⟩ := sv_ref h1 h2
    exact lv_astore_n hx hb hdg rfl h3 h4 rfl kk
  | astore i =>
    cases Nat.beq_eq.mp (show Nat.beq len 2 = true from hlen)
    refine ss_st (f := str) (fun v ρ ad cv H locs ls cst clv h1 h2 h3 h4 kk => ?_) h Hk
    obtain ⟨x, rfl⟩ := sv_ref h1 h2
    exact lv_astore hx hb hdg h3 h4 rfl kk
  | lstore i =>
    cases Nat.beq_eq.mp (show Nat.beq len 2 = true from hlen)
    exact ss_stl hx hb hdg h Hk
  | iinc i n =>
    cases Nat.beq_eq.mp (show Nat.beq len 3 = true from hlen)
    exact ss_iinc hx hb hdg h Hk
  | iadd =>
    cases Nat.beq_eq.mp (show Nat.beq len 1 = true from hlen)
    exact ss_iadd hx hb hdg h Hk
  | isub =>
    cases Nat.beq_eq.mp (show Nat.beq len 1 = true from hlen)
    exact ss_isub hx hb hdg h Hk
  | imul =>
    cases Nat.beq_eq.mp (show Nat.beq len 1 = true from hlen)
    exact ss_imul hx hb hdg h Hk
  | ladd =>
    cases Nat.beq_eq.mp (show Nat.beq len 1 = true from hlen)
    exact ss_ladd hx hb hdg h Hk
  | lsub =>
    cases Nat.beq_eq.mp (show Nat.beq len 1 = true from hlen)
    exact ss_lsub hx hb hdg h Hk
  | lmul =>
    cases Nat.beq_eq.mp (show Nat.beq len 1 = true from hlen)
    exact ss_lmul hx hb hdg h Hk
  | iand =>
    cases Nat.beq_eq.mp (show Nat.beq len 1 = true from hlen)
    exact ss_iand hx hb hdg h Hk
  | ior =>
    cases Nat.beq_eq.mp (show Nat.beq len 1 = true from hlen)
    exact ss_newI (f := fun a b => a ||| b) (fun a b H locs ls cst w => lv_ior hx hb hdg w) h Hk
  | ishl =>
    cases Nat.beq_eq.mp (show Nat.beq len 1 = true from hlen)
    exact ss_newI (f := fun a b => a <<< (b &&& 31)) (fun a b H locs ls cst w => lv_ishl hx hb hdg w) h Hk
  | ishr =>
    cases Nat.beq_eq.mp (show Nat.beq len 1 = true from hlen)
    exact ss_newI (f := fun a b => a >>> (b &&& 31)) (fun a b H locs ls cst w => lv_ishr hx hb hdg w) h Hk
  | iushr =>
    cases Nat.beq_eq.mp (show Nat.beq len 1 = true from hlen)
    exact ss_newI (f := fun a b => (a.toUInt32 >>> (b.toUInt32 &&& Int32.toUInt32 31)).toInt32) (fun a b H locs ls cst w => lv_iushr hx hb hdg rfl w) h Hk
  | idiv =>
    cases Nat.beq_eq.mp (show Nat.beq len 1 = true from hlen)
    exact ss_div (f := fun a b => a / b) (fun a b H locs ls cst hne w => lv_idiv hx hb hdg hne w) h Hk
  | irem =>
    cases Nat.beq_eq.mp (show Nat.beq len 1 = true from hlen)
    exact ss_div (f := fun a b => a - a / b * b) (fun a b H locs ls cst hne w => lv_irem hx hb hdg hne w) h Hk
  | land =>
    cases Nat.beq_eq.mp (show Nat.beq len 1 = true from hlen)
    exact ss_newL (f := fun a b => a &&& b) (fun a b H locs ls cst w => lv_land hx hb hdg w) h Hk
  | lor =>
    cases Nat.beq_eq.mp (show Nat.beq len 1 = true from hlen)
    exact ss_newL (f := fun a b => a ||| b) (fun a b H locs ls cst w => lv_lor hx hb hdg w) h Hk
  | lshl =>
    cases Nat.beq_eq.mp (show Nat.beq len 1 = true from hlen)
    exact ss_newS (f := fun a b => a <<< (b.toInt64 &&& 63)) (fun a b H locs ls cst w => lv_lshl hx hb hdg rfl w) h Hk
  | lshr =>
    cases Nat.beq_eq.mp (show Nat.beq len 1 = true from hlen)
    exact ss_newS (f := fun a b => a >>> (b.toInt64 &&& 63)) (fun a b H locs ls cst w => lv_lshr hx hb hdg rfl w) h Hk
  | lushr =>
    cases Nat.beq_eq.mp (show Nat.beq len 1 = true from hlen)
    exact ss_newS (f := fun a b => (a.toUInt64 >>> (b.toInt64.toUInt64 &&& Int64.toUInt64 63)).toInt64) (fun a b H locs ls cst w => lv_lushr hx hb hdg rfl w) h Hk
  | i2l =>
    cases Nat.beq_eq.mp (show Nat.beq len 1 = true from hlen)
    exact ss_i2l hx hb hdg h Hk
  | l2i =>
    cases Nat.beq_eq.mp (show Nat.beq len 1 = true from hlen)
    exact ss_l2i hx hb hdg h Hk
  | i2c =>
    cases Nat.beq_eq.mp (show Nat.beq len 1 = true from hlen)
    exact ss_i2c hx hb hdg h Hk
  | lcmp =>
    cases Nat.beq_eq.mp (show Nat.beq len 1 = true from hlen)
    exact ss_lcmp hx hb hdg h Hk
  | if_icmp op off =>
    cases Nat.beq_eq.mp (show Nat.beq len 3 = true from hlen)
    exact ss_icmp hx hb hdg h Hk
  | ifCond op off =>
    cases Nat.beq_eq.mp (show Nat.beq len 3 = true from hlen)
    exact ss_if hx hb hdg h Hk
  | goto off =>
    cases Nat.beq_eq.mp (show Nat.beq len 3 = true from hlen)
    exact ss_goto hx hb hdg h Hk
  | tableswitch dflt lo hi offs => exact ss_tsw hx hb hdg h Hk
  | dup =>
    cases Nat.beq_eq.mp (show Nat.beq len 1 = true from hlen)
    exact ss_dup hx hb hdg h Hk
  | dup2 =>
    cases Nat.beq_eq.mp (show Nat.beq len 1 = true from hlen)
    exact ss_dup2 hx hb hdg h Hk
  | pop =>
    cases Nat.beq_eq.mp (show Nat.beq len 1 = true from hlen)
    exact ss_pop hx hb hdg h Hk
  | getfield idx =>
    cases Nat.beq_eq.mp (show Nat.beq len 3 = true from hlen)
    match lk, hlk, h with
    | [ci, f, i], hlk, h =>
      simp only [slk0] at hlk
      obtain ⟨C, T, N, h1, h2, h3⟩ := zfl1_ok hlk
      exact ss_getf hx hb hown hts hKv hS (hcl ci C T N h1).1 h1 h2 (zin_ok h3) hdg h Hk
    | [], hlk, h => cases hlk
    | [_], hlk, h => cases hlk
    | [_, _], hlk, h => cases hlk
    | _ :: _ :: _ :: _ :: _, hlk, h => cases hlk
  | putfield idx =>
    cases Nat.beq_eq.mp (show Nat.beq len 3 = true from hlen)
    match lk, hlk, h with
    | [ci, f, kd, i], hlk, h =>
      simp only [slk0] at hlk
      obtain ⟨C, T, N, h1, h2, h3⟩ := zfl1_ok hlk
      rw [Bool.and_eq_true, Bool.and_eq_true] at h3
      obtain ⟨h4, h5, h6⟩ := h3
      obtain ⟨ty, h7, h8⟩ := zpf_ok h5
      obtain ⟨q1, ty0, q2, q3⟩ := hcl ci C T N h1
      exact ss_putf hx hb hown hts hKv hS hwr q1 q2 q3 h1 h2 (zin_ok h4) (of_decide_eq_true h6) h7 h8 hdg h Hk
    | [], hlk, h => cases hlk
    | [_], hlk, h => cases hlk
    | [_, _], hlk, h => cases hlk
    | [_, _, _], hlk, h => cases hlk
    | _ :: _ :: _ :: _ :: _ :: _, hlk, h => cases hlk
  | iaload =>
    cases Nat.beq_eq.mp (show Nat.beq len 1 = true from hlen)
    cases hl : lw with
    | true =>
      simp only [sxi, hl, cond_true] at h
      exact ss_sld hx hb (hscr hl) hdg h Hk
    | false =>
      simp only [sxi, hl, cond_false] at h
      exact ss_iald hx hb hKv hS hdg h Hk
  | arraylength =>
    cases Nat.beq_eq.mp (show Nat.beq len 1 = true from hlen)
    cases hl : lw with
    | true =>
      simp only [sxi, hl, cond_true] at h
      exact ss_slen hx hb (hscr hl) hdg h Hk
    | false =>
      simp only [sxi, hl, cond_false] at h
      exact ss_len hx hb hKv hS hdg h Hk
  | baload =>
    cases Nat.beq_eq.mp (show Nat.beq len 1 = true from hlen)
    exact ss_zald hx hb hKv hS hdg h Hk
  | caload =>
    cases Nat.beq_eq.mp (show Nat.beq len 1 = true from hlen)
    exact ss_cald hx hb hKv hS hdg h Hk
  | laload =>
    cases Nat.beq_eq.mp (show Nat.beq len 1 = true from hlen)
    exact ss_lald hx hb hKv hS hdg h Hk
  | aaload =>
    cases Nat.beq_eq.mp (show Nat.beq len 1 = true from hlen)
    exact ss_aald hx hb hKv hS hdg h Hk
  | iastore =>
    cases Nat.beq_eq.mp (show Nat.beq len 1 = true from hlen)
    exact ss_iast hx hb hKv hS hwr hdg h Hk
  | bastore =>
    cases Nat.beq_eq.mp (show Nat.beq len 1 = true from hlen)
    exact ss_zast hx hb hKv hS hwr hdg h Hk
  | castore =>
    cases Nat.beq_eq.mp (show Nat.beq len 1 = true from hlen)
    exact ss_cast hx hb hKv hS hwr hdg h Hk
  | lastore =>
    cases Nat.beq_eq.mp (show Nat.beq len 1 = true from hlen)
    exact ss_last hx hb hKv hS hwr hdg h Hk
  | _ => exact (sub_none h).elim
end SXT
