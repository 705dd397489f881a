/-! one instruction that does not call -/
def szl (i : Instr) : Nat := match i with
  | .bipush _ => 2
  | .sipush _ => 3
  | .ldc _ => 2
  | .ldc_w _ => 3
  | .ldc2_w _ => 3
  | .iload _ => 2
  | .aload _ => 2
  | .lload _ => 2
  | .istore _ => 2
  | .astore _ => 2
  | .lstore _ => 2
  | .iinc _ _ => 3
  | .if_icmp _ _ => 3
  | .ifCond _ _ => 3
  | .goto _ => 3
  | .getfield _ => 3
  | .putfield _ => 3
  | .newarray _ => 2
  | .new _ => 3
  | .invokestatic _ => 3
  | .invokevirtual _ => 3
  | _ => 1
def szlok (i : Instr) (len : Nat) : Bool := match i with
  | .tableswitch _ _ _ _ => true
  | i => Nat.beq len (szl i)
def slk0 (own : String) (ins : Instr) (lk : List Nat) : Bool := match ins with
  | .getfield idx => (match lk with
    | [ci, f, i] => zfl1 ci f (fun _ T _ => zin i (.fieldLink own idx (T f).1 (T f).2.1 (T f).2.2.1))
    | _ => false)
  | .putfield idx => (match lk with
    | [ci, f, kd, i] => zfl1 ci f (fun _ T _ => zin i (.fieldLink own idx (T f).1 (T f).2.1 (T f).2.2.1) && (zpf kd (T f).2.2.1 && decide ((T f).2.2.2 = false)))
    | _ => false)
  | .ldc idx => decide (own = "NamesUnder$OrderReader") && Nat.beq idx 159
  | .ldc_w idx => (match lk with
    | [v, i] => zin i (.constant own idx (Int32.ofNat v))
    | _ => false)
  | .ldc2_w idx => (match lk with
    | [v, i] => zin i (.constantLong own idx (Int64.ofNat v))
    | _ => false)
  | _ => true
def sx_stl (nL i n pc : Nat) (lv : SL) (st : List SV) (w : SW) (ret : SRt) : SX := match st with
  | v :: st' => cond (stl v && Nat.blt (i + 1) nL) (sll (lv.filter (fun q => !(q.1 == i) && (!(q.1 == i + 1) && !(q.1 + 1 == i && scat q.2 == 2)))) (fun lr => ret (pc + n) ((i, v) :: lr) st' w)) none
  | [] => none
def sx_sld (rg : SRg) (pc : Nat) (lv : SL) (st : List SV) (w : SW) (ret : SRt) : SX := match st with
  | i :: v :: st' => cond (Nat.beq i.1 0 && Nat.beq v.1 3) (sldk rg 108 0 (sc 0) (sc 0) lv st w (fun L w => cond (sent w.2.2.1 i.2.2 && sent w.2.2.1 (saddc (ssub L i.2.2) (-1))) (sldk rg 107 0 (sc 0) i.2.2 lv st w (fun e w => ret (pc + 1) lv ((0, 0, e) :: st') w)) none)) none
  | _ => none
def sx_slen (rg : SRg) (pc : Nat) (lv : SL) (st : List SV) (w : SW) (ret : SRt) : SX := match st with
  | v :: st' => cond (Nat.beq v.1 3) (sldk rg 108 0 (sc 0) (sc 0) lv st w (fun L w => ret (pc + 1) lv ((0, 0, L) :: st') w)) none
  | _ => none
noncomputable def sxi (fm : List SF) (rg : SRg) (md : List (Nat × Nat)) (wl : List (Nat × SE)) (lw : Bool) (nL : Nat) (ins : Instr) (lk : List Nat) (pc : Nat) (lv : SL) (st : List SV) (w : SW) (ret : SRt) : SX := match ins with
  | .iconst n => sfi (Int32.ofInt n).toInt (fun x => ret (pc + 1) lv ((0, 0, sc x) :: st) w)
  | .bipush n => sfi (Int8.ofInt n).toInt32.toInt (fun x => ret (pc + 2) lv ((0, 0, sc x) :: st) w)
  | .sipush n => sfi (Int16.ofInt n).toInt32.toInt (fun x => ret (pc + 3) lv ((0, 0, sc x) :: st) w)
  | .lconst n => sfi (Int64.ofNat n.val).toInt (fun x => ret (pc + 1) lv ((1, 0, sc x) :: st) w)
  | .ldc _ => cond lw none (ret (pc + 2) lv ((3, 0, sc 0) :: st) w)
  | .ldc_w _ => (match lk with
    | [v, _] => sfi (Int32.ofNat v).toInt (fun x => ret (pc + 3) lv ((0, 0, sc x) :: st) w)
    | _ => none)
  | .ldc2_w _ => (match lk with
    | [v, _] => sfi (Int64.ofNat v).toInt (fun x => ret (pc + 3) lv ((1, 0, sc x) :: st) w)
    | _ => none)
  | .iload_n i => sx_ld sti i.val 1 pc lv st w ret
  | .iload i => sx_ld sti i 2 pc lv st w ret
  | .aload_n i => sx_ld str i.val 1 pc lv st w ret
  | .aload i => sx_ld str i 2 pc lv st w ret
  | .lload_n i => sx_ld stl i.val 1 pc lv st w ret
  | .lload i => sx_ld stl i 2 pc lv st w ret
  | .istore_n i => sx_st sti nL i.val 1 pc lv st w ret
  | .istore i => sx_st sti nL i 2 pc lv st w ret
  | .astore_n i => sx_st str nL i.val 1 pc lv st w ret
  | .astore i => sx_st str nL i 2 pc lv st w ret
  | .lstore i => sx_stl nL i 2 pc lv st w ret
  | .iinc i n => sx_iinc nL i n pc lv st w ret
  | .iadd => sx_bin 0 0 0 o_iadd pc lv st w ret
  | .isub => sx_bin 0 0 0 (o_sub (-2147483648) 2147483647) pc lv st w ret
  | .imul => sx_bin 0 0 0 (o_mul (-2147483648) 2147483647) pc lv st w ret
  | .ladd => sx_bin 1 1 1 (o_add (-9223372036854775808) 9223372036854775807) pc lv st w ret
  | .lsub => sx_bin 1 1 1 (o_sub (-9223372036854775808) 9223372036854775807) pc lv st w ret
  | .lmul => sx_bin 1 1 1 (o_mul (-9223372036854775808) 9223372036854775807) pc lv st w ret
  | .iand => sx_bin 0 0 0 o_and pc lv st w ret
  | .ior => sx_bin 0 0 0 (o_new (-2147483648) 2147483647) pc lv st w ret
  | .ishl => sx_bin 0 0 0 (o_new (-2147483648) 2147483647) pc lv st w ret
  | .ishr => sx_bin 0 0 0 (o_new (-2147483648) 2147483647) pc lv st w ret
  | .iushr => sx_bin 0 0 0 (o_new (-2147483648) 2147483647) pc lv st w ret
  | .idiv => sx_bin 0 0 0 o_div pc lv st w ret
  | .irem => sx_bin 0 0 0 o_div pc lv st w ret
  | .land => sx_bin 1 1 1 (o_new (-9223372036854775808) 9223372036854775807) pc lv st w ret
  | .lor => sx_bin 1 1 1 (o_new (-9223372036854775808) 9223372036854775807) pc lv st w ret
  | .lshl => sx_bin 1 0 1 (o_new (-9223372036854775808) 9223372036854775807) pc lv st w ret
  | .lshr => sx_bin 1 0 1 (o_new (-9223372036854775808) 9223372036854775807) pc lv st w ret
  | .lushr => sx_bin 1 0 1 (o_new (-9223372036854775808) 9223372036854775807) pc lv st w ret
  | .i2l => sx_un 0 1 o_id pc lv st w ret
  | .l2i => sx_un 1 0 (o_lin (-2147483648) 2147483647) pc lv st w ret
  | .i2c => sx_un 0 0 (o_lin 0 65535) pc lv st w ret
  | .lcmp => sx_lcmp pc lv st w ret
  | .if_icmp op off => sx_icmp op off pc lv st w ret
  | .ifCond op off => sx_if op off pc lv st w ret
  | .goto off => sjmp pc off (fun t => ret t lv st w)
  | .tableswitch dflt lo hi offs => sx_tsw dflt lo hi offs.toList pc lv st w ret
  | .dup => sx_dup pc lv st w ret
  | .dup2 => sx_dup2 pc lv st w ret
  | .pop => sx_pop pc lv st w ret
  | .getfield _ => (match lk with
    | [ci, f, _] => sx_getf fm rg ci f pc lv st w ret
    | _ => none)
  | .putfield _ => (match lk with
    | [ci, f, kd, _] => sx_putf fm rg md wl ci f kd pc lv st w ret
    | _ => none)
  | .iaload => cond lw (sx_sld rg pc lv st w ret) (sx_ald fm rg 0 0 pc lv st w ret)
  | .baload => sx_ald fm rg 1 0 pc lv st w ret
  | .caload => sx_ald fm rg 2 0 pc lv st w ret
  | .laload => sx_ald fm rg 3 1 pc lv st w ret
  | .aaload => sx_aald fm rg pc lv st w ret
  | .iastore => sx_ast fm rg md wl 0 0 pc lv st w ret
  | .bastore => sx_ast fm rg md wl 1 0 pc lv st w ret
  | .castore => sx_ast fm rg md wl 2 0 pc lv st w ret
  | .lastore => sx_ast fm rg md wl 3 1 pc lv st w ret
  | .arraylength => cond lw (sx_slen rg pc lv st w ret) (sx_len fm rg pc lv st w ret)
  | _ => none
/-- the script, where the method is the law's own -/
def sSCR (rg : SRg) (scr : Nat) (s : State) (A : Nat → Prop) (M0 : SMem) (wr : SWr) : Prop := ∃ (L : Nat) (xv : Nat → Int32), va_X scr L xv s s.heap ∧ scr < s.heap.size ∧ ¬ A scr ∧ L < 2 ^ 31 ∧ M0 108 0 0 = (L : Int) ∧ (∀ j, j < L → M0 107 0 j = (xv j).toInt) ∧ (∀ i, (107, scl rg 107 i) ∉ wr.1) ∧ (∀ i, (108, scl rg 108 i) ∉ wr.1) ∧ ∀ i, srg rg 107 i = srg rg 107 0
section SXS
variable {p : Program} {l : Launch} {e : Env} {R : Room} {s : State} {m : MethodId} {args : Array Value} {below : List Frame} {meth : Method} {c : Code} {Q : State → Prop} {dC : Nat → ClassId} {dI : Nat → Nat → Nat} {cA : Nat → ClassId} {A : Nat → Prop} {nL : Nat} {fm : List SF} {rg : SRg} {wr : SWr} {scr n0 : Nat} {ρ0 : Nat → Int} {M0 : SMem} {ad0 : SAd} {nc0 ns0 : Nat} {cc : ByteArray} {pc : Nat} {lv : SL} {st : List SV} {w : SW} {ret : SRt} {xs : List SS} {own : String}
variable {md : List (Nat × Nat)} {wl : List (Nat × SE)}
theorem ss_stl (hx : p.tables.exec = Jvm.exec) (hb : c.code = cc) {i : Nat} (hdg : decode cc pc = .ok (.lstore i, 2)) (h : sub (sx_stl nL i 2 pc lv st w ret) xs) (Hk : ∀ (pc : Nat) (lv : SL) (st : List SV) (w : SW), sub (ret pc lv st w) xs → sW p l e R s m args below meth c Q dC dI cA A nL fm rg sX sfI wr scr n0 ρ0 M0 ad0 nc0 ns0 pc lv st w) : sW p l e R s m args below meth c Q dC dI cA A nL fm rg sX sfI wr scr n0 ρ0 M0 ad0 nc0 ns0 pc lv st w := by
  match st, h with
  | [], h => exact (sub_none h).elim
  | v :: st', h =>
    obtain ⟨h1, h⟩ := sub_cond h
    rw [sll_eq] at h
    rw [Bool.and_eq_true] at h1
    intro ρ M ad ws H locs ls clv cst ⟨⟨ag, hn, hK⟩, ⟨r1, hI, hmo, hfr⟩, r2, r3, r4, r5, r6, r7⟩
    obtain ⟨cv, cr, rfl, h5, h6⟩ := svs_cons r7
    obtain ⟨x, rfl, -⟩ := sv_lng h1.1 h5
    refine lv_lstore hx hb hdg r5 (zblt h1.2) rfl (fun ls' hl' => Hk _ _ _ _ h ρ M ad ws H locs ls' _ _ ⟨⟨ag, hn, hK⟩, ⟨r1, hI, hmo, hfr⟩, r2, r3, r4, hl', ⟨rfl, h5, ?_⟩, h6⟩)
    have : ∀ {vs : SL} {cs : ZL}, sls fm scr ρ ad vs cs → sls fm scr ρ ad (vs.filter (fun q => !(q.1 == i) && (!(q.1 == i + 1) && !(q.1 + 1 == i && scat q.2 == 2)))) (cs.filter (fun q => !(q.1 == i) && (!(q.1 == i + 1) && !(q.1 + 1 == i && q.2.category == 2)))) := by
      intro vs
      induction vs with
      | nil =>
        intro cs h
        cases sls_nil h
        trivial
      | cons v vs ih =>
        intro cs h
        obtain ⟨c, r, rfl, h1, h2, h3⟩ := sls_cons h
        have e : (!(c.1 == i) && (!(c.1 == i + 1) && !(c.1 + 1 == i && c.2.category == 2))) = (!(v.1 == i) && (!(v.1 == i + 1) && !(v.1 + 1 == i && scat v.2 == 2))) := by
          rw [h1, sv_cat h2]
        rw [List.filter_cons, List.filter_cons, e]
        cases (!(v.1 == i) && (!(v.1 == i + 1) && !(v.1 + 1 == i && scat v.2 == 2))) with
        | true => exact ⟨h1, h2, ih h3⟩
        | false => exact ih h3
    exact this r6
theorem ss_slen (hx : p.tables.exec = Jvm.exec) (hb : c.code = cc) (hscr : sSCR rg scr s A M0 wr) (hdg : decode cc pc = .ok (.arraylength, 1)) (h : sub (sx_slen rg pc lv st w ret) xs) (Hk : ∀ (pc : Nat) (lv : SL) (st : List SV) (w : SW), sub (ret pc lv st w) xs → sW p l e R s m args below meth c Q dC dI cA A nL fm rg sX sfI wr scr n0 ρ0 M0 ad0 nc0 ns0 pc lv st w) : sW p l e R s m args below meth c Q dC dI cA A nL fm rg sX sfI wr scr n0 ρ0 M0 ad0 nc0 ns0 pc lv st w := by
  obtain ⟨L, xv, z1, z2, z3, z4, z5, z6, z7, z8, z9⟩ := hscr
  match st, h with
  | [], h => exact (sub_none h).elim
  | v :: st', h =>
    obtain ⟨h1, h⟩ := sub_cond h
    intro ρ M ad ws H locs ls clv cst hr
    obtain ⟨cv, cr, rfl, h5, h6⟩ := svs_cons hr.2.2.2.2.2.2.2
    have h3 : v.1 = 3 := Nat.beq_eq.mp h1
    rcases h5 with ⟨q, -⟩ | ⟨q, -⟩ | ⟨q, -⟩ | ⟨-, rfl⟩
    · omega
    · omega
    · omega
    · have hM : M 108 0 0 = (L : Int) := by rw [hr.2.1.2.2.2.1 108 0 0 (z8 0)]; exact z5
      obtain ⟨ρ', e', w', a1, a2, a3, a4, a5⟩ := sldk_ok (f := 108) (jn := 0) (i0 := 0) hr (fun n hn => ⟨rfl, rfl⟩) rfl (by rw [sev_c]; rfl) (by rw [sev_c]; rfl) hM h
      have := Hk _ _ _ _ a3 ρ' M ad ws H locs ls clv (.int (Int32.ofNat L) :: cr) ⟨a2.1, a2.2.1, a2.2.2.1, a2.2.2.2.1, a2.2.2.2.2.1, a2.2.2.2.2.2.1, a2.2.2.2.2.2.2.1, sv_mkI (by rw [sofn z4]; exact a1), a2.2.2.2.2.2.2.2.2⟩
      rw [a4] at this
      exact va_slen hx hb z1 z2 z3 hr.2.2.2.2.1 hdg this
theorem ss_sld (hx : p.tables.exec = Jvm.exec) (hb : c.code = cc) (hscr : sSCR rg scr s A M0 wr) (hdg : decode cc pc = .ok (.iaload, 1)) (h : sub (sx_sld rg pc lv st w ret) xs) (Hk : ∀ (pc : Nat) (lv : SL) (st : List SV) (w : SW), sub (ret pc lv st w) xs → sW p l e R s m args below meth c Q dC dI cA A nL fm rg sX sfI wr scr n0 ρ0 M0 ad0 nc0 ns0 pc lv st w) : sW p l e R s m args below meth c Q dC dI cA A nL fm rg sX sfI wr scr n0 ρ0 M0 ad0 nc0 ns0 pc lv st w := by
  obtain ⟨L, xv, z1, z2, z3, z4, z5, z6, z7, z8, z9⟩ := hscr
  match st, h with
  | [], h => exact (sub_none h).elim
  | [_], h => exact (sub_none h).elim
  | i :: v :: st', h =>
    obtain ⟨h0, h⟩ := sub_cond h
    rw [Bool.and_eq_true] at h0
    intro ρ M ad ws H locs ls clv cst hr
    obtain ⟨ci, cr, rfl, h5, h6⟩ := svs_cons hr.2.2.2.2.2.2.2
    obtain ⟨cv, cr, rfl, h7, h8⟩ := svs_cons h6
    obtain ⟨iv, rfl, ei⟩ := sv_int h0.1 h5
    have h3 : v.1 = 3 := Nat.beq_eq.mp h0.2
    rcases h7 with ⟨q, -⟩ | ⟨q, -⟩ | ⟨q, -⟩ | ⟨-, rfl⟩
    · omega
    · omega
    · omega
    · have hM : M 108 0 0 = (L : Int) := by rw [hr.2.1.2.2.2.1 108 0 0 (z8 0)]; exact z5
      obtain ⟨ρ1, e1, w1, a1, a2, a3, a4, a5⟩ := sldk_ok (f := 108) (jn := 0) (i0 := 0) hr (fun n hn => ⟨rfl, rfl⟩) rfl (by rw [sev_c]; rfl) (by rw [sev_c]; rfl) hM h
      obtain ⟨k1, k2⟩ := sub_cond a3
      rw [Bool.and_eq_true] at k1
      have q1 := sent_ok (srel_sK a2) k1.1
      have q2 := sent_ok (srel_sK a2) k1.2
      rw [saddc_ev, ssub_ev] at q2
      have ee : sev ρ1 i.2.2 = sev ρ i.2.2 := a5 _ (fun n hn _ => sall_ok hn i List.mem_cons_self)
      have hcl := sclamp (x := iv) (by omega)
      have hin : vp_in iv L := vp_in_iff.mpr ⟨by omega, by omega⟩
      have hM2 : M 107 0 iv.toNatClampNeg = (xv iv.toNatClampNeg).toInt := by rw [hr.2.1.2.2.2.1 107 0 _ (z7 _)]; exact z6 _ (by omega)
      obtain ⟨ρ2, e2, w2, b1, b2, b3, b4, b5⟩ := sldk_ok (f := 107) (jn := 0) (i0 := iv.toNatClampNeg) a2 (fun n hn => ⟨rfl, sall_ok hn i List.mem_cons_self⟩) (z9 _) (by rw [sev_c]; rfl) (by omega) hM2 k2
      have := Hk _ _ _ _ b3 ρ2 M ad ws H locs ls clv (.int (xv iv.toNatClampNeg) :: cr) ⟨b2.1, b2.2.1, b2.2.2.1, b2.2.2.2.1, b2.2.2.2.2.1, b2.2.2.2.2.2.1, b2.2.2.2.2.2.2.1, sv_mkI b1, b2.2.2.2.2.2.2.2.2.2⟩
      rw [b4, a4] at this
      exact va_sld hx hb z1 z2 z3 hr.2.2.2.2.1 hin hdg this
end SXS
