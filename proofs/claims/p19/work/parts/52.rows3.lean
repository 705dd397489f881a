/-! the steps: rows of objects, fields, lengths -/
noncomputable def sx_len (fm : List SF) (rg : SRg) (pc : Nat) (lv : SL) (st : List SV) (w : SW) (ret : SRt) : SX := match st with
  | v :: st' => cond (Nat.beq v.1 2) (srow fm v.2.1 (fun _ a => cond (Nat.blt a.1 6) (cond (Nat.beq a.2.1 0) (cond (Nat.blt a.2.2.1 2147483648) (ret (pc + 1) lv ((0, 0, sc (a.2.2.1 : Int)) :: st') w) none) (sldk rg a.2.2.1 0 v.2.2 (sc 0) lv st w (fun L w => cond (sin w.2.2.1 L 0 2147483647) (ret (pc + 1) lv ((0, 0, L) :: st') w) none))) none)) none
  | _ => none
section SRP
variable {p : Program} {l : Launch} {e : Env} {R : Room} {s : State} {m : MethodId} {args : Array Value} {below : List Frame} {meth : Method} {c : Code} {Q : State → Prop} {dC : Nat → ClassId} {dI : Nat → Nat → Nat} {cA : Nat → ClassId} {A : Nat → Prop} {nL : Nat} {fm : List SF} {rg : SRg} {wr : SWr} {scr n0 : Nat} {ρ0 : Nat → Int} {M0 : SMem} {ad0 : SAd} {nc0 ns0 : Nat} {cc : ByteArray} {pc : Nat} {lv : SL} {st : List SV} {w : SW} {ret : SRt} {xs : List SS} {own : String}
theorem sst1 {v : SV} {st' : List SV} {n : Nat} (h : sall (fun v => sbe n v.2.2) (v :: st') = true) : sbe n v.2.2 = true := sall_ok h v List.mem_cons_self
theorem sofn {n : Nat} (h : n < 2147483648) : (Int32.ofNat n).toInt = (n : Int) := Int32.toInt_ofNat_of_lt h
theorem ss_len (hx : p.tables.exec = Jvm.exec) (hb : c.code = cc) (hKv : va_K (dC, dI) vwCl (ztys cA) s) (hS : sST fm rg) (hdg : decode cc pc = .ok (.arraylength, 1)) (h : sub (sx_len fm rg pc lv st w ret) xs) (Hk : ∀ (pc : Nat) (lv : SL) (st : List SV) (w : SW), sub (ret pc lv st w) xs → sW p l e R s m args below meth c Q dC dI cA A nL fm rg sX sfI wr scr n0 ρ0 M0 ad0 nc0 ns0 pc lv st w) : sW p l e R s m args below meth c Q dC dI cA A nL fm rg sX sfI wr scr n0 ρ0 M0 ad0 nc0 ns0 pc lv st w := by
  match st, h with
  | [], h => exact (sub_none h).elim
  | v :: st', h =>
    obtain ⟨h0, h⟩ := sub_cond h
    obtain ⟨en, a, hen, ha, h⟩ := srow_ok h
    obtain ⟨ht, h⟩ := sub_cond h
    intro ρ M ad ws H locs ls clv cst hr
    obtain ⟨cv, cr, rfl, h7, h8⟩ := svs_cons hr.2.2.2.2.2.2.2
    have hv2 : v.1 = 2 := Nat.beq_eq.mp h0
    rcases h7 with ⟨q, -⟩ | ⟨q, -⟩ | ⟨-, jn, en', hj, hen', hjn, rfl⟩ | ⟨q, -⟩
    · omega
    · omega
    · cases hen.symm.trans hen'
      obtain ⟨wv, hwv, hse⟩ := hr.2.1.1 _ en hen jn hjn
      unfold sHe at hse
      rw [ha] at hse
      have hlt := zblt ht
      have hx9 : ∃ x : vp_A, wv = .inl (cA a.1, x) ∧ x.1 = slen M jn a := by
        by_cases h3 : a.1 < 3
        · obtain ⟨g, rfl, -⟩ := hse.1 h3
          exact ⟨_, rfl, rfl⟩
        · by_cases h4 : a.1 = 3
          · obtain ⟨g, rfl, -⟩ := hse.2.1 h4
            exact ⟨_, rfl, rfl⟩
          · obtain ⟨g, rfl, -⟩ := hse.2.2 (by omega)
            exact ⟨_, rfl, rfl⟩
      obtain ⟨x, rfl, hx1⟩ := hx9
      cases hc : Nat.beq a.2.1 0 with
      | true =>
        rw [hc, cond_true] at h
        obtain ⟨h1, h2⟩ := sub_cond h
        have hl : slen M jn a = a.2.2.1 := by unfold slen; rw [hc]; rfl
        refine va_alen hx hb hKv hr.2.2.1 _ a.1 hwv (ztys_at cA hlt) rfl hdg (Hk _ _ _ _ h2 ρ M ad ws H locs ls clv _ ⟨hr.1, hr.2.1, hr.2.2.1, hr.2.2.2.1, hr.2.2.2.2.1, hr.2.2.2.2.2.1, hr.2.2.2.2.2.2.1, sv_mkI ?_, h8⟩)
        rw [hx1, hl, sev_c]
        exact sofn (zblt h1)
      | false =>
        rw [hc, cond_false] at h
        obtain ⟨ρ', L, w', a1, a2, a3, a4, a5⟩ := sldk_ok (f := a.2.2.1) (jn := jn) (i0 := 0) hr (fun n hn => ⟨sst1 hn, rfl⟩) rfl hj (by rw [sev_c]; rfl) rfl h
        obtain ⟨h1, h2⟩ := sub_cond a3
        have h3 := sin_ok (srel_sK a2) h1
        have hl : slen M jn a = (M a.2.2.1 jn 0).toNat := by unfold slen; rw [hc]; rfl
        have := Hk _ _ _ _ h2 ρ' M ad ws H locs ls clv (.int (Int32.ofNat x.1) :: cr) ⟨a2.1, a2.2.1, a2.2.2.1, a2.2.2.2.1, a2.2.2.2.2.1, a2.2.2.2.2.2.1, a2.2.2.2.2.2.2.1, sv_mkI (by rw [hx1, hl, sofn (by omega)]; omega), a2.2.2.2.2.2.2.2.2⟩
        rw [a4] at this
        exact va_alen hx hb hKv hr.2.2.1 _ a.1 hwv (ztys_at cA hlt) rfl hdg this
    · omega
theorem ss_aald (hx : p.tables.exec = Jvm.exec) (hb : c.code = cc) (hKv : va_K (dC, dI) vwCl (ztys cA) s) (hS : sST fm rg) (hdg : decode cc pc = .ok (.aaload, 1)) (h : sub (sx_aald fm rg pc lv st w ret) xs) (Hk : ∀ (pc : Nat) (lv : SL) (st : List SV) (w : SW), sub (ret pc lv st w) xs → sW p l e R s m args below meth c Q dC dI cA A nL fm rg sX sfI wr scr n0 ρ0 M0 ad0 nc0 ns0 pc lv st w) : sW p l e R s m args below meth c Q dC dI cA A nL fm rg sX sfI wr scr n0 ρ0 M0 ad0 nc0 ns0 pc lv st w := by
  match st, h with
  | [], h => exact (sub_none h).elim
  | [_], h => exact (sub_none h).elim
  | i :: v :: st', h =>
    obtain ⟨h0, h⟩ := sub_cond h
    rw [Bool.and_eq_true] at h0
    obtain ⟨en, a, hen, ha, h⟩ := srow_ok h
    obtain ⟨ht, h⟩ := sub_cond h
    intro ρ M ad ws H locs ls clv cst hr
    obtain ⟨ci, cr, rfl, h5, h6⟩ := svs_cons hr.2.2.2.2.2.2.2
    obtain ⟨cv, cr, rfl, h7, h8⟩ := svs_cons h6
    obtain ⟨iv, rfl, ei⟩ := sv_int h0.1 h5
    have hv2 : v.1 = 2 := Nat.beq_eq.mp h0.2
    rcases h7 with ⟨q, -⟩ | ⟨q, -⟩ | ⟨-, jn, en', hj, hen', hjn, rfl⟩ | ⟨q, -⟩
    · omega
    · omega
    · cases hen.symm.trans hen'
      have hb1 : ∀ n, sall (fun v => sbe n v.2.2) (i :: v :: st') = true → sbe n v.2.2 = true ∧ sbe n i.2.2 = true := fun n hn => sst2 hn
      obtain ⟨ρ1, w1, b1, b2, b3, b4, b5, b6⟩ := sidx_ok hS hen ha hr hb1 hj h
      have hin : vp_in iv (slen M jn a) := vp_in_iff.mpr ⟨by omega, by omega⟩
      obtain ⟨wv, hwv, hse⟩ := hr.2.1.1 _ en hen jn hjn
      unfold sHe at hse
      rw [ha] at hse
      have hcl := sclamp (x := iv) (by omega)
      rw [zget_eq] at b4
      cases he2 : fm[a.2.2.2]? with
      | none => rw [he2] at b4; exact (sub_none b4).elim
      | some en2 =>
        rw [he2] at b4
        simp only at b4
        obtain ⟨h9, b4⟩ := sub_cond b4
        rw [Bool.and_eq_true] at h9
        have hle := Nat.le_of_ble_eq_true h9.1
        have hl : slen M jn a = a.2.2.1 := by unfold slen; rw [h9.2]; rfl
        rw [Bool.or_eq_true] at ht
        have h34 : 3 < a.1 := by rcases ht with q | q <;> have := Nat.beq_eq.mp q <;> omega
        obtain ⟨g, rfl, hg⟩ := hse.2.2 h34
        have hgi := hg iv.toNatClampNeg (by omega)
        have hnew : sv fm scr ρ1 ad (2, a.2.2.2, i.2.2) (.ref (ad a.2.2.2 iv.toNatClampNeg)) := by
          refine Or.inr (Or.inr (Or.inl ⟨rfl, iv.toNatClampNeg, en2, ?_, he2, by omega, rfl⟩))
          rw [b6 _ (fun n hn => (hb1 n hn).2)]
          omega
        have := Hk _ _ _ _ b4 ρ1 M ad ws H locs ls clv (.ref (ad a.2.2.2 iv.toNatClampNeg) :: cr) ⟨b3.1, b3.2.1, b3.2.2.1, b3.2.2.2.1, b3.2.2.2.2.1, b3.2.2.2.2.2.1, b3.2.2.2.2.2.2.1, hnew, b3.2.2.2.2.2.2.2.2.2⟩
        rw [b5] at this
        rcases ht with q | q
        · have e4 := Nat.beq_eq.mp q
          rw [e4] at hwv
          refine va_aldq hx hb hKv hr.2.2.1 _ 4 hwv rfl hin hdg ?_
          rw [hgi]
          exact this
        · have e4 := Nat.beq_eq.mp q
          rw [e4] at hwv
          refine va_aldq hx hb hKv hr.2.2.1 _ 5 hwv rfl hin hdg ?_
          rw [hgi]
          exact this
    · omega
theorem ss_getf (hx : p.tables.exec = Jvm.exec) (hb : c.code = cc) (hown : s.vm.findClass own = some m.cls) (hts : ∀ w ∈ zT, w.before args s = true) (hKv : va_K (dC, dI) vwCl (ztys cA) s) {idx ci fi N : Nat} {C : String} {T : u_T} (hS : sST fm rg) (hin : ∀ w ∈ u_ws C T N, w ∈ zT) (hc : vwCl[ci]? = some (C, T, N)) (hf : fi < N) (hlk : Cond.fieldLink own idx (T fi).1 (T fi).2.1 (T fi).2.2.1 ∈ zT) (hdg : decode cc pc = .ok (.getfield idx, 3)) (h : sub (sx_getf fm rg ci fi pc lv st w ret) xs) (Hk : ∀ (pc : Nat) (lv : SL) (st : List SV) (w : SW), sub (ret pc lv st w) xs → sW p l e R s m args below meth c Q dC dI cA A nL fm rg sX sfI wr scr n0 ρ0 M0 ad0 nc0 ns0 pc lv st w) : sW p l e R s m args below meth c Q dC dI cA A nL fm rg sX sfI wr scr n0 ρ0 M0 ad0 nc0 ns0 pc lv st w := by
  match st, h with
  | [], h => exact (sub_none h).elim
  | v :: st', h =>
    obtain ⟨h0, h⟩ := sub_cond h
    obtain ⟨en, o, hen, ho, h⟩ := sobj_ok h
    obtain ⟨ht, h⟩ := sub_cond h
    intro ρ M ad ws H locs ls clv cst hr
    obtain ⟨cv, cr, rfl, h7, h8⟩ := svs_cons hr.2.2.2.2.2.2.2
    have hv2 : v.1 = 2 := Nat.beq_eq.mp h0
    rcases h7 with ⟨q, -⟩ | ⟨q, -⟩ | ⟨-, jn, en', hj, hen', hjn, rfl⟩ | ⟨q, -⟩
    · omega
    · omega
    · cases hen.symm.trans hen'
      obtain ⟨wv, hwv, hse⟩ := hr.2.1.1 _ en hen jn hjn
      unfold sHe at hse
      rw [ho] at hse
      obtain ⟨gs, rfl, hgl, hg⟩ := hse
      rw [Nat.beq_eq.mp ht] at hwv
      rw [zget_eq] at h
      cases hsp : o.2[fi]? with
      | none => rw [hsp] at h; exact (sub_none h).elim
      | some sp =>
        rw [hsp] at h
        simp only at h
        obtain ⟨g0, g1⟩ := hg fi sp hsp
        cases hk0 : Nat.beq sp.1 0 with
        | true =>
          rw [hk0, cond_true] at h
          obtain ⟨x, hx1, hx2⟩ := g0 (Nat.beq_eq.mp hk0)
          obtain ⟨ρ', e', w', a1, a2, a3, a4, a5⟩ := sldk_ok (f := v.2.1) (jn := jn) (i0 := fi) hr (fun n hn => ⟨sst1 hn, rfl⟩) rfl hj (by rw [sev_c]) rfl h
          have := Hk _ _ _ _ a3 ρ' M ad ws H locs ls clv (.int x :: cr) ⟨a2.1, a2.2.1, a2.2.2.1, a2.2.2.2.1, a2.2.2.2.2.1, a2.2.2.2.2.2.1, a2.2.2.2.2.2.2.1, sv_mkI (by rw [hx2, a1]), a2.2.2.2.2.2.2.2.2⟩
          rw [a4] at this
          exact va_get hx hb hts hin hown hKv hr.2.2.1 _ hwv hc fi hf (hts _ hlk) (fun _ z => z) hx1 hdg this
        | false =>
          rw [hk0, cond_false] at h
          obtain ⟨hk1, h⟩ := sub_cond h
          rw [zget_eq] at h
          cases he2 : fm[sp.2.1]? with
          | none => rw [he2] at h; exact (sub_none h).elim
          | some en2 =>
            rw [he2] at h
            simp only at h
            obtain ⟨h9, h⟩ := sub_cond h
            have hx1 := g1 (Nat.beq_eq.mp hk1)
            refine va_get hx hb hts hin hown hKv hr.2.2.1 _ hwv hc fi hf (hts _ hlk) (fun _ z => z) hx1 hdg (Hk _ _ _ _ h ρ M ad ws H locs ls clv _ ⟨hr.1, hr.2.1, hr.2.2.1, hr.2.2.2.1, hr.2.2.2.2.1, hr.2.2.2.2.2.1, hr.2.2.2.2.2.2.1, Or.inr (Or.inr (Or.inl ⟨rfl, _, en2, ?_, he2, ?_, rfl⟩)), h8⟩)
            · cases Nat.beq sp.2.2 0 with
              | true => simp only [cond_true, sev_c]; rfl
              | false => exact hj
            · cases hm : Nat.beq sp.2.2 0 with
              | true =>
                rw [hm, cond_true] at h9
                exact Nat.le_of_ble_eq_true h9
              | false =>
                rw [hm, cond_false] at h9
                exact Nat.lt_of_lt_of_le hjn (Nat.le_of_ble_eq_true h9)
    · omega
end SRP
