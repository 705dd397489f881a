/-! a call by contract is the machine's -/
theorem scl_row {rg : SRg} {f : Nat} (h : sisr rg f = true) (i : Nat) : scl rg f i = 0 := by
  unfold sisr at h
  unfold scl
  cases hr : rg.1[f]? with
  | none => rw [hr] at h; cases h
  | some q =>
    rw [hr] at h
    simp only at h
    cases hb : Nat.beq q.1 0 with
    | true => rw [hb] at h; cases h
    | false => simp only [hb, cond_false]
theorem sRun_mono {d d' : Nat} {me : ZMe} {EX : SEx} {l : Launch} {dC : Nat → ClassId} {dI : Nat → Nat → Nat} {cA : Nat → ClassId} {ws : va_W} {cas : List Value} {PO : List Value → va_W → Prop} (hd : d ≤ d') (h : sRun d me EX l dC dI cA ws cas PO) : sRun d' me EX l dC dI cA ws cas PO := by
  intro p e R s m args below meth c Q A ls F
  obtain ⟨f1, f2, f3, f4, f5, f6, f7, ⟨f8, f9⟩, f10⟩ := F
  exact h p e R s m args below meth c Q A ls ⟨f1, f2, f3, f4, f5, f6, f7, ⟨Nat.le_trans hd f8, by omega⟩, f10⟩
theorem slens {cas : List Value} {vs : List SV} {fm : List SF} {scr : Nat} {ρ : Nat → Int} {ad : SAd} (h : svs fm scr ρ ad vs cas) : (lg_sl cas).length = (vs.map scat).sum := by
  rw [zslots, svs_sum h]
theorem srcv_ok {fm : List SF} {ci : Nat} {as : List SV} (h : srcv fm ci as = true) : ∃ v r en o, as = v :: r ∧ v.1 = 2 ∧ fm[v.2.1]? = some en ∧ en.2.2.2 = .inl o ∧ o.1 = ci := by
  cases as with
  | nil => cases h
  | cons v r =>
    unfold srcv at h
    obtain ⟨h1, h2⟩ := bcond h
    rw [zget_eq] at h2
    cases hf : fm[v.2.1]? with
    | none => rw [hf] at h2; cases h2
    | some en =>
      rw [hf] at h2
      simp only at h2
      cases he : en.2.2.2 with
      | inr a => rw [he] at h2; cases h2
      | inl o =>
        rw [he] at h2
        exact ⟨v, r, en, o, rfl, Nat.beq_eq.mp h1, hf, he, Nat.beq_eq.mp h2⟩
section SCS
variable {p : Program} {l : Launch} {e : Env} {R : Room} {s : State} {m : MethodId} {args : Array Value} {below : List Frame} {meth : Method} {c : Code} {Q : State → Prop} {dC : Nat → ClassId} {dI : Nat → Nat → Nat} {cA : Nat → ClassId} {A : Nat → Prop} {nL : Nat} {fm : List SF} {rg : SRg} {wr : SWr} {scr n0 : Nat} {ρ0 : Nat → Int} {M0 : SMem} {ad0 : SAd} {nc0 ns0 : Nat} {cc : ByteArray} {pc : Nat} {lv : SL} {st : List SV} {w : SW} {ret : SRt} {xs : List SS} {own : String}
variable {EX : SEx} {md : List (Nat × Nat)} {wl : List (Nat × SE)} {M : SMem} {ad : SAd} {ws : va_W} {H : Heap} {locs : List Loc} {ls : Array Slot} {clv : ZL} {cst : List Value}
/-- the receiver of a call -/
theorem srecv {ρ : Nat → Int} {as : List SV} {cas : List Value} {kd ci : Nat} {y : MethodName} (hKv : va_K (dC, dI) vwCl (ztys cA) s) (hP : va_P (dC, dI) vwCl ws H) (hH : sH fm ad M cA ws) (hs : svs fm scr ρ ad as cas) (h : cond (Nat.ble kd 1) true (srcv fm ci as) = true) (hc : cond (Nat.ble kd 1) true (zfl1 ci 0 (fun C _ _ => decide (C = y.cls))) = true) : 2 ≤ kd → ∃ (b : Nat) (as2 : List Value), cas = .ref b :: as2 ∧ (kd = 2 → ∃ cell : Cell, H[b]? = some cell ∧ cell.vm.isStatics = false ∧ s.vm.findClass y.cls = some cell.cls) := by
  intro hk2
  have hb9 : Nat.ble kd 1 = false := by
    cases hb9 : Nat.ble kd 1 with
    | true => exact absurd (Nat.le_of_ble_eq_true hb9) (by omega)
    | false => rfl
  rw [hb9, cond_false] at h hc
  obtain ⟨v, r, en, o, rfl, e1, e2, e3, e4⟩ := srcv_ok h
  obtain ⟨cv, cr, rfl, h1, h2⟩ := svs_cons hs
  rcases h1 with ⟨q, -⟩ | ⟨q, -⟩ | ⟨-, j, en', f1, f2, f3, rfl⟩ | ⟨q, -⟩
  · omega
  · omega
  · cases e2.symm.trans f2
    refine ⟨_, cr, rfl, fun _ => ?_⟩
    obtain ⟨w, g1, g2⟩ := hH _ en e2 j f3
    unfold sHe at g2
    rw [e3] at g2
    obtain ⟨gs, rfl, -⟩ := g2
    obtain ⟨C, T, NN, k1, k2, k3⟩ := zfl1_ok hc
    rw [e4] at g1
    have hv := va_recv hKv hP k1 g1
    rw [show C = y.cls from of_decide_eq_true k3] at hv
    exact hv
  · omega
theorem sct_ok {zm : List ZMe} {me me2 : ZMe} {d' idx kd kc n ci na N scrS : Nat} {is : List Nat} {ins : Instr} {lw : Bool} {as rest : List SV} (hEX : sEXok EX) (hDP : sDP rg) (hST : sST fm rg) (F : sF (d' + 1) me EX p R s m args c dC dI cA A) (hnL : nL = me.2.2.2.1) (hb01 : nc0 + me.2.2.2.2.2.1 ≤ R.cells) (hb02 : ns0 + me.2.2.2.2.2.2 ≤ R.slots) (hmc : zm[kc]? = some me2) (hcal : zcal zm me.1 idx kd kc n ci is = true) (hwr : sWR md wl n0 ρ0 wr) (hscr : lw = false → scr = scrS)
    (hna : cond (Nat.ble kd 1) n (n + 1) = na) (has : as = (st.take na).reverse) (hrest : rest = st.drop na) (hk1 : as.length = na) (hk2 : (rest.map scat).sum ≤ 8) (hk3 : (as.map scat).sum ≤ me2.2.2.2.1) (hk6 : cond (Nat.ble kd 1) true (srcv fm ci as) = true)
    (hins : (kd = 0 ∨ kd = 1) ∧ ins = .invokestatic idx ∨ kd = 2 ∧ ins = .invokevirtual idx) (hdg : decode me.2.2.1 pc = .ok (ins, 3))
    (Hk : ∀ (pc : Nat) (lv : SL) (st : List SV) (w : SW), sub (ret pc lv st w) xs → sW p l e R s m args below meth c Q dC dI cA A nL fm rg sX sfI wr scr n0 ρ0 M0 ad0 nc0 ns0 pc lv st w) :
    ∀ {Cs : List SC} {w : SW} {ρ : Nat → Int}, (∀ C ∈ Cs, C.1 < N → C.2.1 = kc ∧ sCok zm fm rg EX l dC dI cA scrS C) → w.2.2.2.1 + me2.2.2.2.2.2.1 ≤ me.2.2.2.2.2.1 → w.2.2.2.2 + me2.2.2.2.2.2.2 ≤ me.2.2.2.2.2.2 → sRel fm rg sX sfI wr scr n0 ρ0 M0 ad0 dC dI cA A s.heap nL lv st w ρ M ad ws H locs ls clv cst → sub (sct rg md wl N lw d' me2.2.2.2.2.2.1 me2.2.2.2.2.2.2 lv st rest as (fun vs w => ret (pc + 3) lv (vs ++ rest) w) Cs w) xs → W p l e R s m args below meth c H locs (nc0 + w.2.2.2.1) (ns0 + w.2.2.2.2) Q (F0 m pc ls cst) := by
  intro Cs
  induction Cs with
  | nil => intro w ρ _ _ _ _ h; exact (sub_none h).elim
  | cons C r ih =>
    intro w ρ hCs hb1 hb2 hr h
    have ih2 := fun {w : SW} {ρ : Nat → Int} => ih (w := w) (ρ := ρ) (fun C hC => hCs C (List.mem_cons_of_mem _ hC))
    unfold sct at h
    cases hq : (Nat.blt C.1 N && sqL C.2.2.1 as) with
    | false => rw [hq, cond_false] at h; exact ih2 hb1 hb2 hr h
    | true =>
      rw [hq, cond_true, sgp_eq] at h
      rw [Bool.and_eq_true] at hq
      obtain ⟨hkc, hC⟩ := hCs C List.mem_cons_self (zblt hq.1)
      obtain ⟨ρ1, g, w1, hr1, h, hcnt⟩ := smtm_ok hST hr h
      have hb1' : w1.2.2.2.1 + me2.2.2.2.2.2.1 ≤ me.2.2.2.2.2.1 := by rw [hcnt]; exact hb1
      have hb2' : w1.2.2.2.2 + me2.2.2.2.2.2.2 ≤ me.2.2.2.2.2.2 := by rw [hcnt]; exact hb2
      rw [← hcnt]
      cases hv : (svL 0 g w1.2.2.1 C.2.2.1 as && svW 0 g w1 C.2.2.2.1) with
      | false => rw [hv, cond_false] at h; exact ih2 hb1' hb2' hr1 h
      | true =>
        rw [hv, cond_true] at h
        rw [Bool.and_eq_true] at hv
        cases hwl : swlS g C.2.2.2.2.2.1 with
        | none => rw [hwl] at h; exact (sub_none h).elim
        | some wlS =>
          rw [hwl] at h
          obtain ⟨hck, h⟩ := sub_cond h
          unfold sctk at hck
          obtain ⟨c1, hck⟩ := bcond hck
          obtain ⟨c2, hck⟩ := bcond hck
          obtain ⟨c3, hck⟩ := bcond hck
          obtain ⟨c4, hck⟩ := bcond hck
          obtain ⟨c5, hck⟩ := bcond hck
          obtain ⟨c6, hck⟩ := bcond hck
          obtain ⟨c7, hck⟩ := bcond hck
          obtain ⟨c8, c9⟩ := bcond hck
          have hK1 := srel_sK hr1
          obtain ⟨p1, p2⟩ := svW_ok hK1 hr1.2.1.2.2.1 hv.2
          obtain ⟨t1, t2⟩ := svs_take na hr1.2.2.2.2.2.2.2
          have hsa : svs fm scr ρ1 ad as (cst.take na).reverse := by rw [has]; exact svs_rev t1
          have hsr : svs fm scr ρ1 ad rest (cst.drop na) := by rw [hrest]; exact t2
          have p3 : svs fm scrS (srh 0 g ρ1) ad C.2.2.1 (cst.take na).reverse := by
            have q := svL_ok hK1 hv.1 hsa
            cases hlw : lw with
            | false => rw [← hscr hlw]; exact q
            | true =>
              rw [hlw, cond_true] at c7
              exact svs_scr c7 q
          have hRun := sRun_mono (Nat.le_of_ble_eq_true c9) (hC me2 (by rw [hkc]; exact hmc) (srh 0 g ρ1) M ad ws (cst.take na).reverse p1 hr1.2.1.1 hr1.2.1.2.1.1 hr1.2.1.2.1.2 p2 p3)
          have hcal2 := hcal
          unfold zcal at hcal2
          rw [hmc] at hcal2
          simp only [Bool.and_eq_true] at hcal2
          have hcs : cst = ((cst.take na).reverse).reverse ++ cst.drop na := by
            rw [List.reverse_reverse, List.take_append_drop]
          have h8 : ((cst.drop na).map fun v => v.category).sum ≤ 8 := by
            rw [svs_sum hsr]
            exact hk2
          have hlen : (lg_sl (cst.take na).reverse).length ≤ me2.2.2.2.1 := by
            rw [slens hsa]
            exact hk3
          have hn9 : ((cst.take na).reverse).length = if kd ≤ 1 then n else n + 1 := by
            rw [svs_len hsa, hk1, ← hna]
            by_cases hkk : kd ≤ 1
            · rw [if_pos hkk, Nat.ble_eq_true_of_le hkk]
              rfl
            · rw [if_neg hkk]
              cases hb9 : Nat.ble kd 1 with
              | true => exact absurd (Nat.le_of_ble_eq_true hb9) hkk
              | false => rfl
          have hrc := srecv (y := me2.2.1) F.2.2.2.2.2.1 hr1.2.2.1 hr1.2.1.1 hsa hk6 hcal2.2.2.2.2.2.1
          have hl5 := hr1.2.2.2.2.2.1
          rw [hnL] at hl5
          refine scall hEX F hmc hcal hRun hr1.2.2.1 hr1.2.2.2.1 hr1.2.2.2.2.1 hl5 hcs h8 hlen hn9 hrc ⟨by omega, by omega⟩ hins hdg (fun rr ws' H1 locs1 hPO k1 k2 k3 => ?_)
          obtain ⟨X, hX, ρX, M', ad', x1, x2, ⟨x3, x4, x5, x6⟩, x7⟩ := hPO
          have h9 := sxits_ok hX h
          have hmd : ∀ q ∈ C.2.2.2.2.1, q ∈ wr.1 := fun q hq => by
            rw [hwr.1]
            exact smem2_ok (sall_ok c3 q hq)
          have hww : ∀ q ∈ wr.2, ∀ j i : Nat, (i : Int) < q.2 → M' q.1 j i = M q.1 j i := by
            intro q hq j i hi
            obtain ⟨ee, e1, e2, e3⟩ := hwr.2 q hq
            have z := sall_ok c4 _ e1
            unfold swlc at z
            obtain ⟨z1, z2⟩ := bcond z
            cases hm0 : smem2 q.1 0 C.2.2.2.2.1 with
            | false => exact x6.1 _ _ _ (by rw [scl_row z1]; exact smem2_no hm0)
            | true =>
              simp only [hm0, cond_true] at z2
              obtain ⟨b, z3, z4⟩ := sany_ok z2
              rw [Bool.and_eq_true] at z4
              obtain ⟨e', z5, z6⟩ := swlS_ok (ρ := ρ1) hwl b z3
              have z7 := sent_ok hK1 z4.2
              rw [ssub_ev, z6, sbe_ev (ρ := ρ0) (ρ' := ρ1) hr1.1.1 e2, ← e3] at z7
              have z8 := Nat.beq_eq.mp z4.1
              rw [← z8]
              exact x6.2.2 (b.1, sev (srh 0 g ρ1) e') (List.mem_map.mpr ⟨(b.1, e'), z5, rfl⟩) j i (by simp only; omega)
          obtain ⟨ρ2, vs, w2, y1, y2, y3⟩ := sxit_ok hDP hr1 c1 c2 hsr (fun v hv => by rw [hrest] at hv; exact List.mem_of_mem_drop hv) x1 x2 x3 x4 x5 x6 (svs_scr (sall_ok c8 X hX) x7) hwl hmd hww (fun q hq => sall_ok c5 q hq) (fun v hv => sall_ok c6 v hv) k1 k2 k3 h9
          have := Hk _ _ _ _ y1 ρ2 M' ad' ws' H1 locs1 ls clv _ y3
          rw [y2] at this
          simp only [Nat.add_assoc] at this ⊢
          exact this
end SCS
