/-! fields and rows -/
/-- what is taken of the kinds and the bounds -/
def sST (fm : List SF) (rg : SRg) : Prop := sInj fm ∧ sfmok fm ∧ rg.2 = [] ∧ (∀ x, srg rg 41 x = some (0, 10)) ∧ srg rg 50 0 = some (-1, 7) ∧ (∀ (f : Nat) (en : SF) (a : Nat × Nat × Nat × Nat), fm[f]? = some en → en.2.2.2 = .inr a → ∀ x, srg rg f x = srg rg f 0 ∧ scl rg f x = 0) ∧ (∀ f, f ∈ [27, 29, 37, 40, 41, 42, 50, 104] → ∀ en, fm[f]? = some en → en.2.2.1 = 1) ∧ (∀ (f : Nat) (en : SF) (a : Nat × Nat × Nat × Nat), fm[f]? = some en → en.2.2.2 = .inr a → a.2.1 ≠ 0 → ∀ x, srg rg a.2.2.1 x = srg rg a.2.2.1 0) ∧ ∀ x, srg rg 29 x = srg rg 29 0
def sidx (rg : SRg) (a : Nat × Nat × Nat × Nat) (j i : SE) (lv : SL) (st : List SV) (w : SW) (k : SW → SX) : SX := cond (Nat.beq a.2.1 0) (cond (sin w.2.2.1 i 0 ((a.2.2.1 : Int) - 1)) (k w) none) (sldk rg a.2.2.1 0 j (sc 0) lv st w (fun L w => cond (sent w.2.2.1 i && sent w.2.2.1 (saddc (ssub L i) (-1))) (k w) none))
noncomputable def srow (fm : List SF) (f : Nat) (k : SF → Nat × Nat × Nat × Nat → SX) : SX := match zget fm f with
  | some en => (match en.2.2.2 with
    | .inr a => k en a
    | .inl _ => none)
  | none => none
noncomputable def sobj (fm : List SF) (f : Nat) (k : SF → Nat × List (Nat × Nat × Nat) → SX) : SX := match zget fm f with
  | some en => (match en.2.2.2 with
    | .inl o => k en o
    | .inr _ => none)
  | none => none
theorem srow_ok {fm : List SF} {f : Nat} {k : SF → Nat × Nat × Nat × Nat → SX} {xs : List SS} (h : sub (srow fm f k) xs) : ∃ en a, fm[f]? = some en ∧ en.2.2.2 = .inr a ∧ sub (k en a) xs := by
  unfold srow at h
  rw [zget_eq] at h
  cases hf : fm[f]? with
  | none => rw [hf] at h; exact (sub_none h).elim
  | some en =>
    rw [hf] at h
    simp only at h
    cases he : en.2.2.2 with
    | inl o => rw [he] at h; exact (sub_none h).elim
    | inr a => rw [he] at h; exact ⟨en, a, rfl, he, h⟩
theorem sobj_ok {fm : List SF} {f : Nat} {k : SF → Nat × List (Nat × Nat × Nat) → SX} {xs : List SS} (h : sub (sobj fm f k) xs) : ∃ en o, fm[f]? = some en ∧ en.2.2.2 = .inl o ∧ sub (k en o) xs := by
  unfold sobj at h
  rw [zget_eq] at h
  cases hf : fm[f]? with
  | none => rw [hf] at h; exact (sub_none h).elim
  | some en =>
    rw [hf] at h
    simp only at h
    cases he : en.2.2.2 with
    | inr o => rw [he] at h; exact (sub_none h).elim
    | inl a => rw [he] at h; exact ⟨en, a, rfl, he, h⟩
theorem sclamp {x : Int32} (h : 0 ≤ x.toInt) : (x.toNatClampNeg : Int) = x.toInt := by
  show (x.toInt.toNat : Int) = x.toInt
  omega
noncomputable def sx_ald (fm : List SF) (rg : SRg) (t tc : Nat) (pc : Nat) (lv : SL) (st : List SV) (w : SW) (ret : SRt) : SX := match st with
  | i :: v :: st' => cond (Nat.beq i.1 0 && Nat.beq v.1 2) (srow fm v.2.1 (fun _ a => cond (Nat.beq a.1 t) (sidx rg a v.2.2 i.2.2 lv st w (fun w => sldx rg v.2.1 0 v.2.2 i.2.2 lv st w (fun e w => ret (pc + 1) lv ((tc, 0, e) :: st') w))) none)) none
  | _ => none
noncomputable def sx_aald (fm : List SF) (rg : SRg) (pc : Nat) (lv : SL) (st : List SV) (w : SW) (ret : SRt) : SX := match st with
  | i :: v :: st' => cond (Nat.beq i.1 0 && Nat.beq v.1 2) (srow fm v.2.1 (fun _ a => cond (Nat.beq a.1 4 || Nat.beq a.1 5) (sidx rg a v.2.2 i.2.2 lv st w (fun w => match zget fm a.2.2.2 with
    | some en2 => cond (Nat.ble a.2.2.1 en2.2.2.1 && Nat.beq a.2.1 0) (ret (pc + 1) lv ((2, a.2.2.2, i.2.2) :: st') w) none
    | none => none)) none)) none
  | _ => none
noncomputable def sx_getf (fm : List SF) (rg : SRg) (ci fi : Nat) (pc : Nat) (lv : SL) (st : List SV) (w : SW) (ret : SRt) : SX := match st with
  | v :: st' => cond (Nat.beq v.1 2) (sobj fm v.2.1 (fun en o => cond (Nat.beq o.1 ci) (match zget o.2 fi with
    | some sp => cond (Nat.beq sp.1 0) (sldk rg v.2.1 fi v.2.2 (sc (fi : Int)) lv st w (fun e w => ret (pc + 3) lv ((0, 0, e) :: st') w)) (cond (Nat.beq sp.1 1) (match zget fm sp.2.1 with
      | some en2 => cond (cond (Nat.beq sp.2.2 0) (Nat.ble 1 en2.2.2.1) (Nat.ble en.2.2.1 en2.2.2.1)) (ret (pc + 3) lv ((2, sp.2.1, cond (Nat.beq sp.2.2 0) (sc 0) v.2.2) :: st') w) none
      | none => none) none)
    | none => none) none)) none
  | _ => none
section SRO
variable {p : Program} {l : Launch} {e : Env} {R : Room} {s : State} {m : MethodId} {args : Array Value} {below : List Frame} {meth : Method} {c : Code} {Q : State → Prop} {dC : Nat → ClassId} {dI : Nat → Nat → Nat} {cA : Nat → ClassId} {A : Nat → Prop} {nL : Nat} {fm : List SF} {rg : SRg} {wr : SWr} {scr n0 : Nat} {ρ0 : Nat → Int} {M0 : SMem} {ad0 : SAd} {nc0 ns0 : Nat} {cc : ByteArray} {pc : Nat} {lv : SL} {st : List SV} {w : SW} {ret : SRt} {xs : List SS} {own : String}
variable {ρ : Nat → Int} {M : SMem} {ad : SAd} {ws : va_W} {H : Heap} {locs : List Loc} {ls : Array Slot} {clv : ZL} {cst : List Value} {f cn jn i0 : Nat} {j i : SE}
theorem sldx_ok {k : SE → SW → SX} {z : Int} {en : SF} {a : Nat × Nat × Nat × Nat} (hS : sST fm rg) (hen : fm[f]? = some en) (ha : en.2.2.2 = .inr a) (hjn : jn < en.2.2.1) (hr : sRel fm rg sX sfI wr scr n0 ρ0 M0 ad0 dC dI cA A s.heap nL lv st w ρ M ad ws H locs ls clv cst) (hb : (∀ n, sall (fun v => sbe n v.2.2) st = true → sbe n j = true ∧ sbe n i = true)) (hj : (jn : Int) = sev ρ j) (hi0 : (i0 : Int) = sev ρ i) (hz : M f jn i0 = z) (h : sub (sldx rg f 0 j i lv st w k) xs) : ∃ (ρ' : Nat → Int) (e' : SE) (w' : SW), z = sev ρ' e' ∧ sRel fm rg sX sfI wr scr n0 ρ0 M0 ad0 dC dI cA A s.heap nL lv st w' ρ' M ad ws H locs ls clv cst ∧ sub (k e' w') xs ∧ w'.2.2.2 = w.2.2.2 ∧ ∀ e, (∀ n, sall (fun v => sbe n v.2.2) st = true → sbe n e = true) → sev ρ' e = sev ρ e := by
  obtain ⟨s1, s2, s3, s4, s5, s6, s7, s8, s9⟩ := hS
  have hcn := (s6 f en a hen ha i0).1
  have hone : f ∈ [27, 29, 37, 40, 41, 42, 50, 104] → jn = 0 := fun q => by
    have := s7 f q en hen
    omega
  unfold sldx at h
  cases hm : smf w.1.1 f j i with
  | some v =>
    rw [hm] at h
    simp only at h
    cases h9 : Nat.beq f 99 with
    | true =>
      rw [h9, cond_true] at h
      cases Nat.beq_eq.mp h9
      exact sldU_ok hr hb hcn hj hi0 hz h
    | false =>
      rw [h9, cond_false] at h
      exact ⟨ρ, v, w, hz.symm.trans (smf_ok hr.2.1.2.2.1 hm hj hi0), hr, h, rfl, fun _ _ => rfl⟩
  | none =>
    rw [hm] at h
    simp only at h
    cases h1 : Nat.beq f 29 with
    | true =>
      rw [h1, cond_true] at h
      cases Nat.beq_eq.mp h1
      exact sldD_ok hr hb hcn hj (hone (by simp)) hi0 hz h
    | false =>
      rw [h1, cond_false] at h
      cases h2 : Nat.beq f 50 with
      | true =>
        rw [h2, cond_true] at h
        cases Nat.beq_eq.mp h2
        exact sldN_ok hr hb hcn s5 hj (hone (by simp)) hi0 hz h
      | false =>
        rw [h2, cond_false] at h
        cases h3 : Nat.beq f 41 with
        | true =>
          rw [h3, cond_true] at h
          cases Nat.beq_eq.mp h3
          exact sldO_ok hr hb s4 hj (hone (by simp)) hi0 hz h
        | false =>
          rw [h3, cond_false] at h
          cases h4 : Nat.beq f 99 with
          | true =>
            rw [h4, cond_true] at h
            cases Nat.beq_eq.mp h4
            exact sldU_ok hr hb hcn hj hi0 hz h
          | false =>
            rw [h4, cond_false] at h
            exact lokw (sldk_ok hr hb hcn hj hi0 hz h)
/-- the index is within the row -/
theorem sidx_ok {k : SW → SX} {en : SF} {a : Nat × Nat × Nat × Nat} (hS : sST fm rg) (hen : fm[f]? = some en) (ha : en.2.2.2 = .inr a) (hr : sRel fm rg sX sfI wr scr n0 ρ0 M0 ad0 dC dI cA A s.heap nL lv st w ρ M ad ws H locs ls clv cst) (hb : (∀ n, sall (fun v => sbe n v.2.2) st = true → sbe n j = true ∧ sbe n i = true)) (hj : (jn : Int) = sev ρ j) (h : sub (sidx rg a j i lv st w k) xs) : ∃ (ρ' : Nat → Int) (w' : SW), 0 ≤ sev ρ i ∧ sev ρ i < (slen M jn a : Int) ∧ sRel fm rg sX sfI wr scr n0 ρ0 M0 ad0 dC dI cA A s.heap nL lv st w' ρ' M ad ws H locs ls clv cst ∧ sub (k w') xs ∧ w'.2.2.2 = w.2.2.2 ∧ ∀ e, (∀ n, sall (fun v => sbe n v.2.2) st = true → sbe n e = true) → sev ρ' e = sev ρ e := by
  unfold sidx at h
  cases hc : Nat.beq a.2.1 0 with
  | true =>
    rw [hc, cond_true] at h
    obtain ⟨h1, h2⟩ := sub_cond h
    have h3 := sin_ok (srel_sK hr) h1
    refine ⟨ρ, w, h3.1, ?_, hr, h2, rfl, fun _ _ => rfl⟩
    unfold slen
    rw [hc, cond_true]
    omega
  | false =>
    rw [hc, cond_false] at h
    have hne : a.2.1 ≠ 0 := fun q => by rw [q] at hc; cases hc
    obtain ⟨ρ', L, w', a1, a2, a3, a4, a5⟩ := sldk_ok (f := a.2.2.1) (jn := jn) (i0 := 0) hr (fun n hn => ⟨(hb n hn).1, rfl⟩) rfl hj (by rw [sev_c]; rfl) rfl h
    obtain ⟨h1, h2⟩ := sub_cond a3
    rw [Bool.and_eq_true] at h1
    have h3 := sent_ok (srel_sK a2) h1.1
    have h4 := sent_ok (srel_sK a2) h1.2
    rw [saddc_ev, ssub_ev] at h4
    have e1 : sev ρ' i = sev ρ i := a5 i (fun n hn _ => (hb n hn).2)
    refine ⟨ρ', w', by omega, ?_, a2, h2, a4, fun e he => a5 e (fun n hn _ => he n hn)⟩
    unfold slen
    rw [hc, cond_false]
    omega
theorem sst2 {i v : SV} {st' : List SV} {n : Nat} (h : sall (fun v => sbe n v.2.2) (i :: v :: st') = true) : sbe n v.2.2 = true ∧ sbe n i.2.2 = true := by
  have h1 := sall_ok h i List.mem_cons_self
  have h2 := sall_ok h v (List.mem_cons_of_mem _ List.mem_cons_self)
  exact ⟨h2, h1⟩
/-- a row's element: what the machine's own row has -/
theorem ss_ald {t tc : Nat} (hS : sST fm rg) (hrow : ∀ (f jn : Nat) (en : SF) (a : Nat × Nat × Nat × Nat) (wv : va_E) (iv : Int32) (M : SMem) (ad : SAd) (ws : va_W) (H : Heap) (locs : List Loc) (ls : Array Slot) (cst : List Value), a.1 = t → va_P (dC, dI) vwCl ws H → ws[spos en jn]? = some (ad f jn, wv) → sHa ad M cA f jn a wv → vp_in iv (slen M jn a) → ∃ cv, sfit tc cv (M f jn iv.toNatClampNeg) ∧ (W p l e R s m args below meth c H locs (nc0 + w.2.2.2.1) (ns0 + w.2.2.2.2) Q (F0 m (pc + 1) ls (cv :: cst)) → W p l e R s m args below meth c H locs (nc0 + w.2.2.2.1) (ns0 + w.2.2.2.2) Q (F0 m pc ls (.int iv :: .ref (ad f jn) :: cst)))) (h : sub (sx_ald fm rg t tc pc lv st w ret) xs) (Hk : ∀ (pc : Nat) (lv : SL) (st : List SV) (w : SW), sub (ret pc lv st w) xs → sW p l e R s m args below meth c Q dC dI cA A nL fm rg sX sfI wr scr n0 ρ0 M0 ad0 nc0 ns0 pc lv st w) : sW p l e R s m args below meth c Q dC dI cA A nL fm rg sX sfI wr scr n0 ρ0 M0 ad0 nc0 ns0 pc lv st w := by
  match st, h with
  | [], h => exact (sub_none h).elim
  | [_], h => exact (sub_none h).elim
  | i :: v :: st', h =>
    obtain ⟨h0, h⟩ := sub_cond h
    rw [Bool.and_eq_true] at h0
    obtain ⟨en, a, hen, ha, h⟩ := srow_ok h
    obtain ⟨ht, h⟩ := sub_cond h
    intro ρ M ad ws H locs ls clv cst hr
    obtain ⟨ci, cr, rfl, h5, h6⟩ := svs_cons hr.2.2.2.2.2.2.2
    obtain ⟨cv, cr, rfl, h7, h8⟩ := svs_cons h6
    obtain ⟨iv, rfl, ei⟩ := sv_int h0.1 h5
    have hv2 : v.1 = 2 := Nat.beq_eq.mp h0.2
    rcases h7 with ⟨q, -⟩ | ⟨q, -⟩ | ⟨-, jn, en', hj, hen', hjn, rfl⟩ | ⟨q, -⟩
    · omega
    · omega
    · cases hen.symm.trans hen'
      have hb1 : ∀ n, sall (fun v => sbe n v.2.2) (i :: v :: st') = true → sbe n v.2.2 = true ∧ sbe n i.2.2 = true := fun n hn => sst2 hn
      obtain ⟨ρ1, w1, b1, b2, b3, b4, b5, b6⟩ := sidx_ok hS hen ha hr hb1 hj h
      have hin : vp_in iv (slen M jn a) := vp_in_iff.mpr ⟨by omega, by omega⟩
      obtain ⟨wv, hwv, hse⟩ := hr.2.1.1 _ en hen jn hjn
      unfold sHe at hse
      rw [ha] at hse
      have hcl := sclamp (x := iv) (by omega)
      obtain ⟨ρ2, e2, w2, c1, c2, c3, c4, c5⟩ := sldx_ok (jn := jn) (i0 := iv.toNatClampNeg) hS hen ha hjn b3 hb1 (by rw [b6 _ (fun n hn => (hb1 n hn).1)]; exact hj) (by rw [b6 _ (fun n hn => (hb1 n hn).2)]; omega) rfl b4
      obtain ⟨cv, g1, g2⟩ := hrow v.2.1 jn en a wv iv M ad ws H locs ls cr (Nat.beq_eq.mp ht) hr.2.2.1 hwv hse hin
      apply g2
      have := Hk _ _ _ _ c3 ρ2 M ad ws H locs ls clv (cv :: cr) ⟨c2.1, c2.2.1, c2.2.2.1, c2.2.2.2.1, c2.2.2.2.2.1, c2.2.2.2.2.2.1, c2.2.2.2.2.2.2.1, sfit_sv (by rw [c1] at g1; exact g1), c2.2.2.2.2.2.2.2.2.2⟩
      rw [c4, b5] at this
      exact this
    · omega
theorem ss_iald (hx : p.tables.exec = Jvm.exec) (hb : c.code = cc) (hKv : va_K (dC, dI) vwCl (ztys cA) s) (hS : sST fm rg) (hdg : decode cc pc = .ok (.iaload, 1)) (h : sub (sx_ald fm rg 0 0 pc lv st w ret) xs) (Hk : ∀ (pc : Nat) (lv : SL) (st : List SV) (w : SW), sub (ret pc lv st w) xs → sW p l e R s m args below meth c Q dC dI cA A nL fm rg sX sfI wr scr n0 ρ0 M0 ad0 nc0 ns0 pc lv st w) : sW p l e R s m args below meth c Q dC dI cA A nL fm rg sX sfI wr scr n0 ρ0 M0 ad0 nc0 ns0 pc lv st w := by
  refine ss_ald hS ?_ h Hk
  intro f jn en a wv iv M ad ws H locs ls cst ht hP hw hs hin
  obtain ⟨g, rfl, hg⟩ := hs.1 (by omega)
  exact ⟨_, by rw [← hg]; exact sfitI _, va_iald hx hb hKv hP _ 0 (by rw [ht] at hw; exact hw) rfl hin hdg⟩
theorem ss_zald (hx : p.tables.exec = Jvm.exec) (hb : c.code = cc) (hKv : va_K (dC, dI) vwCl (ztys cA) s) (hS : sST fm rg) (hdg : decode cc pc = .ok (.baload, 1)) (h : sub (sx_ald fm rg 1 0 pc lv st w ret) xs) (Hk : ∀ (pc : Nat) (lv : SL) (st : List SV) (w : SW), sub (ret pc lv st w) xs → sW p l e R s m args below meth c Q dC dI cA A nL fm rg sX sfI wr scr n0 ρ0 M0 ad0 nc0 ns0 pc lv st w) : sW p l e R s m args below meth c Q dC dI cA A nL fm rg sX sfI wr scr n0 ρ0 M0 ad0 nc0 ns0 pc lv st w := by
  refine ss_ald hS ?_ h Hk
  intro f jn en a wv iv M ad ws H locs ls cst ht hP hw hs hin
  obtain ⟨g, rfl, hg⟩ := hs.1 (by omega)
  exact ⟨_, by rw [← hg]; exact sfitI _, va_zald hx hb hKv hP _ 1 (by rw [ht] at hw; exact hw) rfl hin hdg⟩
theorem ss_cald (hx : p.tables.exec = Jvm.exec) (hb : c.code = cc) (hKv : va_K (dC, dI) vwCl (ztys cA) s) (hS : sST fm rg) (hdg : decode cc pc = .ok (.caload, 1)) (h : sub (sx_ald fm rg 2 0 pc lv st w ret) xs) (Hk : ∀ (pc : Nat) (lv : SL) (st : List SV) (w : SW), sub (ret pc lv st w) xs → sW p l e R s m args below meth c Q dC dI cA A nL fm rg sX sfI wr scr n0 ρ0 M0 ad0 nc0 ns0 pc lv st w) : sW p l e R s m args below meth c Q dC dI cA A nL fm rg sX sfI wr scr n0 ρ0 M0 ad0 nc0 ns0 pc lv st w := by
  refine ss_ald hS ?_ h Hk
  intro f jn en a wv iv M ad ws H locs ls cst ht hP hw hs hin
  obtain ⟨g, rfl, hg⟩ := hs.1 (by omega)
  exact ⟨_, by rw [← hg]; exact sfitI _, va_cald hx hb hKv hP _ 2 (by rw [ht] at hw; exact hw) rfl hin hdg⟩
theorem ss_lald (hx : p.tables.exec = Jvm.exec) (hb : c.code = cc) (hKv : va_K (dC, dI) vwCl (ztys cA) s) (hS : sST fm rg) (hdg : decode cc pc = .ok (.laload, 1)) (h : sub (sx_ald fm rg 3 1 pc lv st w ret) xs) (Hk : ∀ (pc : Nat) (lv : SL) (st : List SV) (w : SW), sub (ret pc lv st w) xs → sW p l e R s m args below meth c Q dC dI cA A nL fm rg sX sfI wr scr n0 ρ0 M0 ad0 nc0 ns0 pc lv st w) : sW p l e R s m args below meth c Q dC dI cA A nL fm rg sX sfI wr scr n0 ρ0 M0 ad0 nc0 ns0 pc lv st w := by
  refine ss_ald hS ?_ h Hk
  intro f jn en a wv iv M ad ws H locs ls cst ht hP hw hs hin
  obtain ⟨g, rfl, hg⟩ := hs.2.1 (by omega)
  exact ⟨_, by rw [← hg]; exact sfitL _, va_lald hx hb hKv hP _ 3 (by rw [ht] at hw; exact hw) rfl hin hdg⟩
end SRO
