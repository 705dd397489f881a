/-! the heap's numbers read and written; calls -/
noncomputable def crow (fm : List SF) (f : Nat) (k : SF → Nat × Nat × Nat × Nat → CX) : CX := match zget fm f with
  | some en => (match en.2.2.2 with
    | .inr a => k en a
    | .inl _ => none)
  | none => none
noncomputable def cobj (fm : List SF) (f : Nat) (k : SF → Nat × List (Nat × Nat × Nat) → CX) : CX := match zget fm f with
  | some en => (match en.2.2.2 with
    | .inl o => k en o
    | .inr _ => none)
  | none => none
theorem crow_ok {fm : List SF} {f : Nat} {k : SF → Nat × Nat × Nat × Nat → CX} {L : List CN} (h : crow fm f k = some L) : ∃ en a, fm[f]? = some en ∧ en.2.2.2 = .inr a ∧ k en a = some L := by
  unfold crow at h
  rw [zget_eq] at h
  cases hf : fm[f]? with
  | none => rw [hf] at h; cases h
  | some en =>
    rw [hf] at h
    simp only at h
    cases he : en.2.2.2 with
    | inl o => rw [he] at h; cases h
    | inr a => rw [he] at h; exact ⟨en, a, rfl, he, h⟩
theorem cobj_ok {fm : List SF} {f : Nat} {k : SF → Nat × List (Nat × Nat × Nat) → CX} {L : List CN} (h : cobj fm f k = some L) : ∃ en o, fm[f]? = some en ∧ en.2.2.2 = .inl o ∧ k en o = some L := by
  unfold cobj at h
  rw [zget_eq] at h
  cases hf : fm[f]? with
  | none => rw [hf] at h; cases h
  | some en =>
    rw [hf] at h
    simp only at h
    cases he : en.2.2.2 with
    | inr o => rw [he] at h; cases h
    | inl a => rw [he] at h; exact ⟨en, a, rfl, he, h⟩
theorem cbind_ok {q : CN} {t n pc : Nat} {lv : SL} {st : List SV} {ret : CRt} {L : List CN} (h : cbind q t n pc lv st ret = some L) : ∃ L', L = q :: L' := by
  obtain ⟨-, h2⟩ := ccond h
  rw [sn_eq] at h2
  obtain ⟨L', -, h4⟩ := ccons_ok h2
  exact ⟨L', h4⟩
noncomputable def cx_ald (fm : List SF) (t tc n pc : Nat) (lv : SL) (st : List SV) (ret : CRt) : CX := match st with
  | i :: x :: st' => cond (Nat.beq i.1 0 && Nat.beq x.1 2) (crow fm x.2.1 (fun _ a => cond (Nat.beq a.1 t && Nat.beq a.2.1 0) (cbind (2, x.2.1, a.2.2.1, [x, i]) tc n (pc + 1) lv st' ret) none)) none
  | _ => none
noncomputable def cx_cpy (fm : List SF) (n pc : Nat) (lv : SL) (st : List SV) (ret : CRt) : CX := match st with
  | c :: p1 :: y :: p0 :: x :: st' => cond (Nat.beq c.1 0 && (Nat.beq p1.1 0 && (sbeq p1.2.2 (sc 0) && (Nat.beq y.1 2 && (Nat.beq p0.1 0 && (sbeq p0.2.2 (sc 0) && (Nat.beq x.1 2 && Nat.ble ((st'.map scat).sum) 8))))))) (crow fm x.2.1 (fun _ a => cond (Nat.beq a.1 0 && Nat.beq a.2.1 0) (crow fm y.2.1 (fun _ b => cond (Nat.beq b.1 0 && Nat.beq b.2.1 0) (ccons (12, a.2.2.1, b.2.2.1, [x, y, c]) (ret n (pc + 3) lv st')) none)) none)) none
  | _ => none
noncomputable def cx_aald (fm : List SF) (n pc : Nat) (lv : SL) (st : List SV) (ret : CRt) : CX := match st with
  | i :: x :: st' => cond (Nat.beq i.1 0 && Nat.beq x.1 2) (crow fm x.2.1 (fun _ a => cond ((Nat.beq a.1 4 || Nat.beq a.1 5) && Nat.beq a.2.1 0) (match zget fm a.2.2.2 with
    | some en2 => cond (Nat.ble a.2.2.1 en2.2.2.1) (ccons (7, a.2.2.1, 0, [i]) (ret n (pc + 1) lv ((2, a.2.2.2, i.2.2) :: st'))) none
    | none => none) none)) none
  | _ => none
noncomputable def cx_getf (fm : List SF) (ci fi n pc : Nat) (lv : SL) (st : List SV) (ret : CRt) : CX := match st with
  | x :: st' => cond (Nat.beq x.1 2) (cobj fm x.2.1 (fun en o => cond (Nat.beq o.1 ci) (match zget o.2 fi with
    | some sp => cond (Nat.beq sp.1 0) (cbind (0, x.2.1, fi, [x]) 0 n (pc + 3) lv st' ret) (cond (Nat.beq sp.1 1) (match zget fm sp.2.1 with
      | some en2 => cond (cond (Nat.beq sp.2.2 0) (Nat.ble 1 en2.2.2.1) (Nat.ble en.2.2.1 en2.2.2.1)) (ret n (pc + 3) lv ((2, sp.2.1, cond (Nat.beq sp.2.2 0) (sc 0) x.2.2) :: st')) none
      | none => none) none)
    | none => none) none)) none
  | _ => none
def crg (k : Nat) (x : SV) (r : CX) : CX := cond (Nat.beq k 1 || Nat.beq k 2) (ccons (6, k, 0, [x]) r) r
noncomputable def cx_putf (fm : List SF) (ci fi kd n pc : Nat) (lv : SL) (st : List SV) (ret : CRt) : CX := match st with
  | z :: x :: st' => cond (Nat.beq z.1 0 && (Nat.beq x.1 2 && Nat.blt kd 2)) (cobj fm x.2.1 (fun _ o => cond (Nat.beq o.1 ci) (match zget o.2 fi with
    | some sp => cond (Nat.beq sp.1 0) (crg kd z (ccons (1, x.2.1, fi, [x, z]) (ret n (pc + 3) lv st'))) none
    | none => none) none)) none
  | _ => none
noncomputable def cx_ast (fm : List SF) (t tc n pc : Nat) (lv : SL) (st : List SV) (ret : CRt) : CX := match st with
  | z :: i :: x :: st' => cond (Nat.beq z.1 tc && (Nat.beq i.1 0 && Nat.beq x.1 2)) (crow fm x.2.1 (fun _ a => cond (Nat.beq a.1 t && Nat.beq a.2.1 0) (crg t z (ccons (3, x.2.1, a.2.2.1, [x, i, z]) (ret n (pc + 1) lv st'))) none)) none
  | _ => none
noncomputable def cx_len (fm : List SF) (n pc : Nat) (lv : SL) (st : List SV) (ret : CRt) : CX := match st with
  | x :: st' => cond (Nat.beq x.1 2) (crow fm x.2.1 (fun _ a => cond (Nat.blt a.1 6 && (Nat.beq a.2.1 0 && Nat.blt a.2.2.1 2147483648)) (ret n (pc + 1) lv ((0, 0, sc (a.2.2.1 : Int)) :: st')) none)) none
  | _ => none
def cx_sld (n pc : Nat) (lv : SL) (st : List SV) (ret : CRt) : CX := match st with
  | i :: x :: st' => cond (Nat.beq i.1 0 && Nat.beq x.1 3) (cbind (11, 0, 0, [i]) 0 n (pc + 1) lv st' ret) none
  | _ => none
theorem crg_ok {k : Nat} {x : SV} {r : CX} {L : List CN} (h : crg k x r = some L) : ∃ L', r = some L' ∧ ∀ {E : Nat → List CA → SMem → (List Int → SMem → Prop) → Prop} {Qr : List Int → SMem → Prop} {C : Nat → List Int → SMem → Prop} {fd : Nat} {v : List Int} {M : SMem}, cden E Qr C fd L v M → ∃ fd', cden E Qr C fd' L' v M ∧ (k = 1 ∨ k = 2 → clo k ≤ cE2 v x ∧ cE2 v x ≤ chi k) := by
  unfold crg at h
  cases hk : (Nat.beq k 1 || Nat.beq k 2) with
  | true =>
    rw [hk, cond_true] at h
    obtain ⟨L', h1, rfl⟩ := ccons_ok h
    refine ⟨L', h1, fun hd => ?_⟩
    obtain ⟨fd', rfl, hb, hd⟩ := cden_s hd
    exact ⟨fd', hd, fun _ => hb⟩
  | false =>
    rw [hk, cond_false] at h
    refine ⟨L, h, fun hd => ⟨_, hd, fun q => ?_⟩⟩
    rcases q with rfl | rfl <;> cases hk
section CMM
variable {p : Program} {l : Launch} {e : Env} {R : Room} {s : State} {m : MethodId} {args : Array Value} {below : List Frame} {meth : Method} {c : Code} {Q : State → Prop} {dC : Nat → ClassId} {dI : Nat → Nat → Nat} {cA : Nat → ClassId} {A : Nat → Prop} {nL : Nat} {fm : List SF} {scr : Nat} {ad : SAd} {nc ns : Nat} {E : Nat → List CA → SMem → (List Int → SMem → Prop) → Prop} {Qr : List Int → SMem → Prop} {C : Nat → List Int → SMem → Prop} {Sx : SMem → Prop} {cc : ByteArray} {own : String} {n pc : Nat} {lv : SL} {st : List SV} {L : List CN} {ret : CRt}
theorem csl0 {M : SMem} {j : Nat} {a : Nat × Nat × Nat × Nat} (h : Nat.beq a.2.1 0 = true) : slen M j a = a.2.2.1 := by
  unfold slen
  rw [h]
  rfl
theorem cG_ald {t tc : Nat} (hrow : ∀ (f jn : Nat) (en : SF) (a : Nat × Nat × Nat × Nat) (wv : va_E) (iv : Int32) (M : SMem) (ws : va_W) (H : Heap) (locs : List Loc) (ls : Array Slot) (cst : List Value), a.1 = t → va_P (dC, dI) vwCl ws H → ws[spos en jn]? = some (ad f jn, wv) → sHa ad M cA f jn a wv → vp_in iv (slen M jn a) → ∃ cv, sfit tc cv (M f jn iv.toNatClampNeg) ∧ (W p l e R s m args below meth c H locs nc ns Q (F0 m (pc + 1) ls (cv :: cst)) → W p l e R s m args below meth c H locs nc ns Q (F0 m pc ls (.int iv :: .ref (ad f jn) :: cst)))) (h : cx_ald fm t tc n pc lv st ret = some L) (Hk : ∀ (n pc : Nat) (lv : SL) (st : List SV) (L : List CN), ret n pc lv st = some L → cG p l e R s m args below meth c Q dC dI cA A nL fm scr ad nc ns E Qr C Sx n pc lv st L) : cG p l e R s m args below meth c Q dC dI cA A nL fm scr ad nc ns E Qr C Sx n pc lv st L := by
  match st, h with
  | [], h => cases h
  | [_], h => cases h
  | i :: x :: st', h =>
    obtain ⟨h0, h⟩ := ccond h
    rw [Bool.and_eq_true] at h0
    obtain ⟨en, a, hen, ha, h⟩ := crow_ok h
    obtain ⟨ht, h⟩ := ccond h
    rw [Bool.and_eq_true] at ht
    intro fd v M ws H locs ls clv cst hv hX hH hP hD hS hl q6 q7 hd
    obtain ⟨ci, cr, rfl, h5, h6⟩ := svs_cons q7
    obtain ⟨cv, cr, rfl, h7, h8⟩ := svs_cons h6
    obtain ⟨iv, rfl, ei⟩ := sv_int h0.1 h5
    have hv2 : x.1 = 2 := Nat.beq_eq.mp h0.2
    rcases h7 with ⟨q, -⟩ | ⟨q, -⟩ | ⟨-, jn, en', hj, hen', hjn, rfl⟩ | ⟨q, -⟩
    · omega
    · omega
    · cases hen.symm.trans hen'
      obtain ⟨L1, eL⟩ := cbind_ok h
      have hd2 := hd
      rw [eL] at hd2
      obtain ⟨fd', rfl, jn', i0, e1, e2, e3, hd2⟩ := cden_s hd2
      have e1 : (jn' : Int) = sev (cen v) x.2.2 := e1
      have e2 : (i0 : Int) = sev (cen v) i.2.2 := e2
      have ej : jn' = jn := by omega
      subst ej
      have hcl := sclamp (x := iv) (by omega)
      have ei0 : i0 = iv.toNatClampNeg := by omega
      have hin : vp_in iv (slen M jn' a) := vp_in_iff.mpr ⟨by omega, by rw [csl0 ht.2]; have : i0 < a.2.2.1 := e3; omega⟩
      obtain ⟨wv, hwv, hse⟩ := hH _ en hen jn' hjn
      unfold sHe at hse
      rw [ha] at hse
      obtain ⟨cv, g1, g2⟩ := hrow x.2.1 jn' en a wv iv M ws H locs ls cr (Nat.beq_eq.mp ht.1) hP hwv hse hin
      refine g2 (cG_bind (fd := fd') h Hk hv hX hH hP hD hS hl q6 h8 g1 (fun L' e9 => ?_))
      cases eL.symm.trans e9
      rw [← ei0]
      exact hd2
    · omega
theorem cG_iald (hx : p.tables.exec = Jvm.exec) (hb : c.code = cc) (hKv : va_K (dC, dI) vwCl (ztys cA) s) (hdg : decode cc pc = .ok (.iaload, 1)) (h : cx_ald fm 0 0 n pc lv st ret = some L) (Hk : ∀ (n pc : Nat) (lv : SL) (st : List SV) (L : List CN), ret n pc lv st = some L → cG p l e R s m args below meth c Q dC dI cA A nL fm scr ad nc ns E Qr C Sx n pc lv st L) : cG p l e R s m args below meth c Q dC dI cA A nL fm scr ad nc ns E Qr C Sx n pc lv st L := by
  refine cG_ald ?_ h Hk
  intro f jn en a wv iv M ws H locs ls cst ht hP hw hs hin
  obtain ⟨g, rfl, hg⟩ := hs.1 (by omega)
  exact ⟨_, by rw [← hg]; exact sfitI _, va_iald hx hb hKv hP _ 0 (by rw [ht] at hw; exact hw) rfl hin hdg⟩
theorem cG_zald (hx : p.tables.exec = Jvm.exec) (hb : c.code = cc) (hKv : va_K (dC, dI) vwCl (ztys cA) s) (hdg : decode cc pc = .ok (.baload, 1)) (h : cx_ald fm 1 0 n pc lv st ret = some L) (Hk : ∀ (n pc : Nat) (lv : SL) (st : List SV) (L : List CN), ret n pc lv st = some L → cG p l e R s m args below meth c Q dC dI cA A nL fm scr ad nc ns E Qr C Sx n pc lv st L) : cG p l e R s m args below meth c Q dC dI cA A nL fm scr ad nc ns E Qr C Sx n pc lv st L := by
  refine cG_ald ?_ h Hk
  intro f jn en a wv iv M ws H locs ls cst ht hP hw hs hin
  obtain ⟨g, rfl, hg⟩ := hs.1 (by omega)
  exact ⟨_, by rw [← hg]; exact sfitI _, va_zald hx hb hKv hP _ 1 (by rw [ht] at hw; exact hw) rfl hin hdg⟩
theorem cG_cald (hx : p.tables.exec = Jvm.exec) (hb : c.code = cc) (hKv : va_K (dC, dI) vwCl (ztys cA) s) (hdg : decode cc pc = .ok (.caload, 1)) (h : cx_ald fm 2 0 n pc lv st ret = some L) (Hk : ∀ (n pc : Nat) (lv : SL) (st : List SV) (L : List CN), ret n pc lv st = some L → cG p l e R s m args below meth c Q dC dI cA A nL fm scr ad nc ns E Qr C Sx n pc lv st L) : cG p l e R s m args below meth c Q dC dI cA A nL fm scr ad nc ns E Qr C Sx n pc lv st L := by
  refine cG_ald ?_ h Hk
  intro f jn en a wv iv M ws H locs ls cst ht hP hw hs hin
  obtain ⟨g, rfl, hg⟩ := hs.1 (by omega)
  exact ⟨_, by rw [← hg]; exact sfitI _, va_cald hx hb hKv hP _ 2 (by rw [ht] at hw; exact hw) rfl hin hdg⟩
theorem cG_lald (hx : p.tables.exec = Jvm.exec) (hb : c.code = cc) (hKv : va_K (dC, dI) vwCl (ztys cA) s) (hdg : decode cc pc = .ok (.laload, 1)) (h : cx_ald fm 3 1 n pc lv st ret = some L) (Hk : ∀ (n pc : Nat) (lv : SL) (st : List SV) (L : List CN), ret n pc lv st = some L → cG p l e R s m args below meth c Q dC dI cA A nL fm scr ad nc ns E Qr C Sx n pc lv st L) : cG p l e R s m args below meth c Q dC dI cA A nL fm scr ad nc ns E Qr C Sx n pc lv st L := by
  refine cG_ald ?_ h Hk
  intro f jn en a wv iv M ws H locs ls cst ht hP hw hs hin
  obtain ⟨g, rfl, hg⟩ := hs.2.1 (by omega)
  exact ⟨_, by rw [← hg]; exact sfitL _, va_lald hx hb hKv hP _ 3 (by rw [ht] at hw; exact hw) rfl hin hdg⟩
theorem cG_aald (hx : p.tables.exec = Jvm.exec) (hb : c.code = cc) (hKv : va_K (dC, dI) vwCl (ztys cA) s) (hdg : decode cc pc = .ok (.aaload, 1)) (h : cx_aald fm n pc lv st ret = some L) (Hk : ∀ (n pc : Nat) (lv : SL) (st : List SV) (L : List CN), ret n pc lv st = some L → cG p l e R s m args below meth c Q dC dI cA A nL fm scr ad nc ns E Qr C Sx n pc lv st L) : cG p l e R s m args below meth c Q dC dI cA A nL fm scr ad nc ns E Qr C Sx n pc lv st L := by
  match st, h with
  | [], h => cases h
  | [_], h => cases h
  | i :: x :: st', h =>
    obtain ⟨h0, h⟩ := ccond h
    rw [Bool.and_eq_true] at h0
    obtain ⟨en, a, hen, ha, h⟩ := crow_ok h
    obtain ⟨ht, h⟩ := ccond h
    rw [Bool.and_eq_true] at ht
    rw [zget_eq] at h
    cases he2 : fm[a.2.2.2]? with
    | none => rw [he2] at h; cases h
    | some en2 =>
      rw [he2] at h
      simp only at h
      obtain ⟨h9, h⟩ := ccond h
      obtain ⟨L', h1, rfl⟩ := ccons_ok h
      intro fd v M ws H locs ls clv cst hv hX hH hP hD hS hl q6 q7 hd
      obtain ⟨ci, cr, rfl, h5, h6⟩ := svs_cons q7
      obtain ⟨cv, cr, rfl, h7, h8⟩ := svs_cons h6
      obtain ⟨iv, rfl, ei⟩ := sv_int h0.1 h5
      have hv2 : x.1 = 2 := Nat.beq_eq.mp h0.2
      obtain ⟨fd', rfl, hb9, hd⟩ := cden_s hd
      have hb9 : 0 ≤ sev (cen v) i.2.2 ∧ sev (cen v) i.2.2 < (a.2.2.1 : Int) := hb9
      rcases h7 with ⟨q, -⟩ | ⟨q, -⟩ | ⟨-, jn, en', hj, hen', hjn, rfl⟩ | ⟨q, -⟩
      · omega
      · omega
      · cases hen.symm.trans hen'
        have hle := Nat.le_of_ble_eq_true h9
        have hsl := csl0 (M := M) (j := jn) ht.2
        have hin : vp_in iv (slen M jn a) := vp_in_iff.mpr ⟨by omega, by rw [hsl]; omega⟩
        obtain ⟨wv, hwv, hse⟩ := hH _ en hen jn hjn
        unfold sHe at hse
        rw [ha] at hse
        have hcl := sclamp (x := iv) (by omega)
        have ht1 := ht.1
        rw [Bool.or_eq_true] at ht1
        have h34 : 3 < a.1 := by rcases ht1 with q | q <;> have := Nat.beq_eq.mp q <;> omega
        obtain ⟨g, rfl, hg⟩ := hse.2.2 h34
        have hgi := hg iv.toNatClampNeg (by rw [hsl]; omega)
        have hnew : sv fm scr (cen v) ad (2, a.2.2.2, i.2.2) (.ref (ad a.2.2.2 iv.toNatClampNeg)) := Or.inr (Or.inr (Or.inl ⟨rfl, iv.toNatClampNeg, en2, (show (iv.toNatClampNeg : Int) = sev (cen v) i.2.2 by omega), he2, by omega, rfl⟩))
        have hW := Hk _ _ _ _ _ h1 fd' v M ws H locs ls clv (.ref (ad a.2.2.2 iv.toNatClampNeg) :: cr) hv hX hH hP hD hS hl q6 ⟨hnew, h8⟩ hd
        rcases ht1 with q | q
        · have e4 := Nat.beq_eq.mp q
          rw [e4] at hwv
          refine va_aldq hx hb hKv hP _ 4 hwv rfl hin hdg ?_
          rw [hgi]
          exact hW
        · have e4 := Nat.beq_eq.mp q
          rw [e4] at hwv
          refine va_aldq hx hb hKv hP _ 5 hwv rfl hin hdg ?_
          rw [hgi]
          exact hW
      · omega
theorem cG_getf (hx : p.tables.exec = Jvm.exec) (hb : c.code = cc) (hown : s.vm.findClass own = some m.cls) (hts : ∀ w ∈ zT, w.before args s = true) (hKv : va_K (dC, dI) vwCl (ztys cA) s) {idx ci fi N : Nat} {CC : String} {T : u_T} (hin : ∀ w ∈ u_ws CC T N, w ∈ zT) (hc : vwCl[ci]? = some (CC, T, N)) (hf : fi < N) (hlk : Cond.fieldLink own idx (T fi).1 (T fi).2.1 (T fi).2.2.1 ∈ zT) (hdg : decode cc pc = .ok (.getfield idx, 3)) (h : cx_getf fm ci fi n pc lv st ret = some L) (Hk : ∀ (n pc : Nat) (lv : SL) (st : List SV) (L : List CN), ret n pc lv st = some L → cG p l e R s m args below meth c Q dC dI cA A nL fm scr ad nc ns E Qr C Sx n pc lv st L) : cG p l e R s m args below meth c Q dC dI cA A nL fm scr ad nc ns E Qr C Sx n pc lv st L := by
  match st, h with
  | [], h => cases h
  | x :: st', h =>
    obtain ⟨h0, h⟩ := ccond h
    obtain ⟨en, o, hen, ho, h⟩ := cobj_ok h
    obtain ⟨ht, h⟩ := ccond h
    intro fd v M ws H locs ls clv cst hv hX hH hP hD hS hl q6 q7 hd
    obtain ⟨cv, cr, rfl, h7, h8⟩ := svs_cons q7
    have hv2 : x.1 = 2 := Nat.beq_eq.mp h0
    rcases h7 with ⟨q, -⟩ | ⟨q, -⟩ | ⟨-, jn, en', hj, hen', hjn, rfl⟩ | ⟨q, -⟩
    · omega
    · omega
    · cases hen.symm.trans hen'
      obtain ⟨wv, hwv, hse⟩ := hH _ en hen jn hjn
      unfold sHe at hse
      rw [ho] at hse
      obtain ⟨gs, rfl, hgl, hg⟩ := hse
      rw [Nat.beq_eq.mp ht] at hwv
      rw [zget_eq] at h
      cases hsp : o.2[fi]? with
      | none => rw [hsp] at h; cases h
      | some sp =>
        rw [hsp] at h
        simp only at h
        obtain ⟨g0, g1⟩ := hg fi sp hsp
        cases hk0 : Nat.beq sp.1 0 with
        | true =>
          rw [hk0, cond_true] at h
          obtain ⟨y, hx1, hx2⟩ := g0 (Nat.beq_eq.mp hk0)
          obtain ⟨L1, eL⟩ := cbind_ok h
          have hd2 := hd
          rw [eL] at hd2
          obtain ⟨fd', rfl, jn', e1, hd2⟩ := cden_s hd2
          have e1 : (jn' : Int) = sev (cen v) x.2.2 := e1
          have ej : jn' = jn := by omega
          subst ej
          refine va_get hx hb hts hin hown hKv hP _ hwv hc fi hf (hts _ hlk) (fun _ z => z) hx1 hdg ?_
          refine cG_bind (fd := fd') (z := M x.2.1 jn' fi) h Hk hv hX hH hP hD hS hl q6 h8 (Or.inl ⟨rfl, y, rfl, hx2⟩) (fun L' e9 => ?_)
          cases eL.symm.trans e9
          exact hd2
        | false =>
          rw [hk0, cond_false] at h
          obtain ⟨hk1, h⟩ := ccond h
          rw [zget_eq] at h
          cases he2 : fm[sp.2.1]? with
          | none => rw [he2] at h; cases h
          | some en2 =>
            rw [he2] at h
            simp only at h
            obtain ⟨h9, h⟩ := ccond h
            have hx1 := g1 (Nat.beq_eq.mp hk1)
            refine va_get hx hb hts hin hown hKv hP _ hwv hc fi hf (hts _ hlk) (fun _ z => z) hx1 hdg (Hk _ _ _ _ _ h fd v M ws H locs ls clv _ hv hX hH hP hD hS hl q6 ⟨Or.inr (Or.inr (Or.inl ⟨rfl, _, en2, ?_, he2, ?_, rfl⟩)), h8⟩ hd)
            · cases Nat.beq sp.2.2 0 with
              | true => simp only [cond_true, sev_c]; rfl
              | false => exact hj
            · cases hm : Nat.beq sp.2.2 0 with
              | true =>
                rw [hm, cond_true] at h9
                exact Nat.le_of_ble_eq_true h9
              | false =>
                rw [hm, cond_false] at h9
                exact Nat.lt_of_lt_of_le hjn (Nat.le_of_ble_eq_true h9)
    · omega
theorem cputn {ty : FieldType} {kd : Nat} {x : Int32} (hkd : kd < 2) (hk : kd = 1 → 0 ≤ x.toInt ∧ x.toInt ≤ 1) (ht : zkt kd ty = true) : narrow ty (.int x) = .int x ∧ fits ty (.int x) = true := by
  match kd, hkd, hk, ht with
  | 0, _, _, ht =>
    cases ty with
    | int => exact ⟨rfl, rfl⟩
    | _ => cases ht
  | 1, _, hk, ht =>
    cases ty with
    | boolean =>
      have h := hk rfl
      have h2 : x = 0 ∨ x = 1 := by
        by_cases h : x.toInt = 0
        · exact Or.inl (Int32.toInt_inj.mp h)
        · exact Or.inr (Int32.toInt_inj.mp (show x.toInt = 1 by omega))
      rcases h2 with rfl | rfl <;> exact ⟨rfl, rfl⟩
    | _ => cases ht
theorem cG_putf (hx : p.tables.exec = Jvm.exec) (hb : c.code = cc) (hown : s.vm.findClass own = some m.cls) (hts : ∀ w ∈ zT, w.before args s = true) (hKv : va_K (dC, dI) vwCl (ztys cA) s) (hI : sInj fm) (hk9 : sfmok fm) (hSx : ∀ (M : SMem) (f j i : Nat) (z : Int), f < fm.length → Sx M → Sx (supd M f j i z)) {idx ci fi kd N : Nat} {CC : String} {T : u_T} {ty0 : Nat → FieldType} {ty : FieldType} (hin : ∀ w ∈ u_ws CC T N, w ∈ zT) (hty : ∀ k, k < N → parseFieldDescriptor (T k).2.2.1 = some (ty0 k)) (hnm : ∀ a, a < N → ∀ b, b < N → a ≠ b → (T a).2.1 ≠ (T b).2.1) (hc : vwCl[ci]? = some (CC, T, N)) (hf : fi < N) (hlk : Cond.fieldLink own idx (T fi).1 (T fi).2.1 (T fi).2.2.1 ∈ zT) (hfin : (T fi).2.2.2 = false) (hd9 : parseFieldDescriptor (T fi).2.2.1 = some ty) (hkt : zkt kd ty = true) (hdg : decode cc pc = .ok (.putfield idx, 3)) (h : cx_putf fm ci fi kd n pc lv st ret = some L) (Hk : ∀ (n pc : Nat) (lv : SL) (st : List SV) (L : List CN), ret n pc lv st = some L → cG p l e R s m args below meth c Q dC dI cA A nL fm scr ad nc ns E Qr C Sx n pc lv st L) : cG p l e R s m args below meth c Q dC dI cA A nL fm scr ad nc ns E Qr C Sx n pc lv st L := by
  match st, h with
  | [], h => cases h
  | [_], h => cases h
  | z :: x :: st', h =>
    obtain ⟨h0, h⟩ := ccond h
    simp only [Bool.and_eq_true] at h0
    obtain ⟨k1, k2, k3⟩ := h0
    obtain ⟨en, o, hen, ho, h⟩ := cobj_ok h
    obtain ⟨ht, h⟩ := ccond h
    intro fd v M ws H locs ls clv cst hv hX hH hP hD hS hl q6 q7 hd
    obtain ⟨cx, cr, rfl, h3, h4⟩ := svs_cons q7
    obtain ⟨cv, cr, rfl, h7, h8⟩ := svs_cons h4
    obtain ⟨xv, rfl, ex⟩ := sv_int k1 h3
    have hv2 : x.1 = 2 := Nat.beq_eq.mp k2
    rcases h7 with ⟨q, -⟩ | ⟨q, -⟩ | ⟨-, jn, en', hj, hen', hjn, rfl⟩ | ⟨q, -⟩
    · omega
    · omega
    · cases hen.symm.trans hen'
      obtain ⟨wv, hwv, hse⟩ := hH _ en hen jn hjn
      unfold sHe at hse
      rw [ho] at hse
      obtain ⟨gs, rfl, hgl, hg⟩ := hse
      rw [zget_eq] at h
      cases hsp : o.2[fi]? with
      | none => rw [hsp] at h; cases h
      | some sp =>
        rw [hsp] at h
        simp only at h
        obtain ⟨hk0, h⟩ := ccond h
        obtain ⟨L1, h, hcd⟩ := crg_ok h
        obtain ⟨fd1, hd1, hrng⟩ := hcd hd
        obtain ⟨L2, h2, rfl⟩ := ccons_ok h
        obtain ⟨fd2, rfl, jn', z', e1, e2, hd2⟩ := cden_s hd1
        have e1 : (jn' : Int) = sev (cen v) x.2.2 := e1
        have e2 : z' = sev (cen v) z.2.2 := e2
        have ej : jn' = jn := by omega
        subst ej
        have ez : z' = xv.toInt := by omega
        subst ez
        have hlen : fi < gs.length := by rw [hgl]; exact (List.getElem?_eq_some_iff.mp hsp).1
        obtain ⟨hn, hfit⟩ := cputn (x := xv) (zblt k3) (fun q => by
          subst q
          have hr9 : 0 ≤ sev (cen v) z.2.2 ∧ sev (cen v) z.2.2 ≤ 1 := hrng (Or.inl rfl)
          omega) hkt
        have hci := Nat.beq_eq.mp ht
        have hwv' := hwv
        rw [hci] at hwv'
        refine va_put hx hb hts hin ty0 hty hnm hown hKv hP hD hS _ hwv' hc fi hf (hts _ hlk) (fun _ z => z) hfin hd9 hn hfit hlen hdg (fun H1 locs1 p1 p2 p3 => ?_)
        rw [← hci] at p1 p2
        have hH2 := sH_set hI hk9 hH hen hjn (i := fi) (v := xv.toInt) (w' := .inr (o.1, gs.set fi (.int xv))) (by
          unfold sHe
          rw [ho]
          refine ⟨_, rfl, by rw [List.length_set]; exact hgl, fun i' sp' hs' => ?_⟩
          obtain ⟨g0, g1⟩ := hg i' sp' hs'
          by_cases hii : i' = fi
          · subst hii
            cases hsp.symm.trans hs'
            refine ⟨fun _ => ⟨xv, List.getElem?_set_self hlen, by rw [supd_at]⟩, fun q => ?_⟩
            rw [Nat.beq_eq.mp hk0] at q
            cases q
          · rw [List.getElem?_set_ne (fun q => hii q.symm), supd_i hii]
            exact ⟨g0, g1⟩)
        exact Hk _ _ _ _ _ h2 fd2 v _ _ H1 locs1 ls clv cr hv (hSx _ _ _ _ _ (List.getElem?_eq_some_iff.mp hen).1 hX) hH2 p1 p2 p3 hl q6 h8 hd2
    · omega
theorem cG_ast {t tc : Nat} (htc : tc < 2) (hI : sInj fm) (hk9 : sfmok fm) (hSx : ∀ (M : SMem) (f j i : Nat) (z : Int), f < fm.length → Sx M → Sx (supd M f j i z)) (hrow : ∀ (f jn : Nat) (en : SF) (a : Nat × Nat × Nat × Nat) (wv : va_E) (iv : Int32) (cx : Value) (z : Int) (M : SMem) (ws : va_W) (H : Heap) (locs : List Loc) (ls : Array Slot) (cst : List Value), a.1 = t → en.2.2.2 = .inr a → (t = 1 ∨ t = 2 → clo t ≤ z ∧ z ≤ chi t) → sfit tc cx z → va_P (dC, dI) vwCl ws H → va_D A ws → va_S A s.heap H locs → ws[spos en jn]? = some (ad f jn, wv) → sHa ad M cA f jn a wv → slen (supd M f jn iv.toNatClampNeg z) jn a = slen M jn a → vp_in iv (slen M jn a) → ∃ wv', sHe ad (supd M f jn iv.toNatClampNeg z) cA f jn en wv' ∧ ((∀ (H1 : Heap) (locs1 : List Loc), va_P (dC, dI) vwCl (ws.set (spos en jn) (ad f jn, wv')) H1 → va_D A (ws.set (spos en jn) (ad f jn, wv')) → va_S A s.heap H1 locs1 → W p l e R s m args below meth c H1 locs1 nc ns Q (F0 m (pc + 1) ls cst)) → W p l e R s m args below meth c H locs nc ns Q (F0 m pc ls (cx :: .int iv :: .ref (ad f jn) :: cst)))) (h : cx_ast fm t tc n pc lv st ret = some L) (Hk : ∀ (n pc : Nat) (lv : SL) (st : List SV) (L : List CN), ret n pc lv st = some L → cG p l e R s m args below meth c Q dC dI cA A nL fm scr ad nc ns E Qr C Sx n pc lv st L) : cG p l e R s m args below meth c Q dC dI cA A nL fm scr ad nc ns E Qr C Sx n pc lv st L := by
  match st, h with
  | [], h => cases h
  | [_], h => cases h
  | [_, _], h => cases h
  | z :: i :: x :: st', h =>
    obtain ⟨h0, h⟩ := ccond h
    simp only [Bool.and_eq_true] at h0
    obtain ⟨k1, k2, k3⟩ := h0
    obtain ⟨en, a, hen, ha, h⟩ := crow_ok h
    obtain ⟨ht, h⟩ := ccond h
    rw [Bool.and_eq_true] at ht
    obtain ⟨L1, h1, hcd⟩ := crg_ok h
    obtain ⟨L2, h2, rfl⟩ := ccons_ok h1
    intro fd v M ws H locs ls clv cst hv hX hH hP hD hS hl q6 q7 hd
    obtain ⟨cx, cr, rfl, h3, h4⟩ := svs_cons q7
    obtain ⟨ci, cr, rfl, h5, h6⟩ := svs_cons h4
    obtain ⟨cv, cr, rfl, h7, h8⟩ := svs_cons h6
    obtain ⟨iv, rfl, ei⟩ := sv_int k2 h5
    have hv2 : x.1 = 2 := Nat.beq_eq.mp k3
    obtain ⟨fd1, hd1, hrng⟩ := hcd hd
    obtain ⟨fd2, rfl, jn', i0, z', e1, e2, e3, e4, hd2⟩ := cden_s hd1
    have e1 : (jn' : Int) = sev (cen v) x.2.2 := e1
    have e2 : (i0 : Int) = sev (cen v) i.2.2 := e2
    have e3 : i0 < a.2.2.1 := e3
    have e4 : z' = sev (cen v) z.2.2 := e4
    rcases h7 with ⟨q, -⟩ | ⟨q, -⟩ | ⟨-, jn, en', hj, hen', hjn, rfl⟩ | ⟨q, -⟩
    · omega
    · omega
    · cases hen.symm.trans hen'
      have ej : jn' = jn := by omega
      subst ej
      have hcl := sclamp (x := iv) (by omega)
      have ei0 : i0 = iv.toNatClampNeg := by omega
      subst ei0
      have hin : vp_in iv (slen M jn' a) := vp_in_iff.mpr ⟨by omega, by rw [csl0 ht.2]; omega⟩
      obtain ⟨wv, hwv, hse⟩ := hH _ en hen jn' hjn
      unfold sHe at hse
      rw [ha] at hse
      have hsl : slen (supd M x.2.1 jn' iv.toNatClampNeg z') jn' a = slen M jn' a := by rw [csl0 ht.2, csl0 ht.2]
      obtain ⟨wv', g1, g2⟩ := hrow x.2.1 jn' en a wv iv cx z' M ws H locs ls cr (Nat.beq_eq.mp ht.1) ha (fun q => by rw [e4]; exact hrng q) (by rw [e4]; exact sv_fit k1 htc h3) hP hD hS hwv hse hsl hin
      exact g2 (fun H1 locs1 p1 p2 p3 => Hk _ _ _ _ _ h2 fd2 v _ _ H1 locs1 ls clv cr hv (hSx _ _ _ _ _ (List.getElem?_eq_some_iff.mp hen).1 hX) (sH_set hI hk9 hH hen hjn g1) p1 p2 p3 hl q6 h8 hd2)
    · omega
theorem cG_iast (hx : p.tables.exec = Jvm.exec) (hb : c.code = cc) (hKv : va_K (dC, dI) vwCl (ztys cA) s) (hI : sInj fm) (hk9 : sfmok fm) (hSx : ∀ (M : SMem) (f j i : Nat) (z : Int), f < fm.length → Sx M → Sx (supd M f j i z)) (hdg : decode cc pc = .ok (.iastore, 1)) (h : cx_ast fm 0 0 n pc lv st ret = some L) (Hk : ∀ (n pc : Nat) (lv : SL) (st : List SV) (L : List CN), ret n pc lv st = some L → cG p l e R s m args below meth c Q dC dI cA A nL fm scr ad nc ns E Qr C Sx n pc lv st L) : cG p l e R s m args below meth c Q dC dI cA A nL fm scr ad nc ns E Qr C Sx n pc lv st L := by
  refine cG_ast (by decide) hI hk9 hSx ?_ h Hk
  intro f jn en a wv iv cx z M ws H locs ls cst ht ha hk hx9 hP hD hS9 hw hs hsl hin
  obtain ⟨x, rfl, ex⟩ := sfit0 hx9
  obtain ⟨g, rfl, hg⟩ := hs.1 (by omega)
  subst ex
  refine ⟨.inl (cA a.1, slen M jn a, .inl (upd g iv.toNatClampNeg x)), ?_, fun kk => ?_⟩
  · unfold sHe
    rw [ha]
    exact ⟨fun _ => ⟨_, by rw [hsl], supd_upd hg⟩, fun q => by omega, fun q => by omega⟩
  · rw [ht] at hw kk
    exact va_iast hx hb hKv hP hD hS9 _ 0 hw rfl hin hdg kk
theorem cG_zast (hx : p.tables.exec = Jvm.exec) (hb : c.code = cc) (hKv : va_K (dC, dI) vwCl (ztys cA) s) (hI : sInj fm) (hk9 : sfmok fm) (hSx : ∀ (M : SMem) (f j i : Nat) (z : Int), f < fm.length → Sx M → Sx (supd M f j i z)) (hdg : decode cc pc = .ok (.bastore, 1)) (h : cx_ast fm 1 0 n pc lv st ret = some L) (Hk : ∀ (n pc : Nat) (lv : SL) (st : List SV) (L : List CN), ret n pc lv st = some L → cG p l e R s m args below meth c Q dC dI cA A nL fm scr ad nc ns E Qr C Sx n pc lv st L) : cG p l e R s m args below meth c Q dC dI cA A nL fm scr ad nc ns E Qr C Sx n pc lv st L := by
  refine cG_ast (by decide) hI hk9 hSx ?_ h Hk
  intro f jn en a wv iv cx z M ws H locs ls cst ht ha hk hx9 hP hD hS9 hw hs hsl hin
  have hk2 : 0 ≤ z ∧ z ≤ 1 := hk (Or.inl rfl)
  obtain ⟨x, rfl, ex⟩ := sfit0 hx9
  obtain ⟨g, rfl, hg⟩ := hs.1 (by omega)
  subst ex
  refine ⟨.inl (cA a.1, slen M jn a, .inl (upd g iv.toNatClampNeg x)), ?_, fun kk => ?_⟩
  · unfold sHe
    rw [ha]
    exact ⟨fun _ => ⟨_, by rw [hsl], supd_upd hg⟩, fun q => by omega, fun q => by omega⟩
  · rw [ht] at hw kk
    have hn := snarb hk2.1 hk2.2
    exact va_zast hx hb hKv hP hD hS9 _ 1 hw rfl hin hdg (by rw [hn]; exact kk)
theorem cG_cast (hx : p.tables.exec = Jvm.exec) (hb : c.code = cc) (hKv : va_K (dC, dI) vwCl (ztys cA) s) (hI : sInj fm) (hk9 : sfmok fm) (hSx : ∀ (M : SMem) (f j i : Nat) (z : Int), f < fm.length → Sx M → Sx (supd M f j i z)) (hdg : decode cc pc = .ok (.castore, 1)) (h : cx_ast fm 2 0 n pc lv st ret = some L) (Hk : ∀ (n pc : Nat) (lv : SL) (st : List SV) (L : List CN), ret n pc lv st = some L → cG p l e R s m args below meth c Q dC dI cA A nL fm scr ad nc ns E Qr C Sx n pc lv st L) : cG p l e R s m args below meth c Q dC dI cA A nL fm scr ad nc ns E Qr C Sx n pc lv st L := by
  refine cG_ast (by decide) hI hk9 hSx ?_ h Hk
  intro f jn en a wv iv cx z M ws H locs ls cst ht ha hk hx9 hP hD hS9 hw hs hsl hin
  have hk2 : 0 ≤ z ∧ z ≤ 65535 := hk (Or.inr rfl)
  obtain ⟨x, rfl, ex⟩ := sfit0 hx9
  obtain ⟨g, rfl, hg⟩ := hs.1 (by omega)
  subst ex
  refine ⟨.inl (cA a.1, slen M jn a, .inl (upd g iv.toNatClampNeg x)), ?_, fun kk => ?_⟩
  · unfold sHe
    rw [ha]
    exact ⟨fun _ => ⟨_, by rw [hsl], supd_upd hg⟩, fun q => by omega, fun q => by omega⟩
  · rw [ht] at hw kk
    have hn := snarc hk2.1 hk2.2
    exact va_cast hx hb hKv hP hD hS9 _ 2 hw rfl hin hdg (by rw [hn]; exact kk)
theorem cG_last (hx : p.tables.exec = Jvm.exec) (hb : c.code = cc) (hKv : va_K (dC, dI) vwCl (ztys cA) s) (hI : sInj fm) (hk9 : sfmok fm) (hSx : ∀ (M : SMem) (f j i : Nat) (z : Int), f < fm.length → Sx M → Sx (supd M f j i z)) (hdg : decode cc pc = .ok (.lastore, 1)) (h : cx_ast fm 3 1 n pc lv st ret = some L) (Hk : ∀ (n pc : Nat) (lv : SL) (st : List SV) (L : List CN), ret n pc lv st = some L → cG p l e R s m args below meth c Q dC dI cA A nL fm scr ad nc ns E Qr C Sx n pc lv st L) : cG p l e R s m args below meth c Q dC dI cA A nL fm scr ad nc ns E Qr C Sx n pc lv st L := by
  refine cG_ast (by decide) hI hk9 hSx ?_ h Hk
  intro f jn en a wv iv cx z M ws H locs ls cst ht ha hk hx9 hP hD hS9 hw hs hsl hin
  obtain ⟨x, rfl, ex⟩ := sfit1 hx9
  obtain ⟨g, rfl, hg⟩ := hs.2.1 (by omega)
  subst ex
  refine ⟨.inl (cA a.1, slen M jn a, .inr (.inl (vp_updL g iv.toNatClampNeg x))), ?_, fun kk => ?_⟩
  · unfold sHe
    rw [ha]
    exact ⟨fun q => by omega, fun _ => ⟨_, by rw [hsl], supd_updL hg⟩, fun q => by omega⟩
  · rw [ht] at hw kk
    exact va_last hx hb hKv hP hD hS9 _ 3 hw rfl hin hdg kk
theorem cG_len (hx : p.tables.exec = Jvm.exec) (hb : c.code = cc) (hKv : va_K (dC, dI) vwCl (ztys cA) s) (hdg : decode cc pc = .ok (.arraylength, 1)) (h : cx_len fm n pc lv st ret = some L) (Hk : ∀ (n pc : Nat) (lv : SL) (st : List SV) (L : List CN), ret n pc lv st = some L → cG p l e R s m args below meth c Q dC dI cA A nL fm scr ad nc ns E Qr C Sx n pc lv st L) : cG p l e R s m args below meth c Q dC dI cA A nL fm scr ad nc ns E Qr C Sx n pc lv st L := by
  match st, h with
  | [], h => cases h
  | x :: st', h =>
    obtain ⟨h0, h⟩ := ccond h
    obtain ⟨en, a, hen, ha, h⟩ := crow_ok h
    obtain ⟨ht, h⟩ := ccond h
    simp only [Bool.and_eq_true] at ht
    intro fd v M ws H locs ls clv cst hv hX hH hP hD hS hl q6 q7 hd
    obtain ⟨cv, cr, rfl, h7, h8⟩ := svs_cons q7
    have hv2 : x.1 = 2 := Nat.beq_eq.mp h0
    rcases h7 with ⟨q, -⟩ | ⟨q, -⟩ | ⟨-, jn, en', hj, hen', hjn, rfl⟩ | ⟨q, -⟩
    · omega
    · omega
    · cases hen.symm.trans hen'
      obtain ⟨wv, hwv, hse⟩ := hH _ en hen jn hjn
      unfold sHe at hse
      rw [ha] at hse
      have hlt := zblt ht.1
      have hx9 : ∃ x : vp_A, wv = .inl (cA a.1, x) ∧ x.1 = slen M jn a := by
        by_cases h3 : a.1 < 3
        · obtain ⟨g, rfl, -⟩ := hse.1 h3
          exact ⟨_, rfl, rfl⟩
        · by_cases h4 : a.1 = 3
          · obtain ⟨g, rfl, -⟩ := hse.2.1 h4
            exact ⟨_, rfl, rfl⟩
          · obtain ⟨g, rfl, -⟩ := hse.2.2 (by omega)
            exact ⟨_, rfl, rfl⟩
      obtain ⟨y, rfl, hx1⟩ := hx9
      refine va_alen hx hb hKv hP _ a.1 hwv (ztys_at cA hlt) rfl hdg (Hk _ _ _ _ _ h fd v M ws H locs ls clv _ hv hX hH hP hD hS hl q6 ⟨sv_mkI ?_, h8⟩ hd)
      rw [hx1, csl0 ht.2.1, sev_c]
      exact sofn (zblt ht.2.2)
    · omega
theorem cG_sld (hx : p.tables.exec = Jvm.exec) (hb : c.code = cc) {Ln : Nat} {xv : Nat → Int32} (z1 : va_X scr Ln xv s s.heap) (z2 : scr < s.heap.size) (z3 : ¬ A scr) (z4 : ∀ M, Sx M → M 108 0 0 = (Ln : Int) ∧ ∀ j, j < Ln → M 107 0 j = (xv j).toInt) (hdg : decode cc pc = .ok (.iaload, 1)) (h : cx_sld n pc lv st ret = some L) (Hk : ∀ (n pc : Nat) (lv : SL) (st : List SV) (L : List CN), ret n pc lv st = some L → cG p l e R s m args below meth c Q dC dI cA A nL fm scr ad nc ns E Qr C Sx n pc lv st L) : cG p l e R s m args below meth c Q dC dI cA A nL fm scr ad nc ns E Qr C Sx n pc lv st L := by
  match st, h with
  | [], h => cases h
  | [_], h => cases h
  | i :: x :: st', h =>
    obtain ⟨h0, h⟩ := ccond h
    rw [Bool.and_eq_true] at h0
    intro fd v M ws H locs ls clv cst hv hX hH hP hD hS hl q6 q7 hd
    obtain ⟨ci, cr, rfl, h5, h6⟩ := svs_cons q7
    obtain ⟨cv, cr, rfl, h7, h8⟩ := svs_cons h6
    obtain ⟨iv, rfl, ei⟩ := sv_int h0.1 h5
    have h3 : x.1 = 3 := Nat.beq_eq.mp h0.2
    rcases h7 with ⟨q, -⟩ | ⟨q, -⟩ | ⟨q, -⟩ | ⟨-, rfl⟩
    · omega
    · omega
    · omega
    · obtain ⟨L1, eL⟩ := cbind_ok h
      have hd2 := hd
      rw [eL] at hd2
      obtain ⟨fd', rfl, i0, e2, e3, hd2⟩ := cden_s hd2
      have e2 : (i0 : Int) = sev (cen v) i.2.2 := e2
      obtain ⟨m8, m7⟩ := z4 M hX
      have e3 : (i0 : Int) < M 108 0 0 := e3
      rw [m8] at e3
      have hcl := sclamp (x := iv) (by omega)
      have ei0 : i0 = iv.toNatClampNeg := by omega
      have hin : vp_in iv Ln := vp_in_iff.mpr ⟨by omega, by omega⟩
      refine va_sld hx hb z1 z2 z3 hS hin hdg ?_
      refine cG_bind (fd := fd') (z := M 107 0 i0) h Hk hv hX hH hP hD hS hl q6 h8 (Or.inl ⟨rfl, _, rfl, ?_⟩) (fun L' e9 => ?_)
      · rw [m7 i0 (by omega), ei0]
      · cases eL.symm.trans e9
        exact hd2
end CMM
