/-! every instruction; the run; a method -/
theorem csmcp_f {M : SMem} {f0 j0 f1 j1 N f j i : Nat} (h : f ≠ f1) : sMcp M f0 j0 f1 j1 N f j i = M f j i := if_neg (fun q => h q.1)
section CCP
variable {p : Program} {l : Launch} {e : Env} {R : Room} {s : State} {m : MethodId} {args : Array Value} {below : List Frame} {meth : Method} {c : Code} {Q : State → Prop} {dC : Nat → ClassId} {dI : Nat → Nat → Nat} {cA : Nat → ClassId} {A : Nat → Prop} {cc : ByteArray} {own : String} {pc nc ns : Nat} {fm : List SF} {ad : SAd} {M : SMem} {ws : va_W} {H : Heap} {locs : List Loc} {ls : Array Slot} {rest : List Value}
theorem ccpyW (hI : sInj fm) (hk : sfmok fm) (hx : p.tables.exec = Jvm.exec) (hb : c.code = cc) (hml : c.maxLocals = ls.size) (hown : s.vm.findClass own = some m.cls) (hts : ∀ w ∈ zT, w.before args s = true) (hKv : va_K (dC, dI) vwCl (ztys cA) s) {idx : Nat} (h1 : Cond.methodLink own idx arraycopyName ∈ zT) (h2 : Cond.native arraycopyName ∈ zT) (h3 : Cond.static arraycopyName ∈ zT) (h4 : Cond.initialized "java/lang/System" ∈ zT) (hH : sH fm ad M cA ws) (hP : va_P (dC, dI) vwCl ws H) (hD : va_D A ws) (hS : va_S A s.heap H locs) {f0 f1 j0 j1 : Nat} {en0 en1 : SF} {a0 a1 : Nat × Nat × Nat × Nat} (hen0 : fm[f0]? = some en0) (ha0 : en0.2.2.2 = .inr a0) (hen1 : fm[f1]? = some en1) (ha1 : en1.2.2.2 = .inr a1) (z0 : a0.1 = 0) (z1 : a1.1 = 0) (hj0 : j0 < en0.2.2.1) (hj1 : j1 < en1.2.2.1) {n : Int32} (n0 : 0 ≤ n.toInt) (n1 : n.toNatClampNeg ≤ slen M j0 a0) (n2 : n.toNatClampNeg ≤ slen M j1 a1) (h8 : (rest.map fun v => v.category).sum ≤ 8) (hRf : 1 ≤ R.frames) (hRl : 40 ≤ R.locals) (hdg : decode cc pc = .ok (.invokestatic idx, 3))
    (kk : ∀ (ws' : va_W) (H1 : Heap) (locs1 : List Loc), sH fm ad (sMcp M f0 j0 f1 j1 n.toNatClampNeg) cA ws' → va_P (dC, dI) vwCl ws' H1 → va_D A ws' → va_S A s.heap H1 locs1 → W p l e R s m args below meth c H1 locs1 nc ns Q (F0 m (pc + 3) ls rest)) : W p l e R s m args below meth c H locs nc ns Q (F0 m pc ls (.int n :: .int 0 :: .ref (ad f1 j1) :: .int 0 :: .ref (ad f0 j0) :: rest)) := by
  obtain ⟨wv0, hwv0, hse0⟩ := hH _ en0 hen0 j0 hj0
  obtain ⟨wv1, hwv1, hse1⟩ := hH _ en1 hen1 j1 hj1
  unfold sHe at hse0 hse1
  rw [ha0] at hse0
  rw [ha1] at hse1
  obtain ⟨g0, rfl, hf0⟩ := hse0.1 (by omega)
  obtain ⟨g1, rfl, hf1⟩ := hse1.1 (by omega)
  rw [z0] at hwv0
  rw [z1] at hwv1
  have hz : ∀ z : Int32, 0 ≤ z.toInt → ¬ z < 0 := fun z hz q => by
    have := Int32.lt_iff_toInt_lt.mp q
    have e0 : (0 : Int32).toInt = 0 := rfl
    omega
  have hnf : nativeFrameWords "java/lang/System" "arraycopy" 5 = 7 := by decide
  have ez : (0 : Int32).toNatClampNeg = 0 := rfl
  refine va_copyi hx hb hml hown (hts _ h1) (hts _ h2) (hts _ h3) (hts _ h4) hKv hP hD hS (spos en0 j0) (spos en1 j1) 0 0 (ty := .int) hwv0 hwv1 rfl rfl rfl (hz _ (by decide)) (hz _ (by decide)) (hz _ n0) (by rw [ez]; omega) (by rw [ez]; omega) (fun i _ => rfl) hRf (by rw [hnf]; omega) hdg (fun H1 locs1 p1 p2 p3 => ?_)
  have hM : ∀ f' j' i', ¬ (f' = f1 ∧ j' = j1) → sMcp M f0 j0 f1 j1 n.toNatClampNeg f' j' i' = M f' j' i' := fun f' j' i' q => if_neg (fun z => q ⟨z.1, z.2.1⟩)
  refine kk _ H1 locs1 (sH_setM hI hk hH hen1 hj1 hM ?_) p1 p2 p3
  have hlt : f1 < fm.length := (List.getElem?_eq_some_iff.mp hen1).1
  unfold sHe
  rw [ha1]
  refine ⟨fun _ => ⟨va_cpy g0 g1 (0 : Int32).toNatClampNeg (0 : Int32).toNatClampNeg n.toNatClampNeg, ?_, fun i => ?_⟩, fun q => by omega, fun q => by omega⟩
  · rw [z1, slen_congr (M := M) (M' := sMcp M f0 j0 f1 j1 n.toNatClampNeg) (j := j1) (fun hz => csmcp_f (by have := hk f1 en1 a1 hen1 ha1 hz; omega))]
  · unfold va_cpy sMcp
    rw [ez]
    by_cases hi : i < n.toNatClampNeg
    · rw [if_pos ⟨Nat.zero_le _, by omega⟩, if_pos ⟨rfl, rfl, hi⟩, show 0 + (i - 0) = i from by omega]
      exact hf0 i
    · rw [if_neg (fun q => hi (by omega)), if_neg (fun q => hi q.2.2)]
      exact hf1 i
end CCP
theorem smcp_s {M : SMem} {f0 j0 f1 j1 k : Nat} : sMcp M f0 j0 f1 j1 (k + 1) = supd (sMcp M f0 j0 f1 j1 k) f1 j1 k (M f0 j0 k) := by
  funext f j i
  unfold sMcp supd
  dsimp only
  by_cases h : f = f1 ∧ j = j1 ∧ i = k
  · rw [if_pos (by omega), if_pos h, h.2.2]
  · rw [if_neg h]
    by_cases h2 : f = f1 ∧ j = j1 ∧ i < k
    · rw [if_pos (by omega), if_pos h2]
    · rw [if_neg (by omega), if_neg h2]
section CXS
variable {p : Program} {l : Launch} {e : Env} {R : Room} {s : State} {m : MethodId} {args : Array Value} {below : List Frame} {meth : Method} {c : Code} {Q : State → Prop} {dC : Nat → ClassId} {dI : Nat → Nat → Nat} {cA : Nat → ClassId} {A : Nat → Prop} {nL : Nat} {fm : List SF} {scr : Nat} {ad : SAd} {nc ns : Nat} {E : Nat → List CA → SMem → (List Int → SMem → Prop) → Prop} {Qr : List Int → SMem → Prop} {C : Nat → List Int → SMem → Prop} {Sx : SMem → Prop} {cc : ByteArray} {own : String} {n pc : Nat} {lv : SL} {st : List SV} {L : List CN} {ret : CRt}
variable {EX : SEx} {zm : List ZMe} {zc : List (List ZI)} {d scrS : Nat} {me : ZMe}
theorem cr_iload {i k : Nat} (hrow : ∀ (x : Int32) (H : Heap) (locs : List Loc) (ls : Array Slot) (cst : List Value), ls[i]? = some (.val (.int x)) → W p l e R s m args below meth c H locs nc ns Q (F0 m (pc + k) ls (.int x :: cst)) → W p l e R s m args below meth c H locs nc ns Q (F0 m pc ls cst)) (h : cx_ld sti i k n pc lv st ret = some L) (Hk : ∀ (n pc : Nat) (lv : SL) (st : List SV) (L : List CN), ret n pc lv st = some L → cG p l e R s m args below meth c Q dC dI cA A nL fm scr ad nc ns E Qr C Sx n pc lv st L) : cG p l e R s m args below meth c Q dC dI cA A nL fm scr ad nc ns E Qr C Sx n pc lv st L := by
  refine cG_ld (f := sti) (fun v ρ ad cv H locs ls cst h1 h2 h3 h4 => ?_) h Hk
  obtain ⟨x, rfl, -⟩ := sv_int h1 h2
  exact hrow x H locs ls cst h3 h4
theorem cr_lload {i k : Nat} (hrow : ∀ (x : Int64) (H : Heap) (locs : List Loc) (ls : Array Slot) (cst : List Value), ls[i]? = some (.val (.long x)) → W p l e R s m args below meth c H locs nc ns Q (F0 m (pc + k) ls (.long x :: cst)) → W p l e R s m args below meth c H locs nc ns Q (F0 m pc ls cst)) (h : cx_ld stl i k n pc lv st ret = some L) (Hk : ∀ (n pc : Nat) (lv : SL) (st : List SV) (L : List CN), ret n pc lv st = some L → cG p l e R s m args below meth c Q dC dI cA A nL fm scr ad nc ns E Qr C Sx n pc lv st L) : cG p l e R s m args below meth c Q dC dI cA A nL fm scr ad nc ns E Qr C Sx n pc lv st L := by
  refine cG_ld (f := stl) (fun v ρ ad cv H locs ls cst h1 h2 h3 h4 => ?_) h Hk
  obtain ⟨x, rfl, -⟩ := sv_lng h1 h2
  exact hrow x H locs ls cst h3 h4
theorem cr_aload {i k : Nat} (hrow : ∀ (x : Nat) (H : Heap) (locs : List Loc) (ls : Array Slot) (cst : List Value), ls[i]? = some (.val (.ref x)) → W p l e R s m args below meth c H locs nc ns Q (F0 m (pc + k) ls (.ref x :: cst)) → W p l e R s m args below meth c H locs nc ns Q (F0 m pc ls cst)) (h : cx_ld str i k n pc lv st ret = some L) (Hk : ∀ (n pc : Nat) (lv : SL) (st : List SV) (L : List CN), ret n pc lv st = some L → cG p l e R s m args below meth c Q dC dI cA A nL fm scr ad nc ns E Qr C Sx n pc lv st L) : cG p l e R s m args below meth c Q dC dI cA A nL fm scr ad nc ns E Qr C Sx n pc lv st L := by
  refine cG_ld (f := str) (fun v ρ ad cv H locs ls cst h1 h2 h3 h4 => ?_) h Hk
  obtain ⟨x, rfl⟩ := sv_ref h1 h2
  exact hrow x H locs ls cst h3 h4
theorem cr_opI {o : Nat} {f : Int32 → Int32 → Int32} (hf : ∀ a b : Int32, cfn o a.toInt b.toInt = (f a b).toInt) (hrow : ∀ (a b : Int32) (H : Heap) (locs : List Loc) (ls : Array Slot) (cst : List Value), W p l e R s m args below meth c H locs nc ns Q (F0 m (pc + 1) ls (.int (f a b) :: cst)) → W p l e R s m args below meth c H locs nc ns Q (F0 m pc ls (.int b :: .int a :: cst))) (h : cx_op 0 0 0 o n pc lv st ret = some L) (Hk : ∀ (n pc : Nat) (lv : SL) (st : List SV) (L : List CN), ret n pc lv st = some L → cG p l e R s m args below meth c Q dC dI cA A nL fm scr ad nc ns E Qr C Sx n pc lv st L) : cG p l e R s m args below meth c Q dC dI cA A nL fm scr ad nc ns E Qr C Sx n pc lv st L := by
  refine cG_op (by decide) (by decide) (fun H locs ls cst a b x y ha hb2 => ?_) h Hk
  obtain ⟨a, rfl, rfl⟩ := sfit0 ha
  obtain ⟨b, rfl, rfl⟩ := sfit0 hb2
  exact ⟨_, by rw [hf]; exact sfitI (f a b), hrow a b H locs ls cst⟩
theorem cr_opL {o : Nat} {f : Int64 → Int64 → Int64} (hf : ∀ a b : Int64, cfn o a.toInt b.toInt = (f a b).toInt) (hrow : ∀ (a b : Int64) (H : Heap) (locs : List Loc) (ls : Array Slot) (cst : List Value), W p l e R s m args below meth c H locs nc ns Q (F0 m (pc + 1) ls (.long (f a b) :: cst)) → W p l e R s m args below meth c H locs nc ns Q (F0 m pc ls (.long b :: .long a :: cst))) (h : cx_op 1 1 1 o n pc lv st ret = some L) (Hk : ∀ (n pc : Nat) (lv : SL) (st : List SV) (L : List CN), ret n pc lv st = some L → cG p l e R s m args below meth c Q dC dI cA A nL fm scr ad nc ns E Qr C Sx n pc lv st L) : cG p l e R s m args below meth c Q dC dI cA A nL fm scr ad nc ns E Qr C Sx n pc lv st L := by
  refine cG_op (by decide) (by decide) (fun H locs ls cst a b x y ha hb2 => ?_) h Hk
  obtain ⟨a, rfl, rfl⟩ := sfit1 ha
  obtain ⟨b, rfl, rfl⟩ := sfit1 hb2
  exact ⟨_, by rw [hf]; exact sfitL (f a b), hrow a b H locs ls cst⟩
theorem cr_opS {o : Nat} {f : Int64 → Int32 → Int64} (hf : ∀ (a : Int64) (b : Int32), cfn o a.toInt b.toInt = (f a b).toInt) (hrow : ∀ (a : Int64) (b : Int32) (H : Heap) (locs : List Loc) (ls : Array Slot) (cst : List Value), W p l e R s m args below meth c H locs nc ns Q (F0 m (pc + 1) ls (.long (f a b) :: cst)) → W p l e R s m args below meth c H locs nc ns Q (F0 m pc ls (.int b :: .long a :: cst))) (h : cx_op 1 0 1 o n pc lv st ret = some L) (Hk : ∀ (n pc : Nat) (lv : SL) (st : List SV) (L : List CN), ret n pc lv st = some L → cG p l e R s m args below meth c Q dC dI cA A nL fm scr ad nc ns E Qr C Sx n pc lv st L) : cG p l e R s m args below meth c Q dC dI cA A nL fm scr ad nc ns E Qr C Sx n pc lv st L := by
  refine cG_op (by decide) (by decide) (fun H locs ls cst a b x y ha hb2 => ?_) h Hk
  obtain ⟨a, rfl, rfl⟩ := sfit1 ha
  obtain ⟨b, rfl, rfl⟩ := sfit0 hb2
  exact ⟨_, by rw [hf]; exact sfitL (f a b), hrow a b H locs ls cst⟩
theorem cr_opD {o : Nat} {f : Int32 → Int32 → Int32} (hf : ∀ a b : Int32, cfn o a.toInt b.toInt = (f a b).toInt) (hrow : ∀ (a b : Int32) (H : Heap) (locs : List Loc) (ls : Array Slot) (cst : List Value), ¬ b = 0 → W p l e R s m args below meth c H locs nc ns Q (F0 m (pc + 1) ls (.int (f a b) :: cst)) → W p l e R s m args below meth c H locs nc ns Q (F0 m pc ls (.int b :: .int a :: cst))) (h : cx_div o n pc lv st ret = some L) (Hk : ∀ (n pc : Nat) (lv : SL) (st : List SV) (L : List CN), ret n pc lv st = some L → cG p l e R s m args below meth c Q dC dI cA A nL fm scr ad nc ns E Qr C Sx n pc lv st L) : cG p l e R s m args below meth c Q dC dI cA A nL fm scr ad nc ns E Qr C Sx n pc lv st L := by
  match st, h with
  | [], h => cases h
  | [_], h => cases h
  | y :: x :: st', h =>
    obtain ⟨h0, h⟩ := ccond h
    rw [Bool.and_eq_true] at h0
    have hy : y.2.2.1 ≠ 0 := of_decide_eq_true h0.2
    obtain ⟨h1, h⟩ := ccond h
    rw [Bool.and_eq_true] at h1
    intro fd v M ws H locs ls clv cst hv hX hH hP hD hS hl q6 q7 hd
    obtain ⟨cy, cr, rfl, h5, h6⟩ := svs_cons q7
    obtain ⟨cx, cr, rfl, h7, h8⟩ := svs_cons h6
    obtain ⟨a, rfl, e1⟩ := sv_int h1.1 h7
    obtain ⟨b, rfl, e2⟩ := sv_int h1.2 h5
    have hb0 : ¬ b = 0 := fun q => by
      rw [q, sisc_ok h0.1] at e2
      exact hy e2.symm
    refine hrow a b H locs ls cr hb0 ?_
    have hn : ∃ n', fd = n' + 1 := by
      cases fd with
      | zero => exact hd.elim
      | succ k => exact ⟨k, rfl⟩
    obtain ⟨n', rfl⟩ := hn
    refine cG_bind (fd := n') (z := cfn o (cE2 v x) (cE2 v y)) h Hk hv hX hH hP hD hS hl q6 h8 (Or.inl ⟨rfl, _, rfl, ?_⟩) (fun L' e9 => by rw [e9] at hd; exact hd)
    rw [show cE2 v x = a.toInt from e1.symm, show cE2 v y = b.toInt from e2.symm]
    exact (hf a b).symm
theorem cG_imul (hx : p.tables.exec = Jvm.exec) (hb : c.code = cc) (hdg : decode cc pc = .ok (.imul, 1)) (h : cx_mul 0 0 4 n pc lv st ret = some L) (Hk : ∀ (n pc : Nat) (lv : SL) (st : List SV) (L : List CN), ret n pc lv st = some L → cG p l e R s m args below meth c Q dC dI cA A nL fm scr ad nc ns E Qr C Sx n pc lv st L) : cG p l e R s m args below meth c Q dC dI cA A nL fm scr ad nc ns E Qr C Sx n pc lv st L := by
  match st, h with
  | [], h => cases h
  | [_], h => cases h
  | y :: x :: st', h =>
    obtain ⟨h0, h⟩ := ccond h
    rw [Bool.and_eq_true] at h0
    intro fd v M ws H locs ls clv cst hv hX hH hP hD hS hl q6 q7 hd
    obtain ⟨cy, cr, rfl, h5, h6⟩ := svs_cons q7
    obtain ⟨cx, cr, rfl, h7, h8⟩ := svs_cons h6
    obtain ⟨a, rfl, e1⟩ := sv_int h0.1 h7
    obtain ⟨b, rfl, e2⟩ := sv_int h0.2 h5
    refine lv_imul hx hb hdg ?_
    cases hm : smulE x.2.2 y.2.2 with
    | some e =>
      rw [hm] at h
      simp only [sfe_eq] at h
      obtain ⟨L', h1, rfl⟩ := ccons_ok h
      obtain ⟨fd', rfl, hb9, hd⟩ := cden_s hd
      have hb9 : -2147483648 ≤ sev (cen v) e ∧ sev (cen v) e ≤ 2147483647 := hb9
      exact Hk _ _ _ _ _ h1 fd' v M ws H locs ls clv (.int (a * b) :: cr) hv hX hH hP hD hS hl q6 ⟨sv_mkI (simul hb9 (by rw [e1, e2]; exact smulE_ok hm (cen v))), h8⟩ hd
    | none =>
      rw [hm] at h
      simp only at h
      obtain ⟨-, h⟩ := ccond h
      have hn : ∃ n', fd = n' + 1 := by
        cases fd with
        | zero => exact hd.elim
        | succ k => exact ⟨k, rfl⟩
      obtain ⟨n', rfl⟩ := hn
      refine cG_bind (fd := n') (z := cfn 4 (cE2 v x) (cE2 v y)) h Hk hv hX hH hP hD hS hl q6 h8 (Or.inl ⟨rfl, _, rfl, ?_⟩) (fun L' e9 => by rw [e9] at hd; exact hd)
      rw [show cE2 v x = a.toInt from e1.symm, show cE2 v y = b.toInt from e2.symm]
      show _ = (Int32.ofInt a.toInt * Int32.ofInt b.toInt).toInt
      rw [cofi, cofi]
theorem cG_cpy (hI : sInj fm) (hk9 : sfmok fm) (hx : p.tables.exec = Jvm.exec) (hb : c.code = cc) (hml : c.maxLocals = nL) (hown : s.vm.findClass own = some m.cls) (hts : ∀ w ∈ zT, w.before args s = true) (hKv : va_K (dC, dI) vwCl (ztys cA) s) (hSx : ∀ (M : SMem) (f j i : Nat) (z : Int), f < fm.length → Sx M → Sx (supd M f j i z)) {idx : Nat} (hRf : 1 ≤ R.frames) (hRl : 40 ≤ R.locals) (h1 : Cond.methodLink own idx arraycopyName ∈ zT) (h2 : Cond.native arraycopyName ∈ zT) (h3 : Cond.static arraycopyName ∈ zT) (h4 : Cond.initialized "java/lang/System" ∈ zT) (hdg : decode cc pc = .ok (.invokestatic idx, 3)) (h : cx_cpy fm n pc lv st ret = some L) (Hk : ∀ (n pc : Nat) (lv : SL) (st : List SV) (L : List CN), ret n pc lv st = some L → cG p l e R s m args below meth c Q dC dI cA A nL fm scr ad nc ns E Qr C Sx n pc lv st L) : cG p l e R s m args below meth c Q dC dI cA A nL fm scr ad nc ns E Qr C Sx n pc lv st L := by
  match st, h with
  | [], h => cases h
  | [_], h => cases h
  | [_, _], h => cases h
  | [_, _, _], h => cases h
  | [_, _, _, _], h => cases h
  | k :: p1 :: y :: p0 :: x :: st', h =>
    obtain ⟨h0, h⟩ := ccond h
    simp only [Bool.and_eq_true] at h0
    obtain ⟨c0, c1, c2, c3, c4, c5, c6, c7⟩ := h0
    obtain ⟨en0, a0, hen0, ha0, h⟩ := crow_ok h
    obtain ⟨t0, h⟩ := ccond h
    rw [Bool.and_eq_true] at t0
    obtain ⟨en1, a1, hen1, ha1, h⟩ := crow_ok h
    obtain ⟨t1, h⟩ := ccond h
    rw [Bool.and_eq_true] at t1
    obtain ⟨L', hh, rfl⟩ := ccons_ok h
    intro fd v M ws H locs ls clv cst hv hX hH hP hD hS hl q6 q7 hd
    obtain ⟨ck, cr, rfl, u1, u2⟩ := svs_cons q7
    obtain ⟨cp1, cr, rfl, u3, u4⟩ := svs_cons u2
    obtain ⟨cy, cr, rfl, u5, u6⟩ := svs_cons u4
    obtain ⟨cp0, cr, rfl, u7, u8⟩ := svs_cons u6
    obtain ⟨cx, cr, rfl, u9, u10⟩ := svs_cons u8
    obtain ⟨kv, rfl, ek⟩ := sv_int c0 u1
    obtain ⟨p1v, rfl, ep1⟩ := sv_int c1 u3
    obtain ⟨p0v, rfl, ep0⟩ := sv_int c4 u7
    rw [sbeq_ok c2] at ep1
    rw [sbeq_ok c5] at ep0
    have z1 : p1v = 0 := Int32.toInt_inj.mp (by rw [ep1]; rfl)
    have z0 : p0v = 0 := Int32.toInt_inj.mp (by rw [ep0]; rfl)
    subst z1 z0
    have hy2 : y.1 = 2 := Nat.beq_eq.mp c3
    have hx2 : x.1 = 2 := Nat.beq_eq.mp c6
    obtain ⟨fd', rfl, j0, j1, nn, w1, w2, w3, w4, w5, hd⟩ := cden_s hd
    have hs8 : (cr.map fun v => v.category).sum ≤ 8 := by
      rw [svs_sum u10]
      exact Nat.le_of_ble_eq_true c7
    rcases u5 with ⟨q, -⟩ | ⟨q, -⟩ | ⟨-, jy, eny, hjy, heny, hjyn, rfl⟩ | ⟨q, -⟩
    · omega
    · omega
    · rcases u9 with ⟨q, -⟩ | ⟨q, -⟩ | ⟨-, jx, enx, hjx, henx, hjxn, rfl⟩ | ⟨q, -⟩
      · omega
      · omega
      · cases hen0.symm.trans henx
        cases hen1.symm.trans heny
        have e0 : jx = j0 := by
          have w1 : (j0 : Int) = sev (cen v) x.2.2 := w1
          omega
        have e1 : jy = j1 := by
          have w2 : (j1 : Int) = sev (cen v) y.2.2 := w2
          omega
        subst e0 e1
        have w3 : (nn : Int) = sev (cen v) k.2.2 := w3
        have en : kv.toNatClampNeg = nn := by
          have : kv.toInt = (nn : Int) := by rw [ek, w3]
          show kv.toInt.toNat = nn
          omega
        have l0 : slen M jx a0 = a0.2.2.1 := by unfold slen; rw [t0.2, cond_true]
        have l1 : slen M jy a1 = a1.2.2.1 := by unfold slen; rw [t1.2, cond_true]
        refine ccpyW hI hk9 hx hb (hml.trans hl.1.symm) hown hts hKv h1 h2 h3 h4 hH hP hD hS hen0 ha0 hen1 ha1 (Nat.beq_eq.mp t0.1) (Nat.beq_eq.mp t1.1) hjxn hjyn (by rw [ek, ← w3]; omega) (by rw [en, l0]; exact w4) (by rw [en, l1]; exact w5) hs8 hRf hRl hdg (fun ws' H1 locs1 g1 g2 g3 g4 => ?_)
        rw [en] at g1
        have hSx2 : ∀ k, Sx (sMcp M x.2.1 jx y.2.1 jy k) := by
          intro k
          induction k with
          | zero =>
            have e9 : sMcp M x.2.1 jx y.2.1 jy 0 = M := by
              funext f j i
              exact if_neg (fun q => by omega)
            rw [e9]
            exact hX
          | succ k ih => rw [smcp_s]; exact hSx _ _ _ _ _ (List.getElem?_eq_some_iff.mp hen1).1 ih
        exact Hk _ _ _ _ _ hh fd' v _ ws' H1 locs1 ls clv cr hv (hSx2 nn) g1 g2 g3 g4 hl q6 u10 hd
      · omega
    · omega
set_option maxHeartbeats 4000000 in
theorem cxi_sound {len : Nat} {k : Nat} {ins : Instr} {lk : List Nat} (hEX : sEXok EX) (hI : sInj fm) (hk9 : sfmok fm) (hcl : ∀ (ci : Nat) (C : String) (T : u_T) (N : Nat), vwCl[ci]? = some (C, T, N) → (∀ w ∈ u_ws C T N, w ∈ zT) ∧ ∃ ty0 : Nat → FieldType, (∀ k, k < N → parseFieldDescriptor (T k).2.2.1 = some (ty0 k)) ∧ ∀ a, a < N → ∀ b, b < N → a ≠ b → (T a).2.1 ≠ (T b).2.1) (hSx : ∀ (M : SMem) (f j i : Nat) (z : Int), f < fm.length → Sx M → Sx (supd M f j i z)) (hSxE : ∀ kc as M post, E kc as M post → Sx M → ∀ rr M', post rr M' → Sx M') (hE : ∀ kc as M post, E kc as M post → cBG zm fm EX l dC dI cA ad scrS d kc as M post) (F : sF (d + 1) me EX p R s m args c dC dI cA A) (hnL : nL = me.2.2.2.1) (hnc : nc ≤ R.cells) (hns : ns ≤ R.slots)
    (hscr : k = 0 → ∃ (Ln : Nat) (xv : Nat → Int32), va_X scr Ln xv s s.heap ∧ scr < s.heap.size ∧ ¬ A scr ∧ ∀ M, Sx M → M 108 0 0 = (Ln : Int) ∧ ∀ j, j < Ln → M 107 0 j = (xv j).toInt)
    (hdg : decode me.2.2.1 pc = .ok (ins, len)) (hlen : szlok ins len = true) (hlk : slk0 me.1 ins lk = true) (hlc : slkc zm me.1 ins lk = true) (h : cxi zm fm (Nat.beq k 0) nL ins lk n pc lv st ret = some L) (Hk : ∀ (n pc : Nat) (lv : SL) (st : List SV) (L : List CN), ret n pc lv st = some L → cG p l e R s m args below meth c Q dC dI cA A nL fm scr ad nc ns E Qr C Sx n pc lv st L) : cG p l e R s m args below meth c Q dC dI cA A nL fm scr ad nc ns E Qr C Sx n pc lv st L := by
  have F' := F
  obtain ⟨hx, hb, hml, hown, hts, hKv, hA, hRd, hRb, hE9⟩ := F
  have hml : c.maxLocals = nL := hml.trans hnL.symm
  cases ins with
  | iconst n =>
    cases Nat.beq_eq.mp (show Nat.beq len 1 = true from hlen)
    simp only [cxi, sfi_eq] at h
    exact cG_push (x := (0, 0, sc _)) (fun _ _ => sv_mkI (by rw [sev_c])) (fun H locs ls cst w => lv_iconst hx hb hdg rfl w) h Hk
  | bipush n =>
    cases Nat.beq_eq.mp (show Nat.beq len 2 = true from hlen)
    simp only [cxi, sfi_eq] at h
    exact cG_push (x := (0, 0, sc _)) (fun _ _ => sv_mkI (by rw [sev_c])) (fun H locs ls cst w => lv_bipush hx hb hdg rfl w) h Hk
  | sipush n =>
    cases Nat.beq_eq.mp (show Nat.beq len 3 = true from hlen)
    simp only [cxi, sfi_eq] at h
    exact cG_push (x := (0, 0, sc _)) (fun _ _ => sv_mkI (by rw [sev_c])) (fun H locs ls cst w => lv_sipush hx hb hdg rfl w) h Hk
  | lconst n =>
    cases Nat.beq_eq.mp (show Nat.beq len 1 = true from hlen)
    simp only [cxi, sfi_eq] at h
    exact cG_push (x := (1, 0, sc _)) (fun _ _ => sv_mkL (by rw [sev_c])) (fun H locs ls cst w => lv_lconst hx hb hdg rfl w) h Hk
  | ldc_w idx =>
    cases Nat.beq_eq.mp (show Nat.beq len 3 = true from hlen)
    match lk, hlk, h with
    | [v, i], hlk, h =>
      simp only [cxi, sfi_eq] at h
      exact cG_push (x := (0, 0, sc _)) (fun _ _ => sv_mkI (by rw [sev_c])) (fun H locs ls cst w => lv_ldcw hx hb hown (hts _ (zin_ok hlk)) hdg w) h Hk
    | [], hlk, h => cases hlk
    | [_], hlk, h => cases hlk
    | _ :: _ :: _ :: _, hlk, h => cases hlk
  | ldc2_w idx =>
    cases Nat.beq_eq.mp (show Nat.beq len 3 = true from hlen)
    match lk, hlk, h with
    | [v, i], hlk, h =>
      simp only [cxi, sfi_eq] at h
      exact cG_push (x := (1, 0, sc _)) (fun _ _ => sv_mkL (by rw [sev_c])) (fun H locs ls cst w => lv_ldc2 hx hb hown (hts _ (zin_ok hlk)) hdg w) h Hk
    | [], hlk, h => cases hlk
    | [_], hlk, h => cases hlk
    | _ :: _ :: _ :: _, hlk, h => cases hlk
  | iload_n i =>
    cases Nat.beq_eq.mp (show Nat.beq len 1 = true from hlen)
    exact cr_iload (fun x H locs ls cst h1 w => lv_iload_n hx hb hdg rfl h1 w) h Hk
  | iload i =>
    cases Nat.beq_eq.mp (show Nat.beq len 2 = true from hlen)
    exact cr_iload (fun x H locs ls cst h1 w => lv_iload hx hb hdg h1 w) h Hk
  | aload_n i =>
    cases Nat.beq_eq.mp (show Nat.beq len 1 = true from hlen)
    exact cr_aload (fun x H locs ls cst h1 w => lv_aload_n hx hb hdg rfl h1 w) h Hk
  | aload i =>
    cases Nat.beq_eq.mp (show Nat.beq len 2 = true from hlen)
    exact cr_aload (fun x H locs ls cst h1 w => lv_aload hx hb hdg h1 w) h Hk
  | lload_n i =>
    cases Nat.beq_eq.mp (show Nat.beq len 1 = true from hlen)
    exact cr_lload (fun x H locs ls cst h1 w => lv_lload_n hx hb hdg rfl h1 w) h Hk
  | lload i =>
    cases Nat.beq_eq.mp (show Nat.beq len 2 = true from hlen)
    exact cr_lload (fun x H locs ls cst h1 w => lv_lload hx hb hdg h1 w) h Hk
  | istore_n i =>
    cases Nat.beq_eq.mp (show Nat.beq len 1 = true from hlen)
    refine cG_st (f := sti) (fun v ρ ad cv H locs ls cst clv h1 h2 h3 h4 kk => ?_) h Hk
    obtain ⟨x, rfl, -⟩ := sv_int h1 h2
    exact lv_istore_n hx hb hdg rfl h3 h4 rfl kk
  | istore i =>
    cases Nat.beq_eq.mp (show Nat.beq len 2 = true from hlen)
    refine cG_st (f := sti) (fun v ρ ad cv H locs ls cst clv h1 h2 h3 h4 kk => ?_) h Hk
    obtain ⟨x, rfl, -⟩ := sv_int h1 h2
    exact lv_istore hx hb hdg h3 h4 rfl kk
  | astore_n i =>
    cases Nat.beq_eq.mp (show Nat.beq len 1 = true from hlen)
    refine cG_st (f := str) (fun v ρ ad cv H locs ls cst clv h1 h2 h3 h4 kk => ?_) h Hk
    obtain ⟨x, rfl⟩ := sv_ref h1 h2
    exact lv_astore_n hx hb hdg rfl h3 h4 rfl kk
  | astore i =>
    cases Nat.beq_eq.mp (show Nat.beq len 2 = true from hlen)
    refine cG_st (f := str) (fun v ρ ad cv H locs ls cst clv h1 h2 h3 h4 kk => ?_) h Hk
    obtain ⟨x, rfl⟩ := sv_ref h1 h2
    exact lv_astore hx hb hdg h3 h4 rfl kk
  | iinc i n =>
    cases Nat.beq_eq.mp (show Nat.beq len 3 = true from hlen)
    exact cG_iinc hx hb hdg h Hk
  | iadd =>
    cases Nat.beq_eq.mp (show Nat.beq len 1 = true from hlen)
    refine cG_lin (by decide) (fun H locs ls cst a b ρ x y ha hb2 hr => ?_) h Hk
    obtain ⟨a, rfl, e1⟩ := sfit0 ha
    obtain ⟨b, rfl, e2⟩ := sfit0 hb2
    exact ⟨_, Or.inl ⟨rfl, a + b, rfl, siadd hr (by rw [sadd_ev, e1, e2])⟩, lv_iadd hx hb hdg⟩
  | isub =>
    cases Nat.beq_eq.mp (show Nat.beq len 1 = true from hlen)
    refine cG_lin (by decide) (fun H locs ls cst a b ρ x y ha hb2 hr => ?_) h Hk
    obtain ⟨a, rfl, e1⟩ := sfit0 ha
    obtain ⟨b, rfl, e2⟩ := sfit0 hb2
    exact ⟨_, Or.inl ⟨rfl, a - b, rfl, sisub hr (by rw [ssub_ev, e1, e2])⟩, lv_isub hx hb hdg⟩
  | imul =>
    cases Nat.beq_eq.mp (show Nat.beq len 1 = true from hlen)
    exact cG_imul hx hb hdg h Hk
  | ladd =>
    cases Nat.beq_eq.mp (show Nat.beq len 1 = true from hlen)
    refine cG_lin (by decide) (fun H locs ls cst a b ρ x y ha hb2 hr => ?_) h Hk
    obtain ⟨a, rfl, e1⟩ := sfit1 ha
    obtain ⟨b, rfl, e2⟩ := sfit1 hb2
    exact ⟨_, Or.inr ⟨rfl, a + b, rfl, sladd hr (by rw [sadd_ev, e1, e2])⟩, lv_ladd hx hb hdg⟩
  | lsub =>
    cases Nat.beq_eq.mp (show Nat.beq len 1 = true from hlen)
    refine cG_lin (by decide) (fun H locs ls cst a b ρ x y ha hb2 hr => ?_) h Hk
    obtain ⟨a, rfl, e1⟩ := sfit1 ha
    obtain ⟨b, rfl, e2⟩ := sfit1 hb2
    exact ⟨_, Or.inr ⟨rfl, a - b, rfl, slsub hr (by rw [ssub_ev, e1, e2])⟩, lv_lsub hx hb hdg⟩
  | iand =>
    cases Nat.beq_eq.mp (show Nat.beq len 1 = true from hlen)
    exact cr_opI (f := fun a b => a &&& b) (fun a b => by show (Int32.ofInt a.toInt &&& Int32.ofInt b.toInt).toInt = _; rw [cofi, cofi]) (fun a b H locs ls cst w => lv_iand hx hb hdg w) h Hk
  | ior =>
    cases Nat.beq_eq.mp (show Nat.beq len 1 = true from hlen)
    exact cr_opI (f := fun a b => a ||| b) (fun a b => by show (Int32.ofInt a.toInt ||| Int32.ofInt b.toInt).toInt = _; rw [cofi, cofi]) (fun a b H locs ls cst w => lv_ior hx hb hdg w) h Hk
  | ishl =>
    cases Nat.beq_eq.mp (show Nat.beq len 1 = true from hlen)
    exact cr_opI (f := fun a b => a <<< (b &&& 31)) (fun a b => by show (Int32.ofInt a.toInt <<< (Int32.ofInt b.toInt &&& 31)).toInt = _; rw [cofi, cofi]) (fun a b H locs ls cst w => lv_ishl hx hb hdg w) h Hk
  | ishr =>
    cases Nat.beq_eq.mp (show Nat.beq len 1 = true from hlen)
    exact cr_opI (f := fun a b => a >>> (b &&& 31)) (fun a b => by show (Int32.ofInt a.toInt >>> (Int32.ofInt b.toInt &&& 31)).toInt = _; rw [cofi, cofi]) (fun a b H locs ls cst w => lv_ishr hx hb hdg w) h Hk
  | idiv =>
    cases Nat.beq_eq.mp (show Nat.beq len 1 = true from hlen)
    exact cr_opD (f := fun a b => a / b) (fun a b => by show (Int32.ofInt a.toInt / Int32.ofInt b.toInt).toInt = _; rw [cofi, cofi]) (fun a b H locs ls cst hne w => lv_idiv hx hb hdg hne w) h Hk
  | irem =>
    cases Nat.beq_eq.mp (show Nat.beq len 1 = true from hlen)
    exact cr_opD (f := fun a b => a - a / b * b) (fun a b => by show (Int32.ofInt a.toInt - Int32.ofInt a.toInt / Int32.ofInt b.toInt * Int32.ofInt b.toInt).toInt = _; rw [cofi, cofi]) (fun a b H locs ls cst hne w => lv_irem hx hb hdg hne w) h Hk
  | land =>
    cases Nat.beq_eq.mp (show Nat.beq len 1 = true from hlen)
    exact cr_opL (f := fun a b => a &&& b) (fun a b => by show (Int64.ofInt a.toInt &&& Int64.ofInt b.toInt).toInt = _; rw [cofl, cofl]) (fun a b H locs ls cst w => lv_land hx hb hdg w) h Hk
  | lor =>
    cases Nat.beq_eq.mp (show Nat.beq len 1 = true from hlen)
    exact cr_opL (f := fun a b => a ||| b) (fun a b => by show (Int64.ofInt a.toInt ||| Int64.ofInt b.toInt).toInt = _; rw [cofl, cofl]) (fun a b H locs ls cst w => lv_lor hx hb hdg w) h Hk
  | lshl =>
    cases Nat.beq_eq.mp (show Nat.beq len 1 = true from hlen)
    exact cr_opS (f := fun a b => a <<< (b.toInt64 &&& 63)) (fun a b => by show (Int64.ofInt a.toInt <<< ((Int32.ofInt b.toInt).toInt64 &&& 63)).toInt = _; rw [cofl, cofi]) (fun a b H locs ls cst w => lv_lshl hx hb hdg rfl w) h Hk
  | lshr =>
    cases Nat.beq_eq.mp (show Nat.beq len 1 = true from hlen)
    exact cr_opS (f := fun a b => a >>> (b.toInt64 &&& 63)) (fun a b => by show (Int64.ofInt a.toInt >>> ((Int32.ofInt b.toInt).toInt64 &&& 63)).toInt = _; rw [cofl, cofi]) (fun a b H locs ls cst w => lv_lshr hx hb hdg rfl w) h Hk
  | lushr =>
    cases Nat.beq_eq.mp (show Nat.beq len 1 = true from hlen)
    exact cr_opS (f := fun a b => (a.toUInt64 >>> (b.toInt64.toUInt64 &&& Int64.toUInt64 63)).toInt64) (fun a b => by show ((Int64.ofInt a.toInt).toUInt64 >>> ((Int32.ofInt b.toInt).toInt64.toUInt64 &&& Int64.toUInt64 63)).toInt64.toInt = _; rw [cofl, cofi]) (fun a b H locs ls cst w => lv_lushr hx hb hdg rfl w) h Hk
  | i2l =>
    cases Nat.beq_eq.mp (show Nat.beq len 1 = true from hlen)
    exact cG_i2l hx hb hdg h Hk
  | l2i =>
    cases Nat.beq_eq.mp (show Nat.beq len 1 = true from hlen)
    exact cG_l2i hx hb hdg h Hk
  | i2c =>
    cases Nat.beq_eq.mp (show Nat.beq len 1 = true from hlen)
    exact cG_i2c hx hb hdg h Hk
  | lcmp =>
    cases Nat.beq_eq.mp (show Nat.beq len 1 = true from hlen)
    exact cG_lcmp hx hb hdg h Hk
  | if_icmp op off =>
    cases Nat.beq_eq.mp (show Nat.beq len 3 = true from hlen)
    exact cG_icmp hx hb hdg h Hk
  | ifCond op off =>
    cases Nat.beq_eq.mp (show Nat.beq len 3 = true from hlen)
    exact cG_if hx hb hdg h Hk
  | goto off =>
    cases Nat.beq_eq.mp (show Nat.beq len 3 = true from hlen)
    exact cG_goto hx hb hdg h Hk
  | tableswitch dflt lo hi offs => exact cG_tsw hx hb hdg h Hk
  | dup =>
    cases Nat.beq_eq.mp (show Nat.beq len 1 = true from hlen)
    exact cG_dup hx hb hdg h Hk
  | dup2 =>
    cases Nat.beq_eq.mp (show Nat.beq len 1 = true from hlen)
    exact cG_dup2 hx hb hdg h Hk
  | pop =>
    cases Nat.beq_eq.mp (show Nat.beq len 1 = true from hlen)
    exact cG_pop hx hb hdg h Hk
  | getfield idx =>
    cases Nat.beq_eq.mp (show Nat.beq len 3 = true from hlen)
    match lk, hlk, h with
    | [ci, f, i], hlk, h =>
      simp only [slk0] at hlk
      obtain ⟨CC, T, N, h1, h2, h3⟩ := zfl1_ok hlk
      exact cG_getf hx hb hown hts hKv (hcl ci CC T N h1).1 h1 h2 (zin_ok h3) hdg h Hk
    | [], hlk, h => cases hlk
    | [_], hlk, h => cases hlk
    | [_, _], hlk, h => cases hlk
    | _ :: _ :: _ :: _ :: _, hlk, h => cases hlk
  | putfield idx =>
    cases Nat.beq_eq.mp (show Nat.beq len 3 = true from hlen)
    match lk, hlk, h with
    | [ci, f, kd, i], hlk, h =>
      simp only [slk0] at hlk
      obtain ⟨CC, T, N, h1, h2, h3⟩ := zfl1_ok hlk
      rw [Bool.and_eq_true, Bool.and_eq_true] at h3
      obtain ⟨h4, h5, h6⟩ := h3
      obtain ⟨ty, h7, h8⟩ := zpf_ok h5
      obtain ⟨q1, ty0, q2, q3⟩ := hcl ci CC T N h1
      exact cG_putf hx hb hown hts hKv hI hk9 hSx q1 q2 q3 h1 h2 (zin_ok h4) (of_decide_eq_true h6) h7 h8 hdg h Hk
    | [], hlk, h => cases hlk
    | [_], hlk, h => cases hlk
    | [_, _], hlk, h => cases hlk
    | [_, _, _], hlk, h => cases hlk
    | _ :: _ :: _ :: _ :: _ :: _, hlk, h => cases hlk
  | iaload =>
    cases Nat.beq_eq.mp (show Nat.beq len 1 = true from hlen)
    cases hl : Nat.beq k 0 with
    | true =>
      simp only [cxi, hl, cond_true] at h
      obtain ⟨Ln, xv, z1, z2, z3, z4⟩ := hscr (Nat.beq_eq.mp hl)
      exact cG_sld hx hb z1 z2 z3 z4 hdg h Hk
    | false =>
      simp only [cxi, hl, cond_false] at h
      exact cG_iald hx hb hKv hdg h Hk
  | arraylength =>
    cases Nat.beq_eq.mp (show Nat.beq len 1 = true from hlen)
    cases hl : Nat.beq k 0 with
    | true => simp only [cxi, hl, cond_true] at h; cases h
    | false =>
      simp only [cxi, hl, cond_false] at h
      exact cG_len hx hb hKv hdg h Hk
  | baload =>
    cases Nat.beq_eq.mp (show Nat.beq len 1 = true from hlen)
    exact cG_zald hx hb hKv hdg h Hk
  | caload =>
    cases Nat.beq_eq.mp (show Nat.beq len 1 = true from hlen)
    exact cG_cald hx hb hKv hdg h Hk
  | laload =>
    cases Nat.beq_eq.mp (show Nat.beq len 1 = true from hlen)
    exact cG_lald hx hb hKv hdg h Hk
  | aaload =>
    cases Nat.beq_eq.mp (show Nat.beq len 1 = true from hlen)
    exact cG_aald hx hb hKv hdg h Hk
  | iastore =>
    cases Nat.beq_eq.mp (show Nat.beq len 1 = true from hlen)
    exact cG_iast hx hb hKv hI hk9 hSx hdg h Hk
  | bastore =>
    cases Nat.beq_eq.mp (show Nat.beq len 1 = true from hlen)
    exact cG_zast hx hb hKv hI hk9 hSx hdg h Hk
  | castore =>
    cases Nat.beq_eq.mp (show Nat.beq len 1 = true from hlen)
    exact cG_cast hx hb hKv hI hk9 hSx hdg h Hk
  | lastore =>
    cases Nat.beq_eq.mp (show Nat.beq len 1 = true from hlen)
    exact cG_last hx hb hKv hI hk9 hSx hdg h Hk
  | invokestatic idx =>
    cases Nat.beq_eq.mp (show Nat.beq len 3 = true from hlen)
    match lk, hlc, h with
    | kd :: kc :: k9 :: ci :: is, hlc, h =>
      simp only [slkc] at hlc
      simp only [cxi, cx_inv, sn_eq] at h
      cases c7 : Nat.beq kd 7 with
      | true =>
        rw [c7, cond_true] at h
        have e7 := Nat.beq_eq.mp c7
        subst e7
        have h9 := zchk_ok (show zchk [.methodLink me.1 idx arraycopyName, .native arraycopyName, .static arraycopyName, .initialized "java/lang/System"] is = true from hlc)
        exact cG_cpy hI hk9 hx hb hml hown hts hKv hSx (by omega) (by omega) (h9 _ (by simp)) (h9 _ (by simp)) (h9 _ (by simp)) (h9 _ (by simp)) hdg h Hk
      | false =>
      rw [c7, cond_false] at h
      cases c8 : Nat.beq kd 8 with
      | true =>
        rw [c8, cond_true] at h
        have e8 := Nat.beq_eq.mp c8
        subst e8
        have h9 := zchk_ok (show zchk [.methodLink me.1 idx Lib.Math.max.name, .static Lib.Math.max.name, .initialized "java/lang/Math", .code Lib.Math.max.name Lib.Math.max.code 2 (some .int)] is = true from hlc)
        exact cG_max hx hb hml hown hts hnc hns (by omega) (by omega) (h9 _ (by simp)) (h9 _ (by simp)) (h9 _ (by simp)) (h9 _ (by simp)) hdg h Hk
      | false =>
        rw [c8, cond_false] at h
        cases c10 : Nat.beq kd 10 with
        | true =>
          rw [c10, cond_true] at h
          have e8 := Nat.beq_eq.mp c10
          subst e8
          have h9 := zchk_ok (show zchk [.methodLink me.1 idx Lib.Math.min.name, .static Lib.Math.min.name, .initialized "java/lang/Math", .code Lib.Math.min.name Lib.Math.min.code 2 (some .int)] is = true from hlc)
          exact cG_min hx hb hml hown hts hnc hns (by omega) (by omega) (h9 _ (by simp)) (h9 _ (by simp)) (h9 _ (by simp)) (h9 _ (by simp)) hdg h Hk
        | false =>
          rw [c10, cond_false] at h
          obtain ⟨c2, h⟩ := ccond h
          have c2 := Nat.le_of_ble_eq_true c2
          have c7 : Nat.beq kd 7 = false := by
            cases hq : Nat.beq kd 7 with
            | true => have := Nat.beq_eq.mp hq; omega
            | false => rfl
          have c11 : Nat.beq kd 11 = false := by
            cases hq : Nat.beq kd 11 with
            | true => have := Nat.beq_eq.mp hq; omega
            | false => rfl
          rw [c7, c8, c10, c11] at hlc
          simp only [cond_false, Bool.and_eq_true, Bool.or_eq_true] at hlc
          exact cG_call hEX F' hnL hlc.2 rfl (Or.inl ⟨hlc.1.imp Nat.beq_eq.mp Nat.beq_eq.mp, rfl⟩) hdg hnc hns hE hSxE h Hk
    | [], hlc, h => cases hlc
    | [_], hlc, h => cases hlc
    | [_, _], hlc, h => cases hlc
    | [_, _, _], hlc, h => cases hlc
  | invokevirtual idx =>
    cases Nat.beq_eq.mp (show Nat.beq len 3 = true from hlen)
    match lk, hlc, h with
    | kd :: kc :: k9 :: ci :: is, hlc, h =>
      simp only [slkc] at hlc
      simp only [cxi, cx_inv, sn_eq] at h
      cases c9 : Nat.beq kd 9 with
      | true =>
        have e9 := Nat.beq_eq.mp c9
        subst e9
        cases h
      | false =>
        rw [c9, cond_false, Bool.and_eq_true] at hlc
        have e2 := Nat.beq_eq.mp hlc.1
        subst e2
        exact cG_call hEX F' hnL hlc.2 rfl (Or.inr ⟨rfl, rfl⟩) hdg hnc hns hE hSxE h Hk
    | [], hlc, h => cases hlc
    | [_], hlc, h => cases hlc
    | [_, _], hlc, h => cases hlc
    | [_, _, _], hlc, h => cases hlc
  | _ => cases h
end CXS
