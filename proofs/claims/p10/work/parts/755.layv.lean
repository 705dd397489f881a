/-! the class's layer, which may throw, and the law's own, which catches, with what they answer -/
def lyC (M : SMem) (a b w : Int) : Prop := (0 ≤ a ∧ a < 12 ∧ M 64 a.toNat 0 ≠ 0 ∧ 0 ≤ b ∧ b < M 64 a.toNat 5) ∧ (0 ≤ w ∧ w < 3)
def lyV (M : SMem) (a b w : Int) : Int := if w = 0 then M 91 a.toNat b.toNat else if w = 1 then M 92 a.toNat b.toNat else M 93 a.toNat b.toNat
def lyP (M : SMem) (a b w r : Int) (M' : SMem) : Prop := (r = 0 ∧ lyC M a b w ∧ M' 2 0 0 = lyV M a b w) ∨ (r = 1 ∧ ¬ lyC M a b w)
noncomputable def lchk (cu : List (Nat × SL)) (k f n pc : Nat) (lv : SL) (st : List SV) (L : List CN) : Bool := match cgo tlm tlc tf cu k f n pc lv st with
  | some L' => clq cnbeq L' L
  | none => false
theorem lchk_ok {cu : List (Nat × SL)} {k f n pc : Nat} {lv : SL} {st : List SV} {L : List CN} (h : lchk cu k f n pc lv st L = true) : cgo tlm tlc tf cu k f n pc lv st = some L := by
  unfold lchk at h
  cases hc : cgo tlm tlc tf cu k f n pc lv st with
  | none => rw [hc] at h; cases h
  | some L' =>
    rw [hc] at h
    exact congrArg some (clq_ok cnbeq_ok h)
theorem cBG_swap {zm zm2 : List ZMe} {fm : List SF} {EX : SEx} {l : Launch} {dC : Nat → ClassId} {dI : Nat → Nat → Nat} {cA : Nat → ClassId} {ad : SAd} {scrS d kc k2 : Nat} {as : List CA} {M : SMem} {post : List Int → SMem → Prop} (e : zm2[k2]? = zm[kc]?) (h : cBG zm fm EX l dC dI cA ad scrS d kc as M post) : cBG zm2 fm EX l dC dI cA ad scrS d k2 as M post := fun me hme ws cas h1 h2 => h me (e.symm.trans hme) ws cas h1 h2
abbrev lyL0 : List CN := [(8, 2, 1, [(2, 0, (0, [])), (0, 0, (0, [(0, 1)])), (0, 0, (0, [(1, 1)]))]), (4, 0, 1, [(0, 0, (0, [(3, 1)]))]), (9, 17, 0, [(0, 0, (0, [(0, 1)])), (0, 0, (0, [(1, 1)])), (0, 0, (0, [(2, 1)]))]), (8, 4, 1, [(0, 0, (0, [(2, 1)])), (0, 0, (3, []))]), (4, 1, 9, [(0, 0, (0, [(4, 1)]))]), (7, 12, 0, [(0, 0, (0, [(0, 1)]))]), (4, 1, 5, [(0, 0, (0, [(2, 1)]))]), (4, 1, 2, [(0, 0, (-1, [(2, 1)]))]), (2, 93, 6, [(2, 93, (0, [(0, 1)])), (0, 0, (0, [(1, 1)]))]), (10, 0, 0, [(0, 0, (0, [(5, 1)]))]), (2, 92, 6, [(2, 92, (0, [(0, 1)])), (0, 0, (0, [(1, 1)]))]), (10, 0, 0, [(0, 0, (0, [(5, 1)]))]), (2, 91, 6, [(2, 91, (0, [(0, 1)])), (0, 0, (0, [(1, 1)]))]), (10, 0, 0, [(0, 0, (0, [(5, 1)]))]), (9, 17, 0, [(0, 0, (0, [(0, 1)])), (0, 0, (0, [(1, 1)])), (0, 0, (0, [(2, 1)]))])]
abbrev lyL5 : List CN := [(3, 2, 1, [(2, 2, (0, [])), (0, 0, (0, [])), (1, 0, (0, [(0, 1)]))]), (10, 0, 0, [(0, 0, (0, []))])]
theorem lyK0 : lchk [(17, tll)] 1 400 3 0 tll [] lyL0 = true := by decide +kernel
theorem lyK5 : lchk [] 5 400 1 10 [] [(0, 0, (0, [(0, 1)])), (0, 0, (0, [])), (2, 2, (0, []))] lyL5 = true := by decide +kernel
section SLV
variable {l : Launch} {dC : Nat → ClassId} {dI : Nat → Nat → Nat} {cA : Nat → ClassId} {aK aV sa : Nat} {tx : String}
theorem lyHp (l : Launch) (dC : Nat → ClassId) (dI : Nat → Nat → Nat) (cA : Nat → ClassId) : cPl tlm tlc tf (zEX aK aV sa tx) := ⟨(zCtx0 (l := l) (dC := dC) (dI := dI) (cA := cA) (aK := aK) (aV := aV) (sa := sa) (tx := tx)).1, tInj, tfmok, (zCtx0 (l := l) (dC := dC) (dI := dI) (cA := cA) (aK := aK) (aV := aV) (sa := sa) (tx := tx)).2.2.2.2.2.1, tltab⟩
theorem lyHq (l : Launch) (dC : Nat → ClassId) (dI : Nat → Nat → Nat) (cA : Nat → ClassId) : cPl tm tc tf (zEX aK aV sa tx) := ⟨(zCtx0 (l := l) (dC := dC) (dI := dI) (cA := cA) (aK := aK) (aV := aV) (sa := sa) (tx := tx)).1, tInj, tfmok, (zCtx0 (l := l) (dC := dC) (dI := dI) (cA := cA) (aK := aK) (aV := aV) (sa := sa) (tx := tx)).2.2.2.2.2.1, ttab⟩
/-- what the class's layer does, from its list -/
theorem lyD0 (hq : cPl tm tc tf (zEX aK aV sa tx)) {M : SMem} {ad : SAd} {i1 i2 i3 : Int} (hI : sI tg M) (hb : -2147483648 ≤ i3 ∧ i3 ≤ 2147483647) : cden (cBG tlm tf (zEX aK aV sa tx) l dC dI cA ad aK 5) (fun rr M1 => M1 = M ∧ lyC M i1 i2 i3 ∧ rr = [lyV M i1 i2 i3]) (fun pc v M1 => pc = 17 ∧ M1 = M ∧ ¬ lyC M i1 i2 i3) 60 lyL0 [i1, i2, i3] M := by
  refine d_call (cBG_swap (kc := kX9_isCut) rfl (b_isCut (d := 2) hq (a := i1) (b := i2))) (by simp [cAs, cE2, sev, svl, cen] <;> omega) ?_
  rintro rr M1 ⟨hM1, hq9⟩
  rw [hM1]
  rcases hq9 with ⟨rfl, q1⟩ | ⟨rfl, q1⟩
  · refine ⟨rfl, ?_⟩
    have b6 := wIb (f := 64) (i := 5) (lo := 0) (hi := 6) hI i1.toNat rfl
    refine d_br (fun h => ?_) (fun h => ?_)
    · simp only [cCmp, cE2, sev, svl, cen, List.cons_append, List.nil_append] at h
      omega
    · clear h
      refine d_call (cBG_swap (kc := kX9_isBelow) rfl (b_isBelow (d := 4) hq (x := i3) (y := 3))) (by simp [cAs, cE2, sev, svl, cen] <;> omega) ?_
      rintro rr M2 ⟨hM2, hq9⟩
      rw [hM2]
      rcases hq9 with ⟨rfl, q2⟩ | ⟨rfl, q2⟩
      · refine ⟨rfl, ?_⟩
        have hC : lyC M i1 i2 i3 := ⟨q1, q2⟩
        refine d_br (fun h => ?_) (fun h => ?_)
        · clear h
          refine d_idx (by simp only [cE2, sev, svl, cen, List.cons_append, List.nil_append]; omega) ?_
          refine d_br (fun h => ?_) (fun h => ?_)
          · simp only [cCmp, cE2, sev, svl, cen, List.cons_append, List.nil_append] at h
            refine d_br (fun h => ?_) (fun h => ?_)
            · simp only [cCmp, cE2, sev, svl, cen, List.cons_append, List.nil_append] at h
              have b9 := wIb (f := 93) (i := i2.toNat) (lo := -1) (hi := 7) hI i1.toNat rfl
              refine d_row i1.toNat i2.toNat (by simp only [cE2, sev, svl, cen, List.cons_append, List.nil_append]; omega) (by simp only [cE2, sev, svl, cen, List.cons_append, List.nil_append]; omega) (by omega) ?_
              exact wret1 (M 93 i1.toNat i2.toNat) (by simp only [cE2, sev, svl, cen, List.cons_append, List.nil_append]; omega) (by omega) ⟨rfl, hC, by unfold lyV; rw [if_neg (by omega), if_neg (by omega)]⟩
            · simp only [cCmp, cE2, sev, svl, cen, List.cons_append, List.nil_append] at h
              have b9 := wIb (f := 92) (i := i2.toNat) (lo := 0) (hi := 4) hI i1.toNat rfl
              refine d_row i1.toNat i2.toNat (by simp only [cE2, sev, svl, cen, List.cons_append, List.nil_append]; omega) (by simp only [cE2, sev, svl, cen, List.cons_append, List.nil_append]; omega) (by omega) ?_
              exact wret1 (M 92 i1.toNat i2.toNat) (by simp only [cE2, sev, svl, cen, List.cons_append, List.nil_append]; omega) (by omega) ⟨rfl, hC, by unfold lyV; rw [if_neg (by omega), if_pos (by omega)]⟩
          · simp only [cCmp, cE2, sev, svl, cen, List.cons_append, List.nil_append] at h
            have b9 := wIb (f := 91) (i := i2.toNat) (lo := 0) (hi := 5) hI i1.toNat rfl
            refine d_row i1.toNat i2.toNat (by simp only [cE2, sev, svl, cen, List.cons_append, List.nil_append]; omega) (by simp only [cE2, sev, svl, cen, List.cons_append, List.nil_append]; omega) (by omega) ?_
            exact wret1 (M 91 i1.toNat i2.toNat) (by simp only [cE2, sev, svl, cen, List.cons_append, List.nil_append]; omega) (by omega) ⟨rfl, hC, by unfold lyV; rw [if_pos (by omega)]⟩
        · simp only [cCmp, cE2, sev, svl, cen, List.cons_append, List.nil_append] at h
          omega
      · refine ⟨rfl, ?_⟩
        refine d_br (fun h => ?_) (fun h => ?_)
        · simp only [cCmp, cE2, sev, svl, cen, List.cons_append, List.nil_append] at h
          omega
        · exact d_cut [i1, i2, i3] (by simp [cE2, sev, svl, cen] <;> omega) ⟨rfl, rfl, fun z => q2 z.2⟩
  · refine ⟨rfl, ?_⟩
    refine d_br (fun h => ?_) (fun h => ?_)
    · exact d_cut [i1, i2, i3] (by simp [cE2, sev, svl, cen] <;> omega) ⟨rfl, rfl, fun z => q1 z.1⟩
    · simp only [cCmp, cE2, sev, svl, cen, List.cons_append, List.nil_append] at h
      omega
set_option maxHeartbeats 4000000 in
theorem zc_layerV (hst : l.stackTraces = false) (M : SMem) (ad : SAd) (ws : va_W) (sz : Nat) (i1 i2 i3 : Int32) (hH : sH tf ad M cA ws) (hI : sI tg M) (hX : sX M) :
    vx_Met l yX9_layer (.code yX9_layer cX9_layer 5 (some .int) :: zT) { frames := 8, cells := 1, slots := 6, locals := 40 * 8 } (va_Pc [.ref (ad 0 0), .int i1, .int i2, .int i3] (sB (zEX aK aV sa tx) dC dI cA ws sz)) (va_Qi (fun x u => (lyC M i1.toInt i2.toInt i3.toInt ∧ x.toInt = lyV M i1.toInt i2.toInt i3.toInt) ∧ sH tf ad M cA u) (zend dC dI cA (va_A ws sz)) (va_A ws sz)) (vx_X (fun u => ¬ lyC M i1.toInt i2.toInt i3.toInt ∧ sH tf ad M cA u) (fun E u t => E = "java/util/NoSuchElementException" ∧ zend dC dI cA (va_A ws sz) u t) (va_A ws sz)) 1 6 (va_A ws sz) := by
  refine vx_ofW (cc := cX9_layer) (maxL := 5) (ret := some .int) (by decide) rfl ?_
  intro p e s m args below meth c s₁ B hml htb hv
  obtain ⟨rfl, hsz, hP, hK, hD0, hE9⟩ := hv
  have hx := B.exec
  have hb := B.bytes
  have hr := B.returns
  have hts : ∀ w ∈ zT, w.before _ s = true := fun w hw => atoms_spec (ws := .code yX9_layer cX9_layer 5 (some .int) :: zT) B.pre w (List.mem_cons_of_mem _ hw)
  have hown : s.vm.findClass RX9 = some m.cls := findClass_of_methodNamed B.named
  have hlocks := B.notSynchronized
  subst hsz
  have hD := hD0.self (sz := s.heap.size)
  have hA : ∀ q, s.heap.size ≤ q → va_A ws s.heap.size q := fun q h => Or.inr h
  have hl := lv_entry ([.ref (ad 0 0), .int i1, .int i2, .int i3]) (n := 5) (Nat.le_of_ble_eq_true rfl)
  rw [lg_entry_eq]
  generalize (lg_sl ([.ref (ad 0 0), .int i1, .int i2, .int i3]) ++ List.replicate (5 - (lg_sl ([.ref (ad 0 0), .int i1, .int i2, .int i3])).length) Slot.unset).toArray = ls at hl ⊢
  have hl : lv_has ls 5 [(0, .ref (ad 0 0)), (1, .int i1), (2, .int i2), (3, .int i3)] := hl
  have hbd : ∀ x : Int32, -2147483648 ≤ x.toInt ∧ x.toInt ≤ 2147483647 := fun x => ⟨Int32.le_toInt x, by have := Int32.toInt_lt x; omega⟩
  have hp := lyHp (l := l) (dC := dC) (dI := dI) (cA := cA) (aK := aK) (aV := aV) (sa := sa) (tx := tx)
  have hq := lyHq (l := l) (dC := dC) (dI := dI) (cA := cA) (aK := aK) (aV := aV) (sa := sa) (tx := tx)
  have F : sF 6 (RX9, yX9_layer, cX9_layer, 5, some .int, 0, 0) (zEX aK aV sa tx) p { frames := 8, cells := 1, slots := 6, locals := 40 * 8 } s m _ c dC dI cA (va_A ws s.heap.size) := ⟨hx, hb, hml, hown, hts, hK, hA, ⟨by decide, by decide⟩, ⟨Nat.zero_le _, Nat.zero_le _⟩, hE9⟩
  have hgo := cgo_ok (k := 1) (zm := tlm) (zc := tlc) (ad := ad) (E := cBG tlm tf (zEX aK aV sa tx) l dC dI cA ad aK 5) (scrS := aK) (nc := 0) (ns := 0) (e := e) (below := below) (meth := meth) (Q := (vx_MQ below (va_Qi (fun x u => (lyC M i1.toInt i2.toInt i3.toInt ∧ x.toInt = lyV M i1.toInt i2.toInt i3.toInt) ∧ sH tf ad M cA u) (zend dC dI cA (va_A ws s.heap.size)) (va_A ws s.heap.size)) (vx_X (fun u => ¬ lyC M i1.toInt i2.toInt i3.toInt ∧ sH tf ad M cA u) (fun E u t => E = "java/util/NoSuchElementException" ∧ zend dC dI cA (va_A ws s.heap.size) u t) (va_A ws s.heap.size)) [Value.ref (ad 0 0), .int i1, .int i2, .int i3].toArray s 1 6 (va_A ws s.heap.size))) (Sx := fun _ => True) (scr := aK) (cu := [(17, tll)]) (C := fun pc v M1 => pc = 17 ∧ M1 = M ∧ ¬ lyC M i1.toInt i2.toInt i3.toInt) (Qr := fun rr M1 => M1 = M ∧ lyC M i1.toInt i2.toInt i3.toInt ∧ rr = [lyV M i1.toInt i2.toInt i3.toInt]) hp.1 hp.2.1 hp.2.2.1 hp.2.2.2.1 tltab (fun _ _ _ _ _ _ _ => trivial) (fun _ _ _ _ _ _ _ _ _ => trivial) (fun _ _ _ _ h => h) F rfl rfl (Nat.zero_le _) (Nat.zero_le _) (fun q => absurd q (by decide)) (fun pc T9 hf v M1 ws' H' locs' ls' clv' _ hH' hP1 hD1 hS1 hl9 _ hC => ?_) (fun pc rv rr M1 ws' H' locs' ls' g1 g2 g3 _ hH' hP1 hD1 hS1 => ?_) 400 3 0 tll [] lyL0 (lchk_ok lyK0)
  · refine hgo 60 [i1.toInt, i2.toInt, i3.toInt] M ws s.heap [] ls [(0, .ref (ad 0 0)), (1, .int i1), (2, .int i2), (3, .int i3)] [] rfl trivial hH hP hD va_S.rf hl ⟨rfl, Or.inr (Or.inr (Or.inl ⟨rfl, 0, _, rfl, rfl, Nat.zero_lt_one, rfl⟩)), rfl, Or.inl ⟨rfl, i1, rfl, ?_⟩, rfl, Or.inl ⟨rfl, i2, rfl, ?_⟩, rfl, Or.inl ⟨rfl, i3, rfl, ?_⟩, trivial⟩ trivial (lyD0 hq hI (hbd i3))
    · simp only [sev, svl, cen]; omega
    · simp only [sev, svl, cen]; omega
    · simp only [sev, svl, cen]; omega
  · obtain ⟨rfl, eM, hC⟩ := hC
    rw [eM] at hH'
    have hY := hE9.2.2.2
    have hat : ∀ w ∈ zatS RX9 149, w.before [Value.ref (ad 0 0), Value.int i1, Value.int i2, Value.int i3].toArray s = true :=
      vx_hat (fun w hw => hts w (List.mem_filter.mpr ⟨zw_vx w hw, (List.mem_filter.mp hw).2⟩)) zw_vxn (vx_c (va_Nw.use rfl hY.2.2.2.1) (vx_c (va_Nw.use rfl hY.2.2.2.2.1) (vx_c (va_Nw.use rfl hY.2.2.2.2.2.1) (vx_c (va_Nw.use rfl hY.2.2.2.2.2.2) vx_n))))
    refine zthrow (A := va_A ws s.heap.size) hx hb hst hown (hts _ (zw_nse _ (by simp [zXn]))) (hts _ (zw_nse _ (by simp [zXn]))) hY.2.2.1 hat zw_vxo hY.1 hY.2.1 hS1 (hl9.1.trans hml.symm) dXl17 dXl20 dXl21 dXl23 dXl26 (fun z hz => (htb z hz).elim) (by decide) (by decide) (show 0 + 1 ≤ 1 by omega) (show 0 + 6 ≤ 6 by omega) hlocks (fun t hvt hsz hkt => ?_) hS1.2.2 (by omega) (by omega)
    refine ⟨ws', ⟨hC, hH'⟩, ⟨rfl, ?_, va_K.moved hvt hK, hD1⟩, ⟨Nat.le_trans hS1.1 hsz, fun q q1 q2 => (hkt q (Nat.lt_of_lt_of_le q1 hS1.1)).trans (hS1.2.1 q q1 q2)⟩⟩
    exact hP1.kept (fun k x hx => hkt x.1 ((hP1 k x hx).lt))
  · obtain ⟨eM, hc, er⟩ := g3
    rw [eM] at hH'
    obtain ⟨xs, rfl, hxs⟩ := g2
    rw [er] at hxs
    match xs, hxs, g1 with
    | [x], hxs, g1 =>
      have hx9 : x.toInt = lyV M i1.toInt i2.toInt i3.toInt := (List.cons.inj hxs).1
      have hdec : decode cX9_layer pc = .ok (.ireturn, 1) := g1.1
      refine vx_ret ?_
      refine W.widen (k := 1) (n := 6) (by omega) (by omega) ?_
      exact W.iret hx hb hr (fun t ht hW => ⟨⟨x, ws', rfl, ⟨⟨hc, hx9⟩, hH'⟩, by rw [ht]; exact hP1, va_K.moved hW.alike hK, hD1⟩, hS1.F ht⟩) hS1.2.2 hdec
set_option maxHeartbeats 4000000 in
theorem zc_llayV (hst : l.stackTraces = false) (M : SMem) (ad : SAd) (ws : va_W) (sz : Nat) (i1 i2 i3 : Int32) (hH : sH tf ad M cA ws) (hI : sI tg M) (hX : sX M) :
    Met l yL_layer (.codeWith yL_layer cL_layer 6 (some .int) [(0, 12, 15, 13)] :: zT) { frames := 9, cells := 1, slots := 6, locals := 40 * 9 } (va_Pc [.ref (ad 0 0), .int i1, .int i2, .int i3, .ref (ad 2 0)] (sB (zEX aK aV sa tx) dC dI cA ws sz)) (va_Qi (fun x u => ∃ M' : SMem, sH tf ad M' cA u ∧ sI tg M' ∧ (∀ f j i, f ≠ 2 → M' f j i = M f j i) ∧ lyP M i1.toInt i2.toInt i3.toInt x.toInt M') (zend dC dI cA (va_A ws sz)) (va_A ws sz)) 1 6 (va_A ws sz) := by
  refine zofWH (cc := cL_layer) (maxL := 6) (ret := some .int) (hh := [(0, 12, 15, 13)]) (by decide) rfl ?_
  intro p e s m args below meth c s₁ B hml hv
  obtain ⟨rfl, hsz, hP, hK, hD0, hE9⟩ := hv
  have hx := B.exec
  have hb := B.bytes
  have hr := B.returns
  have hts0 := atoms_spec (ws := .codeWith yL_layer cL_layer 6 (some .int) [(0, 12, 15, 13)] :: zT) B.pre
  have hts : ∀ w ∈ zT, w.before _ s = true := fun w hw => hts0 w (List.mem_cons_of_mem _ hw)
  have htb := vx_table (x := yL_layer) B (hts0 _ List.mem_cons_self)
  have hown : s.vm.findClass RL = some m.cls := findClass_of_methodNamed B.named
  have hlocks := B.notSynchronized
  subst hsz
  have hD := hD0.self (sz := s.heap.size)
  have hA : ∀ q, s.heap.size ≤ q → va_A ws s.heap.size q := fun q h => Or.inr h
  have hS : va_S (va_A ws s.heap.size) s.heap s.heap [] := va_S.rf
  have hl := lv_entry ([.ref (ad 0 0), .int i1, .int i2, .int i3, .ref (ad 2 0)]) (n := 6) (Nat.le_of_ble_eq_true rfl)
  rw [lg_entry_eq]
  generalize (lg_sl ([.ref (ad 0 0), .int i1, .int i2, .int i3, .ref (ad 2 0)]) ++ List.replicate (6 - (lg_sl ([.ref (ad 0 0), .int i1, .int i2, .int i3, .ref (ad 2 0)])).length) Slot.unset).toArray = ls at hl ⊢
  have hl : lv_has ls 6 [(0, .ref (ad 0 0)), (1, .int i1), (2, .int i2), (3, .int i3), (4, .ref (ad 2 0))] := hl
  refine lv_aload hx hb dLl0 (lv_at hl 4 rfl) ?_
  refine lv_iconst (v := 0) hx hb dLl2 (by decide) ?_
  refine lv_aload_n hx hb dLl3 rfl (lv_at hl 0 rfl) ?_
  refine lv_iload_n hx hb dLl4 rfl (lv_at hl 1 rfl) ?_
  refine lv_iload_n hx hb dLl5 rfl (lv_at hl 2 rfl) ?_
  refine lv_iload_n hx hb dLl6 rfl (lv_at hl 3 rfl) ?_
  have hM := zc_layerV (aK := aK) (aV := aV) (sa := sa) (tx := tx) (dC := dC) (dI := dI) hst M ad ws s.heap.size i1 i2 i3 hH hI hX
  obtain ⟨w0, k0, z0⟩ := hH 0 _ rfl 0 Nat.zero_lt_one
  obtain ⟨gx, rfl, -, -⟩ := z0
  have w1 := zw_layer (.methodLink RL 7 yX9_layer) (by simp [zcw])
  have w2 := zw_layer (.instanceMethod yX9_layer) (by simp [zcw])
  have w3 := zw_layer (.initialized yX9_layer.cls) (by simp [zcw])
  have w4 := zw_layer (.code yX9_layer cX9_layer 5 (some .int)) (by simp [zcw])
  have w5 := zw_layer (.selects yX9_layer.cls yX9_layer yX9_layer) (by simp [zcw])
  have hroom := lv_room (m := m) (pc := 7) (ls := ls) (rest := [Value.int i3, .int i2, .int i1, .ref (ad 0 0), .int 0, .ref (ad 2 0)]) (st := [Value.int 0, .ref (ad 2 0)]) (Nat.le_of_ble_eq_true rfl)
  have hF := zfree hD hS hA
  have hEX := zEX_ok aK aV sa tx
  have hR9 := vx_runV (p := p) (e := e) (below := below) (meth := meth) (locs := []) (cells := 0) (slots := 0) (Ts := zT) (own := RL) (C := RX9) (R := { frames := 9, cells := 1, slots := 6, locals := 40 * 9 }) (As := [.int i1, .int i2, .int i3]) (b := ad 0 0) (rest := [.int 0, .ref (ad 2 0)]) (g := F0 m 7 ls [.int i3, .int i2, .int i1, .ref (ad 0 0), .int 0, .ref (ad 2 0)]) ⟨hx, hb, hml, hown, hts⟩ hM ⟨callB_of 3 hts (zT_good1 w4) rfl rfl rfl (hts _ w3) (hts _ w1) (by decide +kernel) (by decide), hts _ w2, hts _ w5⟩ ⟨sB_blind hEX, va_recv hK hP (ci := 8) (q0 := 0) rfl k0, fun U hU hW => ⟨rfl, by rw [hU], by rw [hU]; exact hP, va_K.moved hW.alike hK, hD.weaken (fun _ _ _ _ => trivial), by rw [hU]; exact hEX.2.2.1 _ s U _ hW hE9⟩⟩ rfl rfl hl.1 rfl hroom dLl7 (by decide)
  refine vx_calli hR9 hS (fun q _ h => hF q h) hF (fun q _ h => hF q h) (fun E ce q9 u t9 H1 locs1 ht hvm hpx hBX hz1 hk1 hS1 hce hcv hcl => ?_) (fun x u t9 H1 locs1 ht hvm hw hB hz1 hk1 hS1 => ?_)
  · obtain ⟨rfl, hP1, hK1, hD1⟩ := hBX
    rw [ht] at hP1
    refine vx_catch1 (own := RL) (name := "java/util/NoSuchElementException") hown ⟨0, 12, 15, 13⟩ [] (by rw [htb]; rfl) (by decide) (by decide) (hts _ (zw_nse _ (by simp))) (va_Nw.use rfl hE9.2.2.2.2.2.2.1) hce hcv hcl ?_
    refine lv_astore (lv' := [(5, .ref q9), (0, .ref (ad 0 0)), (1, .int i1), (2, .int i2), (3, .int i3), (4, .ref (ad 2 0))]) hx hb dLl15 hl (by decide) rfl (fun ls hl => ?_)
    refine lv_iconst (v := 1) hx hb dLl17 (by decide) ?_
    exact W.iret hx hb hr (fun t ht hW => ⟨⟨1, u, rfl, ⟨M, hpx.2, hI, fun _ _ _ _ => rfl, Or.inr ⟨rfl, hpx.1⟩⟩, by rw [ht]; exact hP1, va_K.moved hW.alike hK, hD1⟩, hS1.F ht⟩) hS1.2.2 dLl18
  · obtain ⟨hP1, hK1, hD1⟩ := hB
    rw [ht] at hP1
    have hp := lyHp (l := l) (dC := dC) (dI := dI) (cA := cA) (aK := aK) (aV := aV) (sa := sa) (tx := tx)
    have hbx : -2147483648 ≤ x.toInt ∧ x.toInt ≤ 2147483647 := ⟨Int32.le_toInt x, by have := Int32.toInt_lt x; omega⟩
    have F : sF 6 (RL, yL_layer, cL_layer, 6, some .int, 0, 0) (zEX aK aV sa tx) p { frames := 9, cells := 1, slots := 6, locals := 40 * 9 } s m _ c dC dI cA (va_A ws s.heap.size) := ⟨hx, hb, hml, hown, hts, hK, hA, ⟨by decide, by decide⟩, ⟨Nat.zero_le _, Nat.zero_le _⟩, hE9⟩
    have hgo := cgo_ok (k := 5) (zm := tlm) (zc := tlc) (ad := ad) (E := cBG tlm tf (zEX aK aV sa tx) l dC dI cA ad aK 5) (scrS := aK) (nc := 0 + 1) (ns := 0 + 6) (e := e) (below := below) (meth := meth) (Q := (MQ below (va_Qi (fun x u => ∃ M' : SMem, sH tf ad M' cA u ∧ sI tg M' ∧ (∀ f j i, f ≠ 2 → M' f j i = M f j i) ∧ lyP M i1.toInt i2.toInt i3.toInt x.toInt M') (zend dC dI cA (va_A ws s.heap.size)) (va_A ws s.heap.size)) [Value.ref (ad 0 0), .int i1, .int i2, .int i3, .ref (ad 2 0)].toArray s 1 6 (va_A ws s.heap.size))) (Sx := fun _ => True) (scr := aK) (cu := []) (C := fun _ _ _ => False) (Qr := fun rr M1 => rr = [0] ∧ M1 = supd M 2 0 0 x.toInt) hp.1 hp.2.1 hp.2.2.1 hp.2.2.2.1 tltab (fun _ _ _ _ _ _ _ => trivial) (fun _ _ _ _ _ _ _ _ _ => trivial) (fun _ _ _ _ h => h) F rfl rfl (Nat.le_refl _) (Nat.le_refl _) (fun q => absurd q (by decide)) (fun pc T9 hf => by cases hf) (fun pc rv rr M1 ws' H' locs' ls' g1 g2 g3 _ hH' hP2 hD2 hS2 => ?_) 400 1 10 [] [(0, 0, (0, [(0, 1)])), (0, 0, (0, [])), (2, 2, (0, []))] lyL5 (lchk_ok lyK5)
    · refine hgo 30 [x.toInt] M u H1 locs1 ls [] [.int x, .int 0, .ref (ad 2 0)] rfl trivial hw.2 hP1 hD1 hS1 ⟨hl.1, hl.2.1, fun q hq => by cases hq⟩ trivial ⟨Or.inl ⟨rfl, x, rfl, ?_⟩, Or.inl ⟨rfl, 0, rfl, rfl⟩, Or.inr (Or.inr (Or.inl ⟨rfl, 0, _, rfl, rfl, Nat.zero_lt_one, rfl⟩)), trivial⟩ ?_
      · simp only [sev, svl, cen]; omega
      · refine d_set 0 0 x.toInt (by simp only [cE2, sev, svl, cen, List.cons_append, List.nil_append]; omega) (by simp only [cE2, sev, svl, cen, List.cons_append, List.nil_append]; omega) (by decide) (by simp only [cE2, sev, svl, cen, List.cons_append, List.nil_append]; omega) ?_
        exact d_ret [0] rfl (by decide) ⟨rfl, rfl⟩
    · obtain ⟨er, eM⟩ := g3
      obtain ⟨xs, rfl, hxs⟩ := g2
      rw [er] at hxs
      match xs, hxs, g1 with
      | [x'], hxs, g1 =>
        have e0 : x'.toInt = 0 := (List.cons.inj hxs).1
        have hI' : sI tg M1 := by rw [eM]; exact wI hI (lo := -9223372036854775808) (hi := 9223372036854775807) rfl ⟨by omega, by omega⟩
        refine W.widen (k := 1) (n := 6) (by omega) (by omega) ?_
        exact W.iret hx hb hr (fun t ht hW => ⟨⟨x', ws', rfl, ⟨M1, hH', hI', fun f j i hf => by rw [eM]; exact supd_f hf, Or.inl ⟨e0, hw.1.1, by rw [eM, supd_at]; exact hw.1.2⟩⟩, by rw [ht]; exact hP2, va_K.moved hW.alike hK, hD2⟩, hS2.F ht⟩) hS2.2.2 g1.1
def sLAYV (fm : List SF) (rg : SRg) (EX : SEx) (l : Launch) (dC : Nat → ClassId) (dI : Nat → Nat → Nat) (cA : Nat → ClassId) : Prop := ∀ (p : Program) (e : Env) (R : Room) (s : State) (m : MethodId) (args : Array Value) (below : List Frame) (meth : Method) (c : Code) (Q : State → Prop) (A : Nat → Prop) (H : Heap) (locs : List Loc) (ls : Array Slot) (rest : List Value) (nc ns pc idx : Nat) (own : String) (cc : ByteArray) (M : SMem) (ad : SAd) (ws : va_W) (i1 i2 i3 : Int32), p.tables.exec = Jvm.exec → c.code = cc → c.maxLocals = ls.size → s.vm.findClass own = some m.cls → (∀ w ∈ zT, w.before args s = true) → va_K (dC, dI) vwCl (ztys cA) s → (∀ q, s.heap.size ≤ q → A q) → EX A s s.heap → (rest.map fun v => v.category).sum ≤ 8 → 12 ≤ R.frames → 480 ≤ R.locals → nc + 1 ≤ R.cells → ns + 6 ≤ R.slots → Cond.methodLink own idx yLay ∈ zT → decode cc pc = .ok (.invokestatic idx, 3) → va_P (dC, dI) vwCl ws H → va_D A ws → va_S A s.heap H locs → sH fm ad M cA ws → sI rg M → sX M →
  (∀ (x : Int32) (M' : SMem) (ws' : va_W) (H1 : Heap) (locs1 : List Loc), lyP M i1.toInt i2.toInt i3.toInt x.toInt M' → sH fm ad M' cA ws' → sI rg M' → (∀ f j i, f ≠ 2 → M' f j i = M f j i) → va_P (dC, dI) vwCl ws' H1 → va_D A ws' → va_S A s.heap H1 locs1 → W p l e R s m args below meth c H1 locs1 (nc + 1) (ns + 6) Q (F0 m (pc + 3) ls (.int x :: rest))) →
  W p l e R s m args below meth c H locs nc ns Q (F0 m pc ls (.ref (ad 2 0) :: .int i3 :: .int i2 :: .int i1 :: .ref (ad 0 0) :: rest))
set_option maxHeartbeats 4000000 in
theorem tLAYV (hst : l.stackTraces = false) : sLAYV tf tg (zEX aK aV sa tx) l dC dI cA := by
  intro p e R s m args below meth c Q A H locs ls rest nc ns pc idx own cc M ad ws i1 i2 i3 hx hb hml hown hts hK hA hE9 h8 hRf hRl hRc hRs hlk hdg hP hD hS hH hI hX kk
  have hM := zc_llayV (aK := aK) (aV := aV) (sa := sa) (tx := tx) (dC := dC) (dI := dI) (l := l) hst M ad ws H.size i1 i2 i3 hH hI hX
  have hF := zfree hD hS hA
  have hEX := zEX_ok aK aV sa tx
  have hE2 := sEX_now hEX hE9 hS
  have hroom := lv_room (m := m) (pc := pc) (ls := ls) (rest := .ref (ad 2 0) :: .int i3 :: .int i2 :: .int i1 :: .ref (ad 0 0) :: rest) (st := rest) h8
  have hG : GoodIn zT (va_wsS own idx yL_layer (.codeWith yL_layer cL_layer 6 (some .int) [(0, 12, 15, 13)] :: zT)) := by
    intro w hw
    unfold va_wsS at hw
    rcases List.mem_append.mp hw with h | h
    · simp only [List.mem_cons, List.not_mem_nil, or_false] at h
      rcases h with rfl | rfl | rfl
      · exact zT_good _ hlk
      · exact zT_good _ (zw_nse _ (by simp))
      · exact zT_good _ (zw_nse _ (by simp [yL_layer]))
    · exact zT_good1 (zw_nse _ (by simp)) w h
  have hR9 := vx_runSW (p := p) (e := e) (below := below) (meth := meth) (locs := locs) (cells := nc) (slots := ns) (Ts := zT) (own := own) (R := R) (hh := [(0, 12, 15, 13)]) (As := [.ref (ad 0 0), .int i1, .int i2, .int i3, .ref (ad 2 0)]) (rest := rest) (g := F0 m pc ls (.ref (ad 2 0) :: .int i3 :: .int i2 :: .int i1 :: .ref (ad 0 0) :: rest)) ⟨hx, hb, hml, hown, hts⟩ hM (vx_cwSW 5 hts hG rfl rfl rfl (by decide +kernel) ⟨show 9 + 1 ≤ R.frames by omega, show 8 + (6 + 11) + 40 * 9 ≤ R.locals by omega⟩) ⟨sB_blind hEX, fun U hU hW => ⟨rfl, by rw [hU], by rw [hU]; exact hP, va_K.moved hW.alike hK, hD.weaken (fun _ _ _ _ => trivial), by rw [hU]; exact hEX.2.2.1 _ s U H hW (hEX.2.1 _ _ _ _ hE2 hF)⟩⟩ rfl rfl rfl rfl hroom hdg ⟨hRc, hRs⟩
  refine va_calli hR9 hS (fun q _ h => hF q h) hF (fun x u t9 H1 locs1 ht hvm hw hB hz1 hk1 hS1 => ?_)
  obtain ⟨M', m1, m2, m3, m4⟩ := hw
  obtain ⟨hP1, hK1, hD1⟩ := hB
  rw [ht] at hP1
  exact kk x M' u H1 locs1 m4 m1 m2 m3 hP1 (hD1.weaken (fun _ q _ z => hF q.1 z)) hS1
end SLV
