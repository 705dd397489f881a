/-! steps by hand over the kinds: numbers and rows of objects, rows copied, a row made anew -/
theorem smcp_f {M : SMem} {f0 j0 f1 j1 N f j i : Nat} (h : f ≠ f1) : sMcp M f0 j0 f1 j1 N f j i = M f j i := if_neg (fun q => h q.1)
theorem smcp_j {M : SMem} {f0 j0 f1 j1 N f j i : Nat} (h : j ≠ j1) : sMcp M f0 j0 f1 j1 N f j i = M f j i := if_neg (fun q => h q.2.1)
section SCP
variable {p : Program} {l : Launch} {e : Env} {R : Room} {s : State} {m : MethodId} {args : Array Value} {below : List Frame} {meth : Method} {c : Code} {Q : State → Prop} {dC : Nat → ClassId} {dI : Nat → Nat → Nat} {cA : Nat → ClassId} {A : Nat → Prop} {cc : ByteArray} {own : String} {pc nc ns : Nat} {fm : List SF} {ad : SAd} {M : SMem} {ws : va_W} {H : Heap} {locs : List Loc} {ls : Array Slot} {rest : List Value}
theorem cgetI (hx : p.tables.exec = Jvm.exec) (hb : c.code = cc) (hown : s.vm.findClass own = some m.cls) (hts : ∀ w ∈ zT, w.before args s = true) (hKv : va_K (dC, dI) vwCl (ztys cA) s) {C : String} {T : u_T} {N f j fi idx b c0 : Nat} {en : SF} {o : Nat × List (Nat × Nat × Nat)} (hin : ∀ w ∈ u_ws C T N, w ∈ zT) (hc : vwCl[o.1]? = some (C, T, N)) (hH : sH fm ad M cA ws) (hP : va_P (dC, dI) vwCl ws H) (hen : fm[f]? = some en) (ho : en.2.2.2 = .inl o) (hj : j < en.2.2.1) (hf : fi < N) (hsp : o.2[fi]? = some (0, b, c0)) (hlk : Cond.fieldLink own idx (T fi).1 (T fi).2.1 (T fi).2.2.1 ∈ zT) (hdg : decode cc pc = .ok (.getfield idx, 3))
    (kk : ∀ x : Int32, x.toInt = M f j fi → W p l e R s m args below meth c H locs nc ns Q (F0 m (pc + 3) ls (.int x :: rest))) : W p l e R s m args below meth c H locs nc ns Q (F0 m pc ls (.ref (ad f j) :: rest)) := by
  obtain ⟨wv, hwv, hse⟩ := hH f en hen j hj
  unfold sHe at hse
  rw [ho] at hse
  obtain ⟨gs, rfl, hgl, hg⟩ := hse
  obtain ⟨x, hx1, hx2⟩ := (hg fi _ hsp).1 rfl
  exact va_get hx hb hts hin hown hKv hP _ hwv hc fi hf (hts _ hlk) (fun _ z => z) hx1 hdg (kk x hx2)
theorem cgetR (hx : p.tables.exec = Jvm.exec) (hb : c.code = cc) (hown : s.vm.findClass own = some m.cls) (hts : ∀ w ∈ zT, w.before args s = true) (hKv : va_K (dC, dI) vwCl (ztys cA) s) {C : String} {T : u_T} {N f j fi idx f2 k2 : Nat} {en : SF} {o : Nat × List (Nat × Nat × Nat)} (hin : ∀ w ∈ u_ws C T N, w ∈ zT) (hc : vwCl[o.1]? = some (C, T, N)) (hH : sH fm ad M cA ws) (hP : va_P (dC, dI) vwCl ws H) (hen : fm[f]? = some en) (ho : en.2.2.2 = .inl o) (hj : j < en.2.2.1) (hf : fi < N) (hsp : o.2[fi]? = some (1, f2, k2)) (hlk : Cond.fieldLink own idx (T fi).1 (T fi).2.1 (T fi).2.2.1 ∈ zT) (hdg : decode cc pc = .ok (.getfield idx, 3))
    (kk : W p l e R s m args below meth c H locs nc ns Q (F0 m (pc + 3) ls (.ref (ad f2 (cond (Nat.beq k2 0) 0 j)) :: rest))) : W p l e R s m args below meth c H locs nc ns Q (F0 m pc ls (.ref (ad f j) :: rest)) := by
  obtain ⟨wv, hwv, hse⟩ := hH f en hen j hj
  unfold sHe at hse
  rw [ho] at hse
  obtain ⟨gs, rfl, hgl, hg⟩ := hse
  have hx1 := (hg fi _ hsp).2 rfl
  exact va_get hx hb hts hin hown hKv hP _ hwv hc fi hf (hts _ hlk) (fun _ z => z) hx1 hdg kk
theorem cputI (hI : sInj fm) (hk : sfmok fm) (hx : p.tables.exec = Jvm.exec) (hb : c.code = cc) (hown : s.vm.findClass own = some m.cls) (hts : ∀ w ∈ zT, w.before args s = true) (hKv : va_K (dC, dI) vwCl (ztys cA) s) {C : String} {T : u_T} {N f j fi idx b c0 : Nat} {en : SF} {o : Nat × List (Nat × Nat × Nat)} {ty0 : Nat → FieldType} (hin : ∀ w ∈ u_ws C T N, w ∈ zT) (hty : ∀ k, k < N → parseFieldDescriptor (T k).2.2.1 = some (ty0 k)) (hnm : ∀ a, a < N → ∀ b, b < N → a ≠ b → (T a).2.1 ≠ (T b).2.1) (hc : vwCl[o.1]? = some (C, T, N)) (hH : sH fm ad M cA ws) (hP : va_P (dC, dI) vwCl ws H) (hD : va_D A ws) (hS : va_S A s.heap H locs) (hen : fm[f]? = some en) (ho : en.2.2.2 = .inl o) (hj : j < en.2.2.1) (hf : fi < N) (hsp : o.2[fi]? = some (0, b, c0)) (hlk : Cond.fieldLink own idx (T fi).1 (T fi).2.1 (T fi).2.2.1 ∈ zT) (hfin : (T fi).2.2.2 = false) (hd : parseFieldDescriptor (T fi).2.2.1 = some .int) (hdg : decode cc pc = .ok (.putfield idx, 3)) {x : Int32}
    (kk : ∀ (ws' : va_W) (H1 : Heap) (locs1 : List Loc), sH fm ad (supd M f j fi x.toInt) cA ws' → va_P (dC, dI) vwCl ws' H1 → va_D A ws' → va_S A s.heap H1 locs1 → W p l e R s m args below meth c H1 locs1 nc ns Q (F0 m (pc + 3) ls rest)) : W p l e R s m args below meth c H locs nc ns Q (F0 m pc ls (.int x :: .ref (ad f j) :: rest)) := by
  obtain ⟨wv, hwv, hse⟩ := hH f en hen j hj
  unfold sHe at hse
  rw [ho] at hse
  obtain ⟨gs, rfl, hgl, hg⟩ := hse
  have hlen : fi < gs.length := by rw [hgl]; exact (List.getElem?_eq_some_iff.mp hsp).1
  refine va_put hx hb hts hin ty0 hty hnm hown hKv hP hD hS _ hwv hc fi hf (hts _ hlk) (fun _ z => z) hfin hd rfl rfl hlen hdg (fun H1 locs1 p1 p2 p3 => ?_)
  refine kk _ H1 locs1 (sH_set hI hk hH hen hj ?_) p1 p2 p3
  unfold sHe
  rw [ho]
  refine ⟨_, rfl, by rw [List.length_set]; exact hgl, fun i' sp' hs' => ?_⟩
  obtain ⟨g0, g1⟩ := hg i' sp' hs'
  by_cases hii : i' = fi
  · subst hii
    cases hsp.symm.trans hs'
    exact ⟨fun _ => ⟨x, List.getElem?_set_self hlen, by rw [supd_at]⟩, fun q => by cases q⟩
  · rw [List.getElem?_set_ne (fun q => hii q.symm), supd_i hii]
    exact ⟨g0, g1⟩
theorem scpyW (hI : sInj fm) (hk : sfmok fm) (hx : p.tables.exec = Jvm.exec) (hb : c.code = cc) (hml : c.maxLocals = ls.size) (hown : s.vm.findClass own = some m.cls) (hts : ∀ w ∈ zT, w.before args s = true) (hKv : va_K (dC, dI) vwCl (ztys cA) s) {idx : Nat} (h1 : Cond.methodLink own idx arraycopyName ∈ zT) (h2 : Cond.native arraycopyName ∈ zT) (h3 : Cond.static arraycopyName ∈ zT) (h4 : Cond.initialized "java/lang/System" ∈ zT) (hH : sH fm ad M cA ws) (hP : va_P (dC, dI) vwCl ws H) (hD : va_D A ws) (hS : va_S A s.heap H locs) {f0 f1 j0 j1 : Nat} {en0 en1 : SF} {a0 a1 : Nat × Nat × Nat × Nat} (hen0 : fm[f0]? = some en0) (ha0 : en0.2.2.2 = .inr a0) (hen1 : fm[f1]? = some en1) (ha1 : en1.2.2.2 = .inr a1) (z0 : a0.1 = 0) (z1 : a1.1 = 0) (hj0 : j0 < en0.2.2.1) (hj1 : j1 < en1.2.2.1) {n : Int32} (n0 : 0 ≤ n.toInt) (n1 : n.toNatClampNeg ≤ slen M j0 a0) (n2 : n.toNatClampNeg ≤ slen M j1 a1) (h8 : (rest.map fun v => v.category).sum ≤ 8) (hRf : 1 ≤ R.frames) (hRl : 40 ≤ R.locals) (hdg : decode cc pc = .ok (.invokestatic idx, 3))
    (kk : ∀ (ws' : va_W) (H1 : Heap) (locs1 : List Loc), sH fm ad (sMcp M f0 j0 f1 j1 n.toNatClampNeg) cA ws' → va_P (dC, dI) vwCl ws' H1 → va_D A ws' → va_S A s.heap H1 locs1 → W p l e R s m args below meth c H1 locs1 nc ns Q (F0 m (pc + 3) ls rest)) : W p l e R s m args below meth c H locs nc ns Q (F0 m pc ls (.int n :: .int 0 :: .ref (ad f1 j1) :: .int 0 :: .ref (ad f0 j0) :: rest)) := by
  obtain ⟨wv0, hwv0, hse0⟩ := hH _ en0 hen0 j0 hj0
  obtain ⟨wv1, hwv1, hse1⟩ := hH _ en1 hen1 j1 hj1
  unfold sHe at hse0 hse1
  rw [ha0] at hse0
  rw [ha1] at hse1
  obtain ⟨g0, rfl, hf0⟩ := hse0.1 (by omega)
  obtain ⟨g1, rfl, hf1⟩ := hse1.1 (by omega)
  rw [z0] at hwv0
  rw [z1] at hwv1
  have hz : ∀ z : Int32, 0 ≤ z.toInt → ¬ z < 0 := fun z hz q => by
    have := Int32.lt_iff_toInt_lt.mp q
    have e0 : (0 : Int32).toInt = 0 := rfl
    omega
  have hnf : nativeFrameWords "java/lang/System" "arraycopy" 5 = 7 := by decide
  have ez : (0 : Int32).toNatClampNeg = 0 := rfl
  refine va_copyi hx hb hml hown (hts _ h1) (hts _ h2) (hts _ h3) (hts _ h4) hKv hP hD hS (spos en0 j0) (spos en1 j1) 0 0 (ty := .int) hwv0 hwv1 rfl rfl rfl (hz _ (by decide)) (hz _ (by decide)) (hz _ n0) (by rw [ez]; omega) (by rw [ez]; omega) (fun i _ => rfl) hRf (by rw [hnf]; omega) hdg (fun H1 locs1 p1 p2 p3 => ?_)
  have hM : ∀ f' j' i', ¬ (f' = f1 ∧ j' = j1) → sMcp M f0 j0 f1 j1 n.toNatClampNeg f' j' i' = M f' j' i' := fun f' j' i' q => if_neg (fun z => q ⟨z.1, z.2.1⟩)
  refine kk _ H1 locs1 (sH_setM hI hk hH hen1 hj1 hM ?_) p1 p2 p3
  have hlt : f1 < fm.length := (List.getElem?_eq_some_iff.mp hen1).1
  unfold sHe
  rw [ha1]
  refine ⟨fun _ => ⟨va_cpy g0 g1 (0 : Int32).toNatClampNeg (0 : Int32).toNatClampNeg n.toNatClampNeg, ?_, fun i => ?_⟩, fun q => by omega, fun q => by omega⟩
  · rw [z1, slen_congr (M := M) (M' := sMcp M f0 j0 f1 j1 n.toNatClampNeg) (j := j1) (fun hz => smcp_f (by have := hk f1 en1 a1 hen1 ha1 hz; omega))]
  · unfold va_cpy sMcp
    rw [ez]
    by_cases hi : i < n.toNatClampNeg
    · rw [if_pos ⟨Nat.zero_le _, by omega⟩, if_pos ⟨rfl, rfl, hi⟩, show 0 + (i - 0) = i from by omega]
      exact hf0 i
    · rw [if_neg (fun q => hi (by omega)), if_neg (fun q => hi q.2.2)]
      exact hf1 i
end SCP
/-! a new row in the place of an elder -/
def cad (ad : SAd) (j q : Nat) : SAd := fun f' j' => if f' = 100 ∧ j' = j then q else ad f' j'
def cM (M : SMem) (j : Nat) (v : Int) : SMem := fun f' j' i' => if f' = 100 ∧ j' = j then 0 else if f' = 106 ∧ j' = j ∧ i' = 0 then v else M f' j' i'
def cex1 (f : Nat) (en : SF) : Bool := match en.2.2.2 with
  | .inl o => Nat.beq f 74 || o.2.all (fun sp => Nat.beq sp.1 0 || !(Nat.beq sp.2.1 100))
  | .inr a => Nat.beq f 100 || (Nat.beq a.2.1 0 && (Nat.ble a.1 3 || !(Nat.beq a.2.2.2 100)))
def cex : Nat → List SF → Bool
  | _, [] => true
  | f, en :: r => cond (cex1 f en) (cex (f + 1) r) false
theorem cex_ok : ∀ {fm : List SF} {f0 : Nat}, cex f0 fm = true → ∀ (f : Nat) (en : SF), fm[f]? = some en → cex1 (f0 + f) en = true := by
  intro fm
  induction fm with
  | nil => intro f0 _ f en h; cases h
  | cons e0 r ih =>
    intro f0 h f en hf
    unfold cex at h
    obtain ⟨h1, h2⟩ := bcond h
    cases f with
    | zero =>
      cases hf
      exact h1
    | succ f =>
      have := ih h2 f en (by simpa using hf)
      rw [show f0 + (f + 1) = f0 + 1 + f from by omega]
      exact this
theorem tcex : cex 0 tf = true := by decide +kernel
abbrev cE74 : SF := (95, 6, 6, .inl (2, [(0, 0, 0), (0, 0, 0), (1, 96, 1), (1, 97, 1), (1, 98, 1), (1, 99, 1), (1, 100, 1)]))
abbrev cE75 : SF := (132, 1, 1, .inl (2, [(0, 0, 0), (0, 0, 0), (1, 101, 0), (1, 102, 0), (1, 103, 0), (1, 104, 0), (1, 105, 0)]))
abbrev cE100 : SF := (100, 6, 6, .inr (0, 1, 106, 0))
theorem cE74_at : tf[74]? = some cE74 := rfl
theorem cE75_at : tf[75]? = some cE75 := rfl
theorem cE100_at : tf[100]? = some cE100 := rfl
theorem cHe_o {ad : SAd} {M : SMem} {cA : Nat → ClassId} {j q f' j' : Nat} {v : Int} {en' : SF} {w : va_E} (hen : tf[f']? = some en') (h74 : ¬ (f' = 74 ∧ j' = j)) (h100 : ¬ (f' = 100 ∧ j' = j)) (h : sHe ad M cA f' j' en' w) : sHe (cad ad j q) (cM M j v) cA f' j' en' w := by
  have hlt : f' < 106 := (List.getElem?_eq_some_iff.mp hen).1
  have hM : ∀ i, cM M j v f' j' i = M f' j' i := fun i => by
    unfold cM
    rw [if_neg h100, if_neg (fun z => by omega)]
  have hc := cex_ok tcex f' en' hen
  rw [Nat.zero_add] at hc
  unfold cex1 at hc
  unfold sHe at h ⊢
  cases he : en'.2.2.2 with
  | inl o =>
    rw [he] at h hc
    obtain ⟨gs, h1, h2, h3⟩ := h
    refine ⟨gs, h1, h2, fun i sp hs => ⟨fun z => by rw [hM]; exact (h3 i sp hs).1 z, fun z => ?_⟩⟩
    rw [(h3 i sp hs).2 z]
    simp only [Bool.or_eq_true] at hc
    unfold cad
    rcases hc with hc | hc
    · have e74 := Nat.beq_eq.mp hc
      subst e74
      have hj : j' ≠ j := fun z => h74 ⟨rfl, z⟩
      cases cE74_at.symm.trans hen
      simp only [Sum.inl.injEq] at he
      subst he
      match i, hs with
      | 0, hs => cases hs; cases z
      | 1, hs => cases hs; cases z
      | 2, hs => cases hs; rw [if_neg (fun z => hj z.2)]
      | 3, hs => cases hs; rw [if_neg (fun z => hj z.2)]
      | 4, hs => cases hs; rw [if_neg (fun z => hj z.2)]
      | 5, hs => cases hs; rw [if_neg (fun z => hj z.2)]
      | 6, hs => cases hs; rw [if_neg (fun z => hj z.2)]
      | n + 7, hs => cases hs
    · have h4 := List.all_eq_true.mp hc sp (List.mem_of_getElem? hs)
      simp only [Bool.or_eq_true] at h4
      rcases h4 with h4 | h4
      · have := Nat.beq_eq.mp h4
        omega
      · rw [if_neg (fun z => by rw [z.1] at h4; cases h4)]
  | inr a =>
    rw [he] at h hc
    simp only at h ⊢
    have hsl : slen (cM M j v) j' a = slen M j' a := by
      refine slen_congr (fun hz => ?_)
      have e6 := tvar hen he hz
      rw [e6]
      simp only [Bool.or_eq_true, Bool.and_eq_true] at hc
      rcases hc with hc | hc
      · have e100 := Nat.beq_eq.mp hc
        have hj : j' ≠ j := fun z => h100 ⟨e100, z⟩
        unfold cM
        rw [if_neg (fun z => by omega), if_neg (fun z => hj z.2.1)]
      · exact absurd (Nat.beq_eq.mp hc.1) hz
    unfold sHa at h ⊢
    rw [hsl]
    refine ⟨fun z => ?_, fun z => ?_, fun z => ?_⟩
    · obtain ⟨g, h1, h2⟩ := h.1 z
      exact ⟨g, h1, fun i => by rw [hM]; exact h2 i⟩
    · obtain ⟨g, h1, h2⟩ := h.2.1 z
      exact ⟨g, h1, fun i => by rw [hM]; exact h2 i⟩
    · obtain ⟨g, h1, h2⟩ := h.2.2 z
      refine ⟨g, h1, fun i hi => ?_⟩
      rw [h2 i hi]
      unfold cad
      simp only [Bool.or_eq_true, Bool.and_eq_true] at hc
      rcases hc with hc | hc
      · have e100 := Nat.beq_eq.mp hc
        subst e100
        cases cE100_at.symm.trans hen
        simp only [Sum.inr.injEq] at he
        subst he
        cases z
      · rcases hc.2 with h4 | h4
        · have := Nat.le_of_ble_eq_true h4
          omega
        · rw [if_neg (fun z => by rw [z.1] at h4; cases h4)]
