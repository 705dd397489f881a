/-! steps on cells -/
/-- a word of the table by its place -/
def ztk (i : Nat) : Option Cond := cond (Nat.blt i 116) (k2_sels lw_privs)[i]? (cond (Nat.blt i 356) tables_1_1[i - 116]? (cond (Nat.blt i 596) tables_1_2[i - 356]? (cond (Nat.blt i 836) tables_1_3[i - 596]? (cond (Nat.blt i 1076) tables_1_4[i - 836]? (cond (Nat.blt i 1316) tables_1_5[i - 1076]? (cond (Nat.blt i 1556) tables_1_6[i - 1316]? (cond (Nat.blt i 1796) tables_1_7[i - 1556]? (tables_1_8[i - 1796]?))))))))
theorem ztk_mem {i : Nat} {w : Cond} (h : ztk i = some w) : w ∈ lw_tbl := by
  unfold ztk at h
  unfold lw_tbl
  cases h0 : Nat.blt i 116 with
  | true =>
    rw [h0, cond_true] at h
    exact List.mem_append_left _ (List.mem_of_getElem? h)
  | false =>
    rw [h0, cond_false] at h
    refine List.mem_append_right _ ?_
    unfold tables_1
    cases h1 : Nat.blt i 356 with
    | true =>
      rw [h1, cond_true] at h
      exact List.mem_append_left _ (List.mem_of_getElem? h)
    | false =>
      rw [h1, cond_false] at h
      refine List.mem_append_right _ ?_
      cases h2 : Nat.blt i 596 with
      | true =>
        rw [h2, cond_true] at h
        exact List.mem_append_left _ (List.mem_of_getElem? h)
      | false =>
        rw [h2, cond_false] at h
        refine List.mem_append_right _ ?_
        cases h3 : Nat.blt i 836 with
        | true =>
          rw [h3, cond_true] at h
          exact List.mem_append_left _ (List.mem_of_getElem? h)
        | false =>
          rw [h3, cond_false] at h
          refine List.mem_append_right _ ?_
          cases h4 : Nat.blt i 1076 with
          | true =>
            rw [h4, cond_true] at h
            exact List.mem_append_left _ (List.mem_of_getElem? h)
          | false =>
            rw [h4, cond_false] at h
            refine List.mem_append_right _ ?_
            cases h5 : Nat.blt i 1316 with
            | true =>
              rw [h5, cond_true] at h
              exact List.mem_append_left _ (List.mem_of_getElem? h)
            | false =>
              rw [h5, cond_false] at h
              refine List.mem_append_right _ ?_
              cases h6 : Nat.blt i 1556 with
              | true =>
                rw [h6, cond_true] at h
                exact List.mem_append_left _ (List.mem_of_getElem? h)
              | false =>
                rw [h6, cond_false] at h
                refine List.mem_append_right _ ?_
                cases h7 : Nat.blt i 1796 with
                | true =>
                  rw [h7, cond_true] at h
                  exact List.mem_append_left _ (List.mem_of_getElem? h)
                | false =>
                  rw [h7, cond_false] at h
                  exact List.mem_append_right _ (List.mem_of_getElem? h)
def ztq (i : Nat) (w : Cond) : Bool := match ztk i with
  | some v => decide (v = w)
  | none => false
theorem ztq_ok {i : Nat} {w : Cond} (h : ztq i w = true) : w ∈ lw_tbl := by
  unfold ztq at h
  cases hk : ztk i with
  | none => rw [hk] at h; cases h
  | some v =>
    rw [hk] at h
    rw [← of_decide_eq_true h]
    exact ztk_mem hk
def zin (i : Nat) (w : Cond) : Bool := ztq i w && goodWord w
theorem zin_ok {i : Nat} {w : Cond} (h : zin i w = true) : w ∈ zT := by
  unfold zin at h
  rw [Bool.and_eq_true] at h
  exact List.mem_filter.mpr ⟨ztq_ok h.1, h.2⟩
/-- words that a warm-up may move: links between nest mates; rows over two classes -/
def znst (w : Cond) : Bool := match w with
  | .methodLinkNest _ _ _ _ => true
  | _ => false
def zNl : List Cond := lw_tbl.filter znst
def zinN (i : Nat) (w : Cond) : Bool := ztq i w && znst w
theorem zinN_ok {i : Nat} {w : Cond} (h : zinN i w = true) : w ∈ zNl := by
  unfold zinN at h
  rw [Bool.and_eq_true] at h
  exact List.mem_filter.mpr ⟨ztq_ok h.1, h.2⟩
def zX (U : State) : Prop := (∀ w ∈ zNl, va_Nw w U) ∧ va_AO "NamesUnder$Wall" U ∧ va_AO "NamesUnder$Order" U
theorem zX.warm {s U : State} (hW : s.WarmedH U.vm) (h : zX s) : zX U := by
  refine ⟨fun w hw => ?_, va_AO.moved hW.alike h.2.1, va_AO.moved hW.alike h.2.2⟩
  have h1 := h.1 w hw
  have h2 := (List.mem_filter.mp hw).2
  cases w with
  | methodLinkNest a i x b => exact va_Nw.warmM hW h1
  | _ => cases h2
theorem zX.same {s U : State} (hv : s.vm = U.vm) (h : zX s) : zX U := by
  have ha : s.vm.Alike U.vm := by rw [hv]; exact Vm.Alike.refl _
  refine ⟨fun w hw => ?_, va_AO.moved ha h.2.1, va_AO.moved ha h.2.2⟩
  have h1 := h.1 w hw
  have h2 := (List.mem_filter.mp hw).2
  cases w with
  | methodLinkNest a i x b => exact va_Nw.same rfl hv h1
  | _ => cases h2
def zchk : List Cond → List Nat → Bool
  | [], _ => true
  | w :: ws, i :: is => zin i w && zchk ws is
  | _ :: _, [] => false
theorem zchk_ok {ws : List Cond} : ∀ {is : List Nat}, zchk ws is = true → ∀ w ∈ ws, w ∈ zT := by
  induction ws with
  | nil => exact fun _ w h => absurd h List.not_mem_nil
  | cons v ws ih =>
    intro is h w hw
    cases is with
    | nil => cases h
    | cons i is =>
      have h2 : (zin i v && zchk ws is) = true := h
      rw [Bool.and_eq_true] at h2
      rcases List.mem_cons.mp hw with rfl | h3
      · exact zin_ok h2.1
      · exact ih h2.2 w h3
theorem zra_eq {U : State} {c1 c2 : ClassId} {ty : FieldType} (h1 : va_RA U c1 ty) (h2 : va_RA U c2 ty) : c1 = c2 := by
  cases ty with
  | object C =>
    obtain ⟨_, _, _, _, _, e1⟩ := h1
    obtain ⟨_, _, _, _, _, e2⟩ := h2
    exact Option.some.inj (e1.symm.trans e2)
  | _ => exact Option.some.inj ((show U.vm.findClass _ = some c1 from h1).symm.trans (show U.vm.findClass _ = some c2 from h2))
def zix (a : Int32) (n : Nat) : Bool := decide (0 ≤ a.toInt) && decide (a.toInt < (n : Int))
theorem zix_ok {a : Int32} {n : Nat} (h : zix a n = true) : vp_in a n := by
  unfold zix at h
  rw [Bool.and_eq_true] at h
  exact vp_in_iff.mpr ⟨of_decide_eq_true h.1, of_decide_eq_true h.2⟩
noncomputable def zek {α : Type} (t : Nat) (us : ZL) (j : Nat) (k : Value → α) : α := match zlk us j with
  | some v => k v
  | none => k (zdv t)
theorem zek_eq {α : Type} (t : Nat) (us : ZL) (j : Nat) (k : Value → α) : zek t us j k = k (zel t us j) := by
  unfold zek zel
  cases zlk us j <;> rfl
noncomputable def zup {α : Type} (us : ZL) (j : Nat) (v : Value) (k : ZL → α) : α := zn j (fun j => zfl (zdrop us j) (fun lr => k ((j, v) :: lr)))
theorem zup_eq {α : Type} (us : ZL) (j : Nat) (v : Value) (k : ZL → α) : zup us j v k = k ((j, v) :: zdrop us j) := by
  unfold zup
  rw [zn_eq, zfl_eq]
theorem zobj {ad : List Nat} {g : ZG} {cA : Nat → ClassId} {x : Nat × List Value} {w : va_E} (h : ze ad g cA (.inr x) w) : ∃ gs, w = .inr (x.1, gs) ∧ zvs ad g x.2 gs := h
theorem zarr {ad : List Nat} {g : ZG} {cA : Nat → ClassId} {x : Nat × Nat × ZL} {w : va_E} (h : ze ad g cA (.inl x) w) : ∃ arr, w = .inl (cA x.1, x.2.1, arr) ∧ za ad g x.1 x.2.2 arr := h
def zkd (kd : Nat) (w : Value) : Bool := match kd with
  | 0 => zint w
  | 1 => (match w with
    | .int x => decide (x = 0) || decide (x = 1)
    | _ => false)
  | _ => (match w with
    | .ref _ => true
    | _ => false)
def zkt (kd : Nat) (ty : FieldType) : Bool := match kd, ty with
  | 0, .int => true
  | 1, .boolean => true
  | 2, .object _ => true
  | 2, .array _ => true
  | _, _ => false
theorem zkd_ok {ad : List Nat} {g : ZG} {kd : Nat} {ty : FieldType} {w cw : Value} (h : zkd kd w = true) (ht : zkt kd ty = true) (hv : zv ad g w cw) : narrow ty cw = cw ∧ fits ty cw = true := by
  match kd, h, ht with
  | 0, h, ht =>
    obtain ⟨x, rfl⟩ := zint_ok (show zint w = true from h) hv
    cases ty with
    | int => exact ⟨rfl, rfl⟩
    | _ => cases ht
  | 1, h, ht =>
    cases w with
    | int x =>
      cases (show cw = _ from hv)
      have h2 : (decide (x = 0) || decide (x = 1)) = true := h
      rw [Bool.or_eq_true] at h2
      cases ty with
      | boolean =>
        rcases h2 with h2 | h2
        · cases of_decide_eq_true h2
          exact ⟨rfl, rfl⟩
        · cases of_decide_eq_true h2
          exact ⟨rfl, rfl⟩
      | _ => cases ht
    | _ => cases h
  | 2, h, ht =>
    cases w with
    | ref q =>
      obtain ⟨a, -, rfl⟩ := hv
      cases ty with
      | object C => exact ⟨rfl, rfl⟩
      | array C => exact ⟨rfl, rfl⟩
      | _ => cases ht
    | _ => cases h
  | n + 3, h, ht => simp [zkt] at ht
theorem z13 : (1 : Nat) < 3 := by decide
theorem z23 : (2 : Nat) < 3 := by decide
theorem z34 : (3 : Nat) < 4 := by decide
theorem z35 : (3 : Nat) < 5 := by decide
section ZHP
variable {p : Program} {l : Launch} {e : Env} {R : Room} {s : State} {m : MethodId} {args : Array Value} {below : List Frame} {meth : Method} {c : Code} {Q : State → Prop} {dC : Nat → ClassId} {dI : Nat → Nat → Nat} {cA : Nat → ClassId} {g : ZG} {A : Nat → Prop} {nL : Nat} {cc : ByteArray} {pc : Nat} {lv : ZL} {st : List Value} {hp : List ZE} {nc ns : Nat} {ret : ZRt} {r : ZS} {E : ZN} {own : String}
noncomputable def zx_getf (ci f : Nat) (pc : Nat) (lv : ZL) (st : List Value) (hp : List ZE) (nc ns : Nat) (ret : ZRt) : ZX := match st with
  | v :: st' => zrf hp v (fun _ e => match e with
    | .inr x => cond (Nat.beq x.1 ci) (match zget x.2 f with
      | some w => ret (pc + 3) lv (w :: st') hp nc ns
      | none => zfail) zfail
    | .inl _ => zfail)
  | [] => zfail
theorem zs_getf (hx : p.tables.exec = Jvm.exec) (hb : c.code = cc) (hown : s.vm.findClass own = some m.cls) (hts : ∀ w ∈ zT, w.before args s = true) (hK : va_K (dC, dI) vwCl (ztys cA) s) {idx ci f N : Nat} {C : String} {T : u_T} (hin : ∀ w ∈ u_ws C T N, w ∈ zT) (hc : vwCl[ci]? = some (C, T, N)) (hf : f < N) (hlk : Cond.fieldLink own idx (T f).1 (T f).2.1 (T f).2.2.1 ∈ zT) (hdg : decode cc pc = .ok (.getfield idx, 3)) (h : zx_getf ci f pc lv st hp nc ns ret = .ok r) (Hk : ∀ (pc : Nat) (lv : ZL) (st : List Value) (hp : List ZE) (nc ns : Nat), ret pc lv st hp nc ns = .ok r → zW p l e R s m args below meth c Q dC dI cA g A nL pc lv st hp nc ns) : zW p l e R s m args below meth c Q dC dI cA g A nL pc lv st hp nc ns := by
  match st, h with
  | [], h => cases h
  | v :: st', h =>
    intro ws H locs ls clv cst ⟨r1, r2, r3, r4, r5, r6, r7⟩
    obtain ⟨cv, cr, rfl, h7, h8⟩ := zvs_cons r7
    simp only [zx_getf] at h
    obtain ⟨q, e, a, w, rfl, hq, rfl, hw, hze, h⟩ := zrf_ok r1 h7 h
    cases e with
    | inl x => cases h
    | inr x =>
      simp only at h
      obtain ⟨gs, rfl, hgs⟩ := zobj hze
      cases hb1 : Nat.beq x.1 ci with
      | false => rw [hb1] at h; cases h
      | true =>
        rw [hb1, cond_true, zget_eq] at h
        have e1 := Nat.beq_eq.mp hb1
        cases hv : x.2[f]? with
        | none => simp only [hv] at h; cases h
        | some u =>
          simp only [hv] at h
          obtain ⟨cu, h9, h10⟩ := zvs_get hgs hv
          rw [e1] at hw
          exact va_get hx hb hts hin hown hK r2 q hw hc f hf (hts _ hlk) (fun _ z => z) h9 hdg (Hk _ _ _ _ _ _ h ws H locs ls clv _ ⟨r1, r2, r3, r4, r5, r6, h10, h8⟩)
noncomputable def zx_putf (ci f kd : Nat) (pc : Nat) (lv : ZL) (st : List Value) (hp : List ZE) (nc ns : Nat) (ret : ZRt) : ZX := match st with
  | w :: v :: st' => zrf hp v (fun q e => match e with
    | .inr x => cond (Nat.beq x.1 ci && zkd kd w) (match zget x.2 f with
      | some _ => zsk x.2 w f (fun fs => zsk hp (.inr (ci, fs)) q (fun hp' => ret (pc + 3) lv st' hp' nc ns))
      | none => zfail) zfail
    | .inl _ => zfail)
  | _ => zfail
theorem zx_putf_ok {ci f kd : Nat} {w v : Value} {st' : List Value} {ws : va_W} {cv : Value} (r1 : zh g cA hp ws) (h7 : zv (zad ws) g v cv) (h : zx_putf ci f kd pc lv (w :: v :: st') hp nc ns ret = .ok r) : ∃ (q a : Nat) (fs gs : List Value), cv = .ref a ∧ ws[q]? = some (a, .inr (ci, gs)) ∧ zvs (zad ws) g fs gs ∧ zkd kd w = true ∧ f < gs.length ∧ ret (pc + 3) lv st' (hp.set q (.inr (ci, fs.set f w))) nc ns = .ok r := by
  simp only [zx_putf] at h
  obtain ⟨q, e, a, w2, rfl, hq, rfl, hw, hze, h⟩ := zrf_ok r1 h7 h
  cases e with
  | inl x => cases h
  | inr x =>
    simp only at h
    obtain ⟨gs, rfl, hgs⟩ := zobj hze
    cases hb1 : (Nat.beq x.1 ci && zkd kd w) with
    | false => rw [hb1] at h; cases h
    | true =>
      rw [hb1, cond_true, zget_eq] at h
      rw [Bool.and_eq_true] at hb1
      have e1 := Nat.beq_eq.mp hb1.1
      cases hv : x.2[f]? with
      | none => simp only [hv] at h; cases h
      | some u =>
        simp only [hv] at h
        rw [zsk_eq, zsk_eq] at h
        rw [e1] at hw
        obtain ⟨cu, h9, -⟩ := zvs_get hgs hv
        exact ⟨q, a, x.2, gs, rfl, hw, hgs, hb1.2, (List.getElem?_eq_some_iff.mp h9).1, h⟩
theorem zs_putf (hx : p.tables.exec = Jvm.exec) (hb : c.code = cc) (hown : s.vm.findClass own = some m.cls) (hts : ∀ w ∈ zT, w.before args s = true) (hK : va_K (dC, dI) vwCl (ztys cA) s) {idx ci f kd N : Nat} {C : String} {T : u_T} {ty0 : Nat → FieldType} {ty : FieldType} (hin : ∀ w ∈ u_ws C T N, w ∈ zT) (hty : ∀ k, k < N → parseFieldDescriptor (T k).2.2.1 = some (ty0 k)) (hnm : ∀ a, a < N → ∀ b, b < N → a ≠ b → (T a).2.1 ≠ (T b).2.1) (hc : vwCl[ci]? = some (C, T, N)) (hf : f < N) (hlk : Cond.fieldLink own idx (T f).1 (T f).2.1 (T f).2.2.1 ∈ zT) (hfin : (T f).2.2.2 = false) (hd : parseFieldDescriptor (T f).2.2.1 = some ty) (hkt : zkt kd ty = true) (hdg : decode cc pc = .ok (.putfield idx, 3)) (h : zx_putf ci f kd pc lv st hp nc ns ret = .ok r) (Hk : ∀ (pc : Nat) (lv : ZL) (st : List Value) (hp : List ZE) (nc ns : Nat), ret pc lv st hp nc ns = .ok r → zW p l e R s m args below meth c Q dC dI cA g A nL pc lv st hp nc ns) : zW p l e R s m args below meth c Q dC dI cA g A nL pc lv st hp nc ns := by
  match st, h with
  | [], h => cases h
  | [_], h => cases h
  | w :: v :: st', h =>
    intro ws H locs ls clv cst ⟨r1, r2, r3, r4, r5, r6, r7⟩
    obtain ⟨cw, cr, rfl, h5, h6⟩ := zvs_cons r7
    obtain ⟨cv, cr, rfl, h7, h8⟩ := zvs_cons h6
    obtain ⟨q, a, fs, gs, rfl, hw, hgs, hkd, hlen, h⟩ := zx_putf_ok r1 h7 h
    obtain ⟨hn, hfit⟩ := zkd_ok hkd hkt h5
    refine va_put hx hb hts hin ty0 hty hnm hown hK r2 r3 r4 q hw hc f hf (hts _ hlk) (fun _ z => z) hfin hd hn hfit hlen hdg (fun H1 locs1 p1 p2 p3 => ?_)
    refine Hk _ _ _ _ _ _ h _ H1 locs1 ls clv _ ⟨zh_set r1 hw ⟨gs.set f cw, rfl, zvs_set h5 hgs f⟩, p1, p2, p3, r5, ?_, ?_⟩
    · rw [zad_set hw]; exact r6
    · rw [zad_set hw]; exact h8
theorem zs_putF (hx : p.tables.exec = Jvm.exec) (hb : c.code = cc) (hown : s.vm.findClass own = some m.cls) (hts : ∀ w ∈ zT, w.before args s = true) (hK : va_K (dC, dI) vwCl (ztys cA) s) {idx ci f kd N : Nat} {C : String} {T : u_T} {ty0 : Nat → FieldType} {ty : FieldType} (hin : ∀ w ∈ u_ws C T N, w ∈ zT) (hty : ∀ k, k < N → parseFieldDescriptor (T k).2.2.1 = some (ty0 k)) (hnm : ∀ a, a < N → ∀ b, b < N → a ≠ b → (T a).2.1 ≠ (T b).2.1) (hc : vwCl[ci]? = some (C, T, N)) (hf : f < N) (hlk : Cond.fieldLink own idx (T f).1 (T f).2.1 (T f).2.2.1 ∈ zT) (hfin : (T f).2.2.2 = true) (hi : meth.name = "<init>") (hdecl : (T f).1 = own) (hd : parseFieldDescriptor (T f).2.2.1 = some ty) (hkt : zkt kd ty = true) (hdg : decode cc pc = .ok (.putfield idx, 3)) (h : zx_putf ci f kd pc lv st hp nc ns ret = .ok r) (Hk : ∀ (pc : Nat) (lv : ZL) (st : List Value) (hp : List ZE) (nc ns : Nat), ret pc lv st hp nc ns = .ok r → zW p l e R s m args below meth c Q dC dI cA g A nL pc lv st hp nc ns) : zW p l e R s m args below meth c Q dC dI cA g A nL pc lv st hp nc ns := by
  match st, h with
  | [], h => cases h
  | [_], h => cases h
  | w :: v :: st', h =>
    intro ws H locs ls clv cst ⟨r1, r2, r3, r4, r5, r6, r7⟩
    obtain ⟨cw, cr, rfl, h5, h6⟩ := zvs_cons r7
    obtain ⟨cv, cr, rfl, h7, h8⟩ := zvs_cons h6
    obtain ⟨q, a, fs, gs, rfl, hw, hgs, hkd, hlen, h⟩ := zx_putf_ok r1 h7 h
    obtain ⟨hn, hfit⟩ := zkd_ok hkd hkt h5
    refine va_putF hx hb hts hin ty0 hty hnm hown hK r2 r3 r4 q hw hc f hf (hts _ hlk) (fun _ z => z) hfin hi hdecl hd hn hfit hlen hdg (fun H1 locs1 p1 p2 p3 => ?_)
    refine Hk _ _ _ _ _ _ h _ H1 locs1 ls clv _ ⟨zh_set r1 hw ⟨gs.set f cw, rfl, zvs_set h5 hgs f⟩, p1, p2, p3, r5, ?_, ?_⟩
    · rw [zad_set hw]; exact r6
    · rw [zad_set hw]; exact h8
/-- arrays read -/
noncomputable def zx_ald (E : ZN) (ok : Nat → Bool) (pc : Nat) (lv : ZL) (st : List Value) (hp : List ZE) (nc ns : Nat) (ret : ZRt) : ZX := match st with
  | j :: v :: st' => zrf hp v (fun _ e => match e with
    | .inl x => cond (ok x.1) (zI E j (fun a => cond (zix a x.2.1) (zek x.1 x.2.2 a.toNatClampNeg (fun w => ret (pc + 1) lv (w :: st') hp nc ns)) zfail)) zfail
    | .inr _ => zfail)
  | _ => zfail
theorem zx_ald_ok {ok : Nat → Bool} {j v : Value} {st' : List Value} {ws : va_W} {cj cv : Value} (hE : zen E g) (r1 : zh g cA hp ws) (h5 : zv (zad ws) g j cj) (h7 : zv (zad ws) g v cv) (h : zx_ald E ok pc lv (j :: v :: st') hp nc ns ret = .ok r) : ∃ (q a : Nat) (x : Nat × Nat × ZL) (w : va_E) (i : Int32), cv = .ref a ∧ cj = .int i ∧ ws[q]? = some (a, w) ∧ ze (zad ws) g cA (.inl x) w ∧ ok x.1 = true ∧ vp_in i x.2.1 ∧ ret (pc + 1) lv (zel x.1 x.2.2 i.toNatClampNeg :: st') hp nc ns = .ok r := by
  simp only [zx_ald] at h
  obtain ⟨q, e, a, w2, rfl, hq, rfl, hw, hze, h⟩ := zrf_ok r1 h7 h
  cases e with
  | inr x => cases h
  | inl x =>
    simp only at h
    cases ho : ok x.1 with
    | false => rw [ho] at h; cases h
    | true =>
      rw [ho, cond_true] at h
      obtain ⟨i, rfl, h⟩ := zI_ok hE h5 h
      cases hi : zix i x.2.1 with
      | false => rw [hi] at h; cases h
      | true =>
        rw [hi, cond_true, zek_eq] at h
        exact ⟨q, a, x, w2, i, rfl, rfl, hw, hze, ho, zix_ok hi, h⟩
theorem zs_iald (hx : p.tables.exec = Jvm.exec) (hb : c.code = cc) (hK : va_K (dC, dI) vwCl (ztys cA) s) (hE : zen E g) (hdg : decode cc pc = .ok (.iaload, 1)) (h : zx_ald E (fun t => Nat.beq t 0) pc lv st hp nc ns ret = .ok r) (Hk : ∀ (pc : Nat) (lv : ZL) (st : List Value) (hp : List ZE) (nc ns : Nat), ret pc lv st hp nc ns = .ok r → zW p l e R s m args below meth c Q dC dI cA g A nL pc lv st hp nc ns) : zW p l e R s m args below meth c Q dC dI cA g A nL pc lv st hp nc ns := by
  match st, h with
  | [], h => cases h
  | [_], h => cases h
  | j :: v :: st', h =>
    intro ws H locs ls clv cst ⟨r1, r2, r3, r4, r5, r6, r7⟩
    obtain ⟨cj, cr, rfl, h5, h6⟩ := zvs_cons r7
    obtain ⟨cv, cr, rfl, h7, h8⟩ := zvs_cons h6
    obtain ⟨q, a, ⟨t, n, us⟩, w, i, rfl, rfl, hw, hze, ho, hi, h⟩ := zx_ald_ok hE r1 h5 h7 h
    cases Nat.beq_eq.mp ho
    obtain ⟨arr, rfl, hza⟩ := zarr hze
    obtain ⟨f, rfl, hf⟩ := hza.1 (Nat.succ_pos 2)
    exact va_iald hx hb hK r2 q 0 hw rfl hi hdg (Hk _ _ _ _ _ _ h ws H locs ls clv _ ⟨r1, r2, r3, r4, r5, r6, hf _, h8⟩)
theorem zs_zald (hx : p.tables.exec = Jvm.exec) (hb : c.code = cc) (hK : va_K (dC, dI) vwCl (ztys cA) s) (hE : zen E g) (hdg : decode cc pc = .ok (.baload, 1)) (h : zx_ald E (fun t => Nat.beq t 1) pc lv st hp nc ns ret = .ok r) (Hk : ∀ (pc : Nat) (lv : ZL) (st : List Value) (hp : List ZE) (nc ns : Nat), ret pc lv st hp nc ns = .ok r → zW p l e R s m args below meth c Q dC dI cA g A nL pc lv st hp nc ns) : zW p l e R s m args below meth c Q dC dI cA g A nL pc lv st hp nc ns := by
  match st, h with
  | [], h => cases h
  | [_], h => cases h
  | j :: v :: st', h =>
    intro ws H locs ls clv cst ⟨r1, r2, r3, r4, r5, r6, r7⟩
    obtain ⟨cj, cr, rfl, h5, h6⟩ := zvs_cons r7
    obtain ⟨cv, cr, rfl, h7, h8⟩ := zvs_cons h6
    obtain ⟨q, a, ⟨t, n, us⟩, w, i, rfl, rfl, hw, hze, ho, hi, h⟩ := zx_ald_ok hE r1 h5 h7 h
    cases Nat.beq_eq.mp ho
    obtain ⟨arr, rfl, hza⟩ := zarr hze
    obtain ⟨f, rfl, hf⟩ := hza.1 z13
    exact va_zald hx hb hK r2 q 1 hw rfl hi hdg (Hk _ _ _ _ _ _ h ws H locs ls clv _ ⟨r1, r2, r3, r4, r5, r6, hf _, h8⟩)
theorem zs_cald (hx : p.tables.exec = Jvm.exec) (hb : c.code = cc) (hK : va_K (dC, dI) vwCl (ztys cA) s) (hE : zen E g) (hdg : decode cc pc = .ok (.caload, 1)) (h : zx_ald E (fun t => Nat.beq t 2) pc lv st hp nc ns ret = .ok r) (Hk : ∀ (pc : Nat) (lv : ZL) (st : List Value) (hp : List ZE) (nc ns : Nat), ret pc lv st hp nc ns = .ok r → zW p l e R s m args below meth c Q dC dI cA g A nL pc lv st hp nc ns) : zW p l e R s m args below meth c Q dC dI cA g A nL pc lv st hp nc ns := by
  match st, h with
  | [], h => cases h
  | [_], h => cases h
  | j :: v :: st', h =>
    intro ws H locs ls clv cst ⟨r1, r2, r3, r4, r5, r6, r7⟩
    obtain ⟨cj, cr, rfl, h5, h6⟩ := zvs_cons r7
    obtain ⟨cv, cr, rfl, h7, h8⟩ := zvs_cons h6
    obtain ⟨q, a, ⟨t, n, us⟩, w, i, rfl, rfl, hw, hze, ho, hi, h⟩ := zx_ald_ok hE r1 h5 h7 h
    cases Nat.beq_eq.mp ho
    obtain ⟨arr, rfl, hza⟩ := zarr hze
    obtain ⟨f, rfl, hf⟩ := hza.1 z23
    exact va_cald hx hb hK r2 q 2 hw rfl hi hdg (Hk _ _ _ _ _ _ h ws H locs ls clv _ ⟨r1, r2, r3, r4, r5, r6, hf _, h8⟩)
theorem zs_lald (hx : p.tables.exec = Jvm.exec) (hb : c.code = cc) (hK : va_K (dC, dI) vwCl (ztys cA) s) (hE : zen E g) (hdg : decode cc pc = .ok (.laload, 1)) (h : zx_ald E (fun t => Nat.beq t 3) pc lv st hp nc ns ret = .ok r) (Hk : ∀ (pc : Nat) (lv : ZL) (st : List Value) (hp : List ZE) (nc ns : Nat), ret pc lv st hp nc ns = .ok r → zW p l e R s m args below meth c Q dC dI cA g A nL pc lv st hp nc ns) : zW p l e R s m args below meth c Q dC dI cA g A nL pc lv st hp nc ns := by
  match st, h with
  | [], h => cases h
  | [_], h => cases h
  | j :: v :: st', h =>
    intro ws H locs ls clv cst ⟨r1, r2, r3, r4, r5, r6, r7⟩
    obtain ⟨cj, cr, rfl, h5, h6⟩ := zvs_cons r7
    obtain ⟨cv, cr, rfl, h7, h8⟩ := zvs_cons h6
    obtain ⟨q, a, ⟨t, n, us⟩, w, i, rfl, rfl, hw, hze, ho, hi, h⟩ := zx_ald_ok hE r1 h5 h7 h
    cases Nat.beq_eq.mp ho
    obtain ⟨arr, rfl, hza⟩ := zarr hze
    obtain ⟨f, rfl, hf⟩ := hza.2.1 rfl
    refine va_lald hx hb hK r2 q 3 hw rfl hi hdg (Hk _ _ _ _ _ _ h ws H locs ls clv _ ⟨r1, r2, r3, r4, r5, r6, ?_, h8⟩)
    rw [hf i.toNatClampNeg]
    rfl
theorem zs_aald (hx : p.tables.exec = Jvm.exec) (hb : c.code = cc) (hK : va_K (dC, dI) vwCl (ztys cA) s) (hE : zen E g) (hdg : decode cc pc = .ok (.aaload, 1)) (h : zx_ald E (fun t => Nat.beq t 4 || Nat.beq t 5) pc lv st hp nc ns ret = .ok r) (Hk : ∀ (pc : Nat) (lv : ZL) (st : List Value) (hp : List ZE) (nc ns : Nat), ret pc lv st hp nc ns = .ok r → zW p l e R s m args below meth c Q dC dI cA g A nL pc lv st hp nc ns) : zW p l e R s m args below meth c Q dC dI cA g A nL pc lv st hp nc ns := by
  match st, h with
  | [], h => cases h
  | [_], h => cases h
  | j :: v :: st', h =>
    intro ws H locs ls clv cst ⟨r1, r2, r3, r4, r5, r6, r7⟩
    obtain ⟨cj, cr, rfl, h5, h6⟩ := zvs_cons r7
    obtain ⟨cv, cr, rfl, h7, h8⟩ := zvs_cons h6
    obtain ⟨q, a, ⟨t, n, us⟩, w, i, rfl, rfl, hw, hze, ho, hi, h⟩ := zx_ald_ok hE r1 h5 h7 h
    obtain ⟨arr, rfl, hza⟩ := zarr hze
    rw [Bool.or_eq_true] at ho
    rcases ho with ho | ho
    · cases Nat.beq_eq.mp ho
      obtain ⟨f, rfl, hf⟩ := hza.2.2 z34
      exact va_aldq hx hb hK r2 q 4 hw rfl hi hdg (Hk _ _ _ _ _ _ h ws H locs ls clv _ ⟨r1, r2, r3, r4, r5, r6, hf _, h8⟩)
    · cases Nat.beq_eq.mp ho
      obtain ⟨f, rfl, hf⟩ := hza.2.2 z35
      exact va_aldq hx hb hK r2 q 5 hw rfl hi hdg (Hk _ _ _ _ _ _ h ws H locs ls clv _ ⟨r1, r2, r3, r4, r5, r6, hf _, h8⟩)
/-- arrays written: 'f' says whether the value may be, and what is kept of it -/
noncomputable def zx_ast (E : ZN) (t0 : Nat) (f : Value → (Value → ZX) → ZX) (pc : Nat) (lv : ZL) (st : List Value) (hp : List ZE) (nc ns : Nat) (ret : ZRt) : ZX := match st with
  | x :: j :: v :: st' => f x (fun x => zrf hp v (fun q e => match e with
    | .inl y => cond (Nat.beq y.1 t0) (zI E j (fun a => cond (zix a y.2.1) (zup y.2.2 a.toNatClampNeg x (fun us => zsk hp (.inl (t0, y.2.1, us)) q (fun hp' => ret (pc + 1) lv st' hp' nc ns))) zfail)) zfail
    | .inr _ => zfail))
  | _ => zfail
theorem zx_ast_ok {t0 : Nat} {x j v : Value} {st' : List Value} {ws : va_W} {cj cv : Value} (hE : zen E g) (r1 : zh g cA hp ws) (h5 : zv (zad ws) g j cj) (h7 : zv (zad ws) g v cv)
    (h : zrf hp v (fun q e => match e with
    | .inl y => cond (Nat.beq y.1 t0) (zI E j (fun a => cond (zix a y.2.1) (zup y.2.2 a.toNatClampNeg x (fun us => zsk hp (.inl (t0, y.2.1, us)) q (fun hp' => ret (pc + 1) lv st' hp' nc ns))) zfail)) zfail
    | .inr _ => zfail) = .ok r) : ∃ (q a n : Nat) (us : ZL) (w : va_E) (i : Int32), cv = .ref a ∧ cj = .int i ∧ ws[q]? = some (a, w) ∧ ze (zad ws) g cA (.inl (t0, n, us)) w ∧ vp_in i n ∧ ret (pc + 1) lv st' (hp.set q (.inl (t0, n, (i.toNatClampNeg, x) :: zdrop us i.toNatClampNeg))) nc ns = .ok r := by
  obtain ⟨q, e, a, w2, rfl, hq, rfl, hw, hze, h⟩ := zrf_ok r1 h7 h
  cases e with
  | inr x => cases h
  | inl y =>
    obtain ⟨t, n, us⟩ := y
    simp only at h
    cases ho : Nat.beq t t0 with
    | false => rw [ho] at h; cases h
    | true =>
      cases Nat.beq_eq.mp ho
      rw [ho, cond_true] at h
      obtain ⟨i, rfl, h⟩ := zI_ok hE h5 h
      cases hi : zix i n with
      | false => rw [hi] at h; cases h
      | true =>
        rw [hi, cond_true, zup_eq, zsk_eq] at h
        exact ⟨q, a, n, us, w2, i, rfl, rfl, hw, hze, zix_ok hi, h⟩
noncomputable def zfi (v : Value) (k : Value → ZX) : ZX := cond (zint v) (k v) zfail
theorem zs_iast (hx : p.tables.exec = Jvm.exec) (hb : c.code = cc) (hK : va_K (dC, dI) vwCl (ztys cA) s) (hE : zen E g) (hdg : decode cc pc = .ok (.iastore, 1)) (h : zx_ast E 0 zfi pc lv st hp nc ns ret = .ok r) (Hk : ∀ (pc : Nat) (lv : ZL) (st : List Value) (hp : List ZE) (nc ns : Nat), ret pc lv st hp nc ns = .ok r → zW p l e R s m args below meth c Q dC dI cA g A nL pc lv st hp nc ns) : zW p l e R s m args below meth c Q dC dI cA g A nL pc lv st hp nc ns := by
  match st, h with
  | [], h => cases h
  | [_], h => cases h
  | [_, _], h => cases h
  | x :: j :: v :: st', h =>
    intro ws H locs ls clv cst ⟨r1, r2, r3, r4, r5, r6, r7⟩
    obtain ⟨cx, cr, rfl, h3, h4⟩ := zvs_cons r7
    obtain ⟨cj, cr, rfl, h5, h6⟩ := zvs_cons h4
    obtain ⟨cv, cr, rfl, h7, h8⟩ := zvs_cons h6
    simp only [zx_ast, zfi] at h
    cases hz : zint x with
    | false => rw [hz] at h; cases h
    | true =>
      rw [hz, cond_true] at h
      obtain ⟨y, rfl⟩ := zint_ok hz h3
      obtain ⟨q, a, n, us, w, i, rfl, rfl, hw, hze, hi, h⟩ := zx_ast_ok hE r1 h5 h7 h
      obtain ⟨arr, rfl, hza⟩ := zarr hze
      obtain ⟨f, rfl, hf⟩ := hza.1 (Nat.succ_pos 2)
      refine va_iast hx hb hK r2 r3 r4 q 0 hw rfl hi hdg (fun H1 locs1 p1 p2 p3 => ?_)
      refine Hk _ _ _ _ _ _ h _ H1 locs1 ls clv _ ⟨zh_set r1 hw ⟨_, rfl, za_putI (Nat.succ_pos 2) hf h3⟩, p1, p2, p3, r5, ?_, ?_⟩
      · rw [zad_set hw]; exact r6
      · rw [zad_set hw]; exact h8
noncomputable def zfz (E : ZN) (v : Value) (k : Value → ZX) : ZX := zI E v (fun x => zi (vp_nar .boolean x) (fun y => k (.int y)))
theorem zs_zast (hx : p.tables.exec = Jvm.exec) (hb : c.code = cc) (hK : va_K (dC, dI) vwCl (ztys cA) s) (hE : zen E g) (hdg : decode cc pc = .ok (.bastore, 1)) (h : zx_ast E 1 (zfz E) pc lv st hp nc ns ret = .ok r) (Hk : ∀ (pc : Nat) (lv : ZL) (st : List Value) (hp : List ZE) (nc ns : Nat), ret pc lv st hp nc ns = .ok r → zW p l e R s m args below meth c Q dC dI cA g A nL pc lv st hp nc ns) : zW p l e R s m args below meth c Q dC dI cA g A nL pc lv st hp nc ns := by
  match st, h with
  | [], h => cases h
  | [_], h => cases h
  | [_, _], h => cases h
  | x :: j :: v :: st', h =>
    intro ws H locs ls clv cst ⟨r1, r2, r3, r4, r5, r6, r7⟩
    obtain ⟨cx, cr, rfl, h3, h4⟩ := zvs_cons r7
    obtain ⟨cj, cr, rfl, h5, h6⟩ := zvs_cons h4
    obtain ⟨cv, cr, rfl, h7, h8⟩ := zvs_cons h6
    simp only [zx_ast, zfz] at h
    obtain ⟨y, rfl, h⟩ := zI_ok hE h3 h
    rw [zi_eq] at h
    obtain ⟨q, a, n, us, w, i, rfl, rfl, hw, hze, hi, h⟩ := zx_ast_ok hE r1 h5 h7 h
    obtain ⟨arr, rfl, hza⟩ := zarr hze
    obtain ⟨f, rfl, hf⟩ := hza.1 z13
    refine va_zast hx hb hK r2 r3 r4 q 1 hw rfl hi hdg (fun H1 locs1 p1 p2 p3 => ?_)
    refine Hk _ _ _ _ _ _ h _ H1 locs1 ls clv _ ⟨zh_set r1 hw ⟨_, rfl, za_putI z13 hf rfl⟩, p1, p2, p3, r5, ?_, ?_⟩
    · rw [zad_set hw]; exact r6
    · rw [zad_set hw]; exact h8
noncomputable def zfL (v : Value) (k : Value → ZX) : ZX := match v with
  | .long x => k (.long x)
  | _ => zfail
theorem zs_last (hx : p.tables.exec = Jvm.exec) (hb : c.code = cc) (hK : va_K (dC, dI) vwCl (ztys cA) s) (hE : zen E g) (hdg : decode cc pc = .ok (.lastore, 1)) (h : zx_ast E 3 zfL pc lv st hp nc ns ret = .ok r) (Hk : ∀ (pc : Nat) (lv : ZL) (st : List Value) (hp : List ZE) (nc ns : Nat), ret pc lv st hp nc ns = .ok r → zW p l e R s m args below meth c Q dC dI cA g A nL pc lv st hp nc ns) : zW p l e R s m args below meth c Q dC dI cA g A nL pc lv st hp nc ns := by
  match st, h with
  | [], h => cases h
  | [_], h => cases h
  | [_, _], h => cases h
  | x :: j :: v :: st', h =>
    intro ws H locs ls clv cst ⟨r1, r2, r3, r4, r5, r6, r7⟩
    obtain ⟨cx, cr, rfl, h3, h4⟩ := zvs_cons r7
    obtain ⟨cj, cr, rfl, h5, h6⟩ := zvs_cons h4
    obtain ⟨cv, cr, rfl, h7, h8⟩ := zvs_cons h6
    simp only [zx_ast] at h
    cases x with
    | long y =>
      cases (show cx = _ from h3)
      simp only [zfL] at h
      obtain ⟨q, a, n, us, w, i, rfl, rfl, hw, hze, hi, h⟩ := zx_ast_ok hE r1 h5 h7 h
      obtain ⟨arr, rfl, hza⟩ := zarr hze
      obtain ⟨f, rfl, hf⟩ := hza.2.1 rfl
      refine va_last hx hb hK r2 r3 r4 q 3 hw rfl hi hdg (fun H1 locs1 p1 p2 p3 => ?_)
      refine Hk _ _ _ _ _ _ h _ H1 locs1 ls clv _ ⟨zh_set r1 hw ⟨_, rfl, za_putL hf⟩, p1, p2, p3, r5, ?_, ?_⟩
      · rw [zad_set hw]; exact r6
      · rw [zad_set hw]; exact h8
    | _ => cases h
/-- an object into a row of objects: 4 is a row of Wall (class 7), 5 of Order (class 2) -/
noncomputable def zfo (hp : List ZE) (ci : Nat) (v : Value) (k : Value → ZX) : ZX := zrf hp v (fun q e => match e with
  | .inr x => cond (Nat.beq x.1 ci) (k (.ref q)) zfail
  | .inl _ => zfail)
theorem zs_aast (hx : p.tables.exec = Jvm.exec) (hb : c.code = cc) (hK : va_K (dC, dI) vwCl (ztys cA) s) (hE : zen E g) {t ci : Nat} (hw0 : t = 4 ∧ ci = 7 ∨ t = 5 ∧ ci = 2) (hdg : decode cc pc = .ok (.aastore, 1)) (h : zx_ast E t (zfo hp ci) pc lv st hp nc ns ret = .ok r) (Hk : ∀ (pc : Nat) (lv : ZL) (st : List Value) (hp : List ZE) (nc ns : Nat), ret pc lv st hp nc ns = .ok r → zW p l e R s m args below meth c Q dC dI cA g A nL pc lv st hp nc ns) : zW p l e R s m args below meth c Q dC dI cA g A nL pc lv st hp nc ns := by
  match st, h with
  | [], h => cases h
  | [_], h => cases h
  | [_, _], h => cases h
  | x :: j :: v :: st', h =>
    intro ws H locs ls clv cst ⟨r1, r2, r3, r4, r5, r6, r7⟩
    obtain ⟨cx, cr, rfl, h3, h4⟩ := zvs_cons r7
    obtain ⟨cj, cr, rfl, h5, h6⟩ := zvs_cons h4
    obtain ⟨cv, cr, rfl, h7, h8⟩ := zvs_cons h6
    simp only [zx_ast, zfo] at h
    obtain ⟨q2, e2, a2, w2, rfl, hq2, rfl, hw2, hze2, h⟩ := zrf_ok r1 h3 h
    cases e2 with
    | inl y => cases h
    | inr y =>
      simp only at h
      obtain ⟨gs, rfl, -⟩ := zobj hze2
      cases hb1 : Nat.beq y.1 ci with
      | false => rw [hb1] at h; cases h
      | true =>
        rw [hb1, cond_true] at h
        have e1 := Nat.beq_eq.mp hb1
        rw [e1] at hw2
        obtain ⟨q, a, n, us, w, i, rfl, rfl, hw, hze, hi, hz9⟩ := zx_ast_ok hE r1 h5 h7 h
        obtain ⟨arr, rfl, hza⟩ := zarr hze
        rcases hw0 with ⟨rfl, rfl⟩ | ⟨rfl, rfl⟩
        · obtain ⟨f, rfl, hf⟩ := hza.2.2 z34
          refine va_astq hx hb hK r2 r3 r4 q 4 q2 7 (r := (RX8, TX8, 11)) hw rfl hw2 rfl hi hdg (fun H1 locs1 p1 p2 p3 => ?_)
          refine Hk _ _ _ _ _ _ hz9 _ H1 locs1 ls clv _ ⟨zh_set r1 hw ⟨_, rfl, za_putR z34 hf h3⟩, p1, p2, p3, r5, ?_, ?_⟩
          · rw [zad_set hw]; exact r6
          · rw [zad_set hw]; exact h8
        · obtain ⟨f, rfl, hf⟩ := hza.2.2 z35
          refine va_astq hx hb hK r2 r3 r4 q 5 q2 2 (r := (RX3, TX3, 7)) hw rfl hw2 rfl hi hdg (fun H1 locs1 p1 p2 p3 => ?_)
          refine Hk _ _ _ _ _ _ hz9 _ H1 locs1 ls clv _ ⟨zh_set r1 hw ⟨_, rfl, za_putR z35 hf h3⟩, p1, p2, p3, r5, ?_, ?_⟩
          · rw [zad_set hw]; exact r6
          · rw [zad_set hw]; exact h8
noncomputable def zx_alen (pc : Nat) (lv : ZL) (st : List Value) (hp : List ZE) (nc ns : Nat) (ret : ZRt) : ZX := match st with
  | v :: st' => zrf hp v (fun _ e => match e with
    | .inl x => cond (Nat.blt x.1 6) (zi (Int32.ofNat x.2.1) (fun n => ret (pc + 1) lv (.int n :: st') hp nc ns)) zfail
    | .inr _ => zfail)
  | _ => zfail
theorem zs_alen (hx : p.tables.exec = Jvm.exec) (hb : c.code = cc) (hK : va_K (dC, dI) vwCl (ztys cA) s) (hdg : decode cc pc = .ok (.arraylength, 1)) (h : zx_alen pc lv st hp nc ns ret = .ok r) (Hk : ∀ (pc : Nat) (lv : ZL) (st : List Value) (hp : List ZE) (nc ns : Nat), ret pc lv st hp nc ns = .ok r → zW p l e R s m args below meth c Q dC dI cA g A nL pc lv st hp nc ns) : zW p l e R s m args below meth c Q dC dI cA g A nL pc lv st hp nc ns := by
  match st, h with
  | [], h => cases h
  | v :: st', h =>
    intro ws H locs ls clv cst ⟨r1, r2, r3, r4, r5, r6, r7⟩
    obtain ⟨cv, cr, rfl, h7, h8⟩ := zvs_cons r7
    simp only [zx_alen] at h
    obtain ⟨q, e, a, w2, rfl, hq, rfl, hw, hze, h⟩ := zrf_ok r1 h7 h
    cases e with
    | inr x => cases h
    | inl x =>
      simp only at h
      obtain ⟨arr, rfl, hza⟩ := zarr hze
      cases hb1 : Nat.blt x.1 6 with
      | false => rw [hb1] at h; cases h
      | true =>
        rw [hb1, cond_true, zi_eq] at h
        exact va_alen hx hb hK r2 q x.1 hw (ztys_at cA (zblt hb1)) rfl hdg (Hk _ _ _ _ _ _ h ws H locs ls clv _ ⟨r1, r2, r3, r4, r5, r6, rfl, h8⟩)
end ZHP
