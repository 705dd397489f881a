/-! the run to cuts and returns; a method's contract from its list -/
def cvbeq (a b : SV) : Bool := Nat.beq a.1 b.1 && (Nat.beq a.2.1 b.2.1 && sbeq a.2.2 b.2.2)
theorem cvbeq_ok {a b : SV} (h : cvbeq a b = true) : a = b := by
  simp only [cvbeq, Bool.and_eq_true] at h
  exact Prod.ext (Nat.beq_eq.mp h.1) (Prod.ext (Nat.beq_eq.mp h.2.1) (sbeq_ok h.2.2))
def clq {α : Type} (f : α → α → Bool) : List α → List α → Bool
  | [], [] => true
  | a :: r, b :: q => cond (f a b) (clq f r q) false
  | _, _ => false
theorem clq_ok {α : Type} {f : α → α → Bool} (hf : ∀ a b, f a b = true → a = b) : ∀ {a b : List α}, clq f a b = true → a = b := by
  intro a
  induction a with
  | nil =>
    intro b h
    cases b with
    | nil => rfl
    | cons _ _ => cases h
  | cons x a ih =>
    intro b h
    cases b with
    | nil => cases h
    | cons y b =>
      unfold clq at h
      obtain ⟨h1, h2⟩ := bcond h
      rw [hf x y h1, ih h2]
def cnbeq (a b : CN) : Bool := Nat.beq a.1 b.1 && (Nat.beq a.2.1 b.2.1 && (Nat.beq a.2.2.1 b.2.2.1 && clq cvbeq a.2.2.2 b.2.2.2))
theorem cnbeq_ok (a b : CN) (h : cnbeq a b = true) : a = b := by
  simp only [cnbeq, Bool.and_eq_true] at h
  exact Prod.ext (Nat.beq_eq.mp h.1) (Prod.ext (Nat.beq_eq.mp h.2.1) (Prod.ext (Nat.beq_eq.mp h.2.2.1) (clq_ok (fun _ _ => cvbeq_ok) h.2.2.2)))
abbrev CSg : Type := Nat × SL × Nat × List CN
def cuts (sg : List CSg) : List (Nat × SL) := sg.map (fun q => (q.1, q.2.1))
theorem cfind_mem {pc : Nat} {T : SL} : ∀ {sg : List CSg}, cfind pc (cuts sg) = some T → ∃ q ∈ sg, q.1 = pc ∧ q.2.1 = T := by
  intro sg
  induction sg with
  | nil => intro h; cases h
  | cons a r ih =>
    intro h
    have h : cond (Nat.beq a.1 pc) (some a.2.1) (cfind pc (cuts r)) = some T := h
    cases hb : Nat.beq a.1 pc with
    | true =>
      rw [hb, cond_true] at h
      cases h
      exact ⟨a, List.mem_cons_self, Nat.beq_eq.mp hb, rfl⟩
    | false =>
      rw [hb, cond_false] at h
      obtain ⟨q, h1, h2⟩ := ih h
      exact ⟨q, List.mem_cons_of_mem _ h1, h2⟩
def cuniq : List CSg → Bool
  | [] => true
  | a :: r => cond (sall (fun b => !(Nat.beq a.1 b.1)) r) (cuniq r) false
theorem cuniq_ok : ∀ {sg : List CSg}, cuniq sg = true → ∀ a ∈ sg, ∀ b ∈ sg, a.1 = b.1 → a = b := by
  intro sg
  induction sg with
  | nil => intro _ a ha; cases ha
  | cons x r ih =>
    intro h a ha b hb e
    unfold cuniq at h
    obtain ⟨h1, h2⟩ := bcond h
    rcases List.mem_cons.mp ha with rfl | ha1
    · rcases List.mem_cons.mp hb with rfl | hb
      · rfl
      · have := sall_ok h1 b hb
        rw [Nat.beq_eq.mpr e] at this
        cases this
    · rcases List.mem_cons.mp hb with rfl | hb
      · have := sall_ok h1 a ha1
        rw [Nat.beq_eq.mpr e.symm] at this
        cases this
      · exact ih h2 a ha1 b hb e
/-- the list of each place of the method is its own -/
noncomputable def cchk1 (zm : List ZMe) (zc : List (List ZI)) (fm : List SF) (cu : List (Nat × SL)) (k f : Nat) (q : CSg) : Bool := match cstp zm zc fm cu true k (cgo zm zc fm cu k f) q.2.2.1 q.1 q.2.1 [] with
  | some L => clq cnbeq L q.2.2.2
  | none => false
noncomputable def cchk (zm : List ZMe) (zc : List (List ZI)) (fm : List SF) (k f : Nat) (sg : List CSg) : Bool := cuniq sg && sall (cchk1 zm zc fm (cuts sg) k f) sg
section CGO
variable {p : Program} {l : Launch} {e : Env} {R : Room} {s : State} {m : MethodId} {args : Array Value} {below : List Frame} {meth : Method} {c : Code} {Q : State → Prop} {dC : Nat → ClassId} {dI : Nat → Nat → Nat} {cA : Nat → ClassId} {A : Nat → Prop} {nL : Nat} {fm : List SF} {scr : Nat} {ad : SAd} {nc ns : Nat} {E : Nat → List CA → SMem → (List Int → SMem → Prop) → Prop} {Qr : List Int → SMem → Prop} {C : Nat → List Int → SMem → Prop} {Sx : SMem → Prop} {cc : ByteArray} {own : String} {n pc : Nat} {lv : SL} {st : List SV} {L : List CN} {ret : CRt}
variable {EX : SEx} {zm : List ZMe} {zc : List (List ZI)} {d scrS k : Nat} {me : ZMe} {cu : List (Nat × SL)}
theorem cstp_ok (hEX : sEXok EX) (hI : sInj fm) (hk9 : sfmok fm) (hcl : ∀ (ci : Nat) (C : String) (T : u_T) (N : Nat), vwCl[ci]? = some (C, T, N) → (∀ w ∈ u_ws C T N, w ∈ zT) ∧ ∃ ty0 : Nat → FieldType, (∀ k, k < N → parseFieldDescriptor (T k).2.2.1 = some (ty0 k)) ∧ ∀ a, a < N → ∀ b, b < N → a ≠ b → (T a).2.1 ≠ (T b).2.1) (htab : sTab zm zc) (hSx : ∀ (M : SMem) (f j i : Nat) (z : Int), f < fm.length → Sx M → Sx (supd M f j i z)) (hSxE : ∀ kc as M post, E kc as M post → Sx M → ∀ rr M', post rr M' → Sx M') (hE : ∀ kc as M post, E kc as M post → cBG zm fm EX l dC dI cA ad scrS d kc as M post) (F : sF (d + 1) me EX p R s m args c dC dI cA A) (hme : zm[k]? = some me) (hnL : nL = me.2.2.2.1) (hnc : nc ≤ R.cells) (hns : ns ≤ R.slots)
    (hscr : k = 0 → ∃ (Ln : Nat) (xv : Nat → Int32), va_X scr Ln xv s s.heap ∧ scr < s.heap.size ∧ ¬ A scr ∧ ∀ M, Sx M → M 108 0 0 = (Ln : Int) ∧ ∀ j, j < Ln → M 107 0 j = (xv j).toInt)
    (hC : ∀ (pc : Nat) (T : SL), cfind pc cu = some T → ∀ (v : List Int) (M : SMem) (ws : va_W) (H : Heap) (locs : List Loc) (ls : Array Slot) (clv : ZL), Sx M → sH fm ad M cA ws → va_P (dC, dI) vwCl ws H → va_D A ws → va_S A s.heap H locs → lv_has ls nL clv → sls fm scr (cen v) ad T clv → C pc v M → W p l e R s m args below meth c H locs nc ns Q (F0 m pc ls []))
    (hRt : ∀ (pc : Nat) (r : List Value) (rr : List Int) (M : SMem) (ws : va_W) (H : Heap) (locs : List Loc) (ls : Array Slot), sret me pc r → (∃ xs : List Int32, r = xs.map Value.int ∧ xs.map Int32.toInt = rr) → Qr rr M → Sx M → sH fm ad M cA ws → va_P (dC, dI) vwCl ws H → va_D A ws → va_S A s.heap H locs → W p l e R s m args below meth c H locs nc ns Q (F0 m pc ls r))
    {fst : Bool} {rec9 : CRt} (Hk : ∀ (n pc : Nat) (lv : SL) (st : List SV) (L : List CN), rec9 n pc lv st = some L → cG p l e R s m args below meth c Q dC dI cA A nL fm scr ad nc ns E Qr C Sx n pc lv st L) (h : cstp zm zc fm cu fst k rec9 n pc lv st = some L) : cG p l e R s m args below meth c Q dC dI cA A nL fm scr ad nc ns E Qr C Sx n pc lv st L := by
  unfold cstp at h
  cases hf : cond fst none (cfind pc cu) with
  | some T =>
    rw [hf] at h
    have hfd : cfind pc cu = some T := by
      cases fst with
      | true => cases hf
      | false => exact hf
    match st, h with
    | _ :: _, h => cases h
    | [], h =>
      simp only at h
      cases hm : cutm lv T 0 with
      | none => rw [hm] at h; cases h
      | some es =>
        rw [hm] at h
        cases h
        intro fd v M ws H locs ls clv cst hv hX hH hP hD hS hl q6 q7 hd
        obtain ⟨fd', rfl, v', rfl, hd⟩ := cden_s hd
        cases svs_nil q7
        obtain ⟨clvT, h1, h2⟩ := cutm_ok q6 hl hm [] rfl
        exact hC pc T hfd _ M ws H locs ls clvT hX hH hP hD hS h2 h1 hd
  | none =>
    rw [hf] at h
    simp only [zget_eq, hme] at h
    cases ht : zc[k]? with
    | none => rw [ht] at h; cases h
    | some tb =>
      rw [ht] at h
      simp only at h
      cases hz : zft tb pc with
      | none =>
        rw [hz] at h
        cases h
        intro fd v M ws H locs ls clv cst hv hX hH hP hD hS hl q6 q7 hd
        cases fd <;> exact hd.elim
      | some q =>
        rw [hz] at h
        simp only at h
        cases hs : zstop me.2.2.2.2.1 q.2.1 with
        | true =>
          rw [hs, cond_true] at h
          have hrp : srp zc k me.2.2.2.2.1 pc = true := by
            unfold srp
            rw [zget_eq, ht]
            simp only
            rw [hz]
            exact hs
          have hret := srp_ok htab hme hrp
          unfold srd at hret
          intro fd v M ws H locs ls clv cst hv hX hH hP hD hS hl q6 q7 hd
          cases hrt : me.2.2.2.2.1 with
          | none =>
            rw [hrt] at h hret
            match st, h with
            | [], h =>
              cases h
              obtain ⟨fd', rfl, v', rfl, h1, h2⟩ := cden_s hd
              cases svs_nil q7
              refine hRt pc [] [] M ws H locs ls ?_ ⟨[], rfl, rfl⟩ h2 hX hH hP hD hS
              unfold sret
              rw [hrt]
              exact ⟨hret, rfl⟩
            | _ :: _, h => cases h
          | some ty =>
            rw [hrt] at h hret
            match st, h with
            | [], h => cases h
            | _ :: _ :: _, h => cases h
            | [x], h =>
              obtain ⟨h0, h⟩ := ccond h
              cases hk : crk (some ty) with
              | none => rw [hk] at h; cases h
              | some kk =>
                rw [hk] at h
                cases h
                obtain ⟨fd', rfl, v', rfl, h1, h2⟩ := cden_s hd
                obtain ⟨cv, cr, rfl, h5, h6⟩ := svs_cons q7
                cases svs_nil h6
                obtain ⟨y, rfl, ey⟩ := sv_int h0 h5
                refine hRt pc [.int y] _ M ws H locs ls ?_ ⟨[y], rfl, by show [y.toInt] = [cE2 v x]; rw [ey]; rfl⟩ h2 hX hH hP hD hS
                unfold sret
                rw [hrt]
                refine ⟨hret, y, rfl, ?_⟩
                have h3 : clo kk ≤ cE2 v x ∧ cE2 v x ≤ chi kk := h1 (cE2 v x) List.mem_cons_self
                rw [show cE2 v x = y.toInt from ey.symm] at h3
                cases ty with
                | int => rfl
                | boolean =>
                  have ek : kk = 1 := by cases hk; rfl
                  subst ek
                  have h3 : 0 ≤ y.toInt ∧ y.toInt ≤ 1 := h3
                  have h6 : y = 0 ∨ y = 1 := by
                    by_cases h : y.toInt = 0
                    · exact Or.inl (Int32.toInt_inj.mp h)
                    · exact Or.inr (Int32.toInt_inj.mp (show y.toInt = 1 by omega))
                  rcases h6 with rfl | rfl <;> rfl
                | _ => cases hk
        | false =>
          rw [hs, cond_false] at h
          obtain ⟨f1, f2⟩ := zft_ok hz
          have hq := htab k me tb hme ht q f1
          unfold sok at hq
          simp only [Bool.and_eq_true] at hq
          have hdec := of_decide_eq_true hq.1
          rw [f2] at hdec
          rw [← hnL] at h
          exact cxi_sound (ret := rec9) hEX hI hk9 hcl hSx hSxE hE F hnL hnc hns hscr hdec hq.2.1 hq.2.2.1 hq.2.2.2 h Hk
theorem cgo_ok (hEX : sEXok EX) (hI : sInj fm) (hk9 : sfmok fm) (hcl : ∀ (ci : Nat) (C : String) (T : u_T) (N : Nat), vwCl[ci]? = some (C, T, N) → (∀ w ∈ u_ws C T N, w ∈ zT) ∧ ∃ ty0 : Nat → FieldType, (∀ k, k < N → parseFieldDescriptor (T k).2.2.1 = some (ty0 k)) ∧ ∀ a, a < N → ∀ b, b < N → a ≠ b → (T a).2.1 ≠ (T b).2.1) (htab : sTab zm zc) (hSx : ∀ (M : SMem) (f j i : Nat) (z : Int), f < fm.length → Sx M → Sx (supd M f j i z)) (hSxE : ∀ kc as M post, E kc as M post → Sx M → ∀ rr M', post rr M' → Sx M') (hE : ∀ kc as M post, E kc as M post → cBG zm fm EX l dC dI cA ad scrS d kc as M post) (F : sF (d + 1) me EX p R s m args c dC dI cA A) (hme : zm[k]? = some me) (hnL : nL = me.2.2.2.1) (hnc : nc ≤ R.cells) (hns : ns ≤ R.slots)
    (hscr : k = 0 → ∃ (Ln : Nat) (xv : Nat → Int32), va_X scr Ln xv s s.heap ∧ scr < s.heap.size ∧ ¬ A scr ∧ ∀ M, Sx M → M 108 0 0 = (Ln : Int) ∧ ∀ j, j < Ln → M 107 0 j = (xv j).toInt)
    (hC : ∀ (pc : Nat) (T : SL), cfind pc cu = some T → ∀ (v : List Int) (M : SMem) (ws : va_W) (H : Heap) (locs : List Loc) (ls : Array Slot) (clv : ZL), Sx M → sH fm ad M cA ws → va_P (dC, dI) vwCl ws H → va_D A ws → va_S A s.heap H locs → lv_has ls nL clv → sls fm scr (cen v) ad T clv → C pc v M → W p l e R s m args below meth c H locs nc ns Q (F0 m pc ls []))
    (hRt : ∀ (pc : Nat) (r : List Value) (rr : List Int) (M : SMem) (ws : va_W) (H : Heap) (locs : List Loc) (ls : Array Slot), sret me pc r → (∃ xs : List Int32, r = xs.map Value.int ∧ xs.map Int32.toInt = rr) → Qr rr M → Sx M → sH fm ad M cA ws → va_P (dC, dI) vwCl ws H → va_D A ws → va_S A s.heap H locs → W p l e R s m args below meth c H locs nc ns Q (F0 m pc ls r)) : ∀ (f n pc : Nat) (lv : SL) (st : List SV) (L : List CN), cgo zm zc fm cu k f n pc lv st = some L → cG p l e R s m args below meth c Q dC dI cA A nL fm scr ad nc ns E Qr C Sx n pc lv st L := by
  intro f
  induction f with
  | zero => intro n pc lv st L h; cases h
  | succ f ih =>
    intro n pc lv st L h
    have h : sn pc (fun pc => cstp zm zc fm cu false k (cgo zm zc fm cu k f) n pc lv st) = some L := h
    rw [sn_eq] at h
    exact cstp_ok hEX hI hk9 hcl htab hSx hSxE hE F hme hnL hnc hns hscr hC hRt ih h
end CGO
section CME
variable {EX : SEx} {zm : List ZMe} {zc : List (List ZI)} {fm : List SF} {l : Launch} {dC : Nat → ClassId} {dI : Nat → Nat → Nat} {cA : Nat → ClassId} {ad : SAd} {d scrS k f Fd : Nat}
/-- what is taken of the place -/
def cPl (zm : List ZMe) (zc : List (List ZI)) (fm : List SF) (EX : SEx) : Prop := sEXok EX ∧ sInj fm ∧ sfmok fm ∧ (∀ (ci : Nat) (C : String) (T : u_T) (N : Nat), vwCl[ci]? = some (C, T, N) → (∀ w ∈ u_ws C T N, w ∈ zT) ∧ ∃ ty0 : Nat → FieldType, (∀ k, k < N → parseFieldDescriptor (T k).2.2.1 = some (ty0 k)) ∧ ∀ a, a < N → ∀ b, b < N → a ≠ b → (T a).2.1 ≠ (T b).2.1) ∧ sTab zm zc
theorem cMeth (hp : cPl zm zc fm EX) {sg : List CSg} (hk0 : k ≠ 0) (hchk : cchk zm zc fm k f sg = true) {asym : List SV} {n0 : Nat} {L0 : List CN} (h0 : (0, sargs 0 asym, n0, L0) ∈ sg) {v : List Int} {M : SMem} {post : List Int → SMem → Prop} {as : List CA} (has : as = cAs v asym) (h : cEnds (cBG zm fm EX l dC dI cA ad scrS d) post Fd sg 0 v M) : cBG zm fm EX l dC dI cA ad scrS (d + 1) k as M post := by
  subst has
  obtain ⟨hEX, hI, hk9, hcl, htab⟩ := hp
  intro me hme ws cas hH hs p e R s m args below meth c Q A ls F hP hD hl hend
  unfold cchk at hchk
  rw [Bool.and_eq_true] at hchk
  have hbc := F.2.2.2.2.2.2.2.2.1
  have key := h (fun pc v M => ∀ q ∈ sg, q.1 = pc → ∀ (ws : va_W) (H : Heap) (locs : List Loc) (ls : Array Slot) (clv : ZL), sH fm ad M cA ws → va_P (dC, dI) vwCl ws H → va_D A ws → va_S A s.heap H locs → lv_has ls me.2.2.2.1 clv → sls fm scrS (cen v) ad q.2.1 clv → W p l e R s m args below meth c H locs 0 0 Q (F0 m pc ls [])) (fun q hq v M hv hd q' hq' e9 => by
    have eq9 := cuniq_ok hchk.1 q' hq' q hq e9
    subst eq9
    intro ws H locs ls clv h1 h2 h3 h4 h5 h6
    have hc1 := sall_ok hchk.2 q' hq
    unfold cchk1 at hc1
    cases hst : cstp zm zc fm (cuts sg) true k (cgo zm zc fm (cuts sg) k f) q'.2.2.1 q'.1 q'.2.1 [] with
    | none => rw [hst] at hc1; cases hc1
    | some L =>
      rw [hst] at hc1
      have eL := clq_ok cnbeq_ok hc1
      rw [← eL] at hd
      have hC : ∀ (pc : Nat) (T : SL), cfind pc (cuts sg) = some T → ∀ (v : List Int) (M : SMem) (ws : va_W) (H : Heap) (locs : List Loc) (ls : Array Slot) (clv : ZL), True → sH fm ad M cA ws → va_P (dC, dI) vwCl ws H → va_D A ws → va_S A s.heap H locs → lv_has ls me.2.2.2.1 clv → sls fm scrS (cen v) ad T clv → (∀ q ∈ sg, q.1 = pc → ∀ (ws : va_W) (H : Heap) (locs : List Loc) (ls : Array Slot) (clv : ZL), sH fm ad M cA ws → va_P (dC, dI) vwCl ws H → va_D A ws → va_S A s.heap H locs → lv_has ls me.2.2.2.1 clv → sls fm scrS (cen v) ad q.2.1 clv → W p l e R s m args below meth c H locs 0 0 Q (F0 m pc ls [])) → W p l e R s m args below meth c H locs 0 0 Q (F0 m pc ls []) := by
        intro pc T hf v M ws H locs ls clv _ g1 g2 g3 g4 g5 g6 hI9
        obtain ⟨q, hq, e1, e2⟩ := cfind_mem hf
        exact hI9 q hq e1 ws H locs ls clv g1 g2 g3 g4 g5 (by rw [e2]; exact g6)
      have hRt : ∀ (pc : Nat) (rv : List Value) (rr : List Int) (M : SMem) (ws : va_W) (H : Heap) (locs : List Loc) (ls : Array Slot), sret me pc rv → (∃ xs : List Int32, rv = xs.map Value.int ∧ xs.map Int32.toInt = rr) → post rr M → True → sH fm ad M cA ws → va_P (dC, dI) vwCl ws H → va_D A ws → va_S A s.heap H locs → W p l e R s m args below meth c H locs 0 0 Q (F0 m pc ls rv) := by
        intro pc rv rr M ws H locs ls g1 g2 g3 _ g4 g5 g6 g7
        exact hend pc ls rv ws H locs 0 0 g1 ⟨rr, M, g2, g4, g3⟩ g5 g6 g7 (Nat.zero_le _) (Nat.zero_le _)
      have hgo := cgo_ok (E := cBG zm fm EX l dC dI cA ad scrS d) (scrS := scrS) (nc := 0) (ns := 0) (e := e) (below := below) (meth := meth) (Q := Q) (Sx := fun _ => True) (scr := scrS) (cu := cuts sg) (zc := zc) hEX hI hk9 hcl htab (fun _ _ _ _ _ _ _ => trivial) (fun _ _ _ _ _ _ _ _ _ => trivial) (fun _ _ _ _ h => h) F hme rfl (Nat.zero_le _) (Nat.zero_le _) (fun q => absurd q hk0) hC hRt f
      exact cstp_ok (E := cBG zm fm EX l dC dI cA ad scrS d) (scrS := scrS) (nc := 0) (ns := 0) (e := e) (below := below) (meth := meth) (Q := Q) (Sx := fun _ => True) (scr := scrS) (cu := cuts sg) (zc := zc) hEX hI hk9 hcl htab (fun _ _ _ _ _ _ _ => trivial) (fun _ _ _ _ _ _ _ _ _ => trivial) (fun _ _ _ _ h => h) F hme rfl (Nat.zero_le _) (Nat.zero_le _) (fun q => absurd q hk0) hC hRt hgo hst Fd v M ws H locs ls clv [] hv trivial h1 h2 h3 h4 h5 h6 trivial hd)
  exact key _ h0 rfl ws s.heap [] ls (lv_args 0 cas) hH hP hD va_S.rf hl (sls_args 0 (svs_cback hs))
end CME
