/-! states of which some numbers are not known, and what they say of the machine's -/
abbrev SV : Type := Nat × Nat × SE
abbrev SM : Type := Nat × SE × SE × SE
abbrev SFt : Type := Nat × List SE
abbrev SMS : Type := List SM × List SFt
abbrev SW : Type := SMS × Nat × SK × Nat × Nat
abbrev SL : Type := List (Nat × SV)
abbrev SS : Type := Nat × SL × List SV × SW
abbrev SX : Type := Option (List SS)
abbrev SRt : Type := Nat → SL → List SV → SW → SX
/-- a kind of cells: its first place in the world, the stride, how many; an object's class and fields (0: a number; 1: cell of a kind, the first or the one of the same number), or a row's kind of elements, whether its length is kept in a kind, length, kind of cells -/
abbrev SF : Type := Nat × Nat × Nat × ((Nat × List (Nat × Nat × Nat)) ⊕ (Nat × Nat × Nat × Nat))
abbrev SMem : Type := Nat → Nat → Nat → Int
abbrev SAd : Type := Nat → Nat → Nat
/-- what may be written: kinds with their fields; and of rows from where on -/
abbrev SWr : Type := List (Nat × Nat) × List (Nat × Int)
def sub (x : SX) (xs : List SS) : Prop := ∃ ys, x = some ys ∧ ∀ X ∈ ys, X ∈ xs
theorem sub_none {xs : List SS} (h : sub none xs) : False := by
  obtain ⟨ys, h, -⟩ := h
  cases h
theorem sub_cond {c : Bool} {x : SX} {xs : List SS} (h : sub (cond c x none) xs) : c = true ∧ sub x xs := by
  cases c with
  | true => exact ⟨rfl, h⟩
  | false => exact (sub_none h).elim
def sapp (a b : SX) : SX := match a with
  | none => none
  | some x => (match b with
    | none => none
    | some y => some (x ++ y))
theorem sub_app {a b : SX} {xs : List SS} (h : sub (sapp a b) xs) : sub a xs ∧ sub b xs := by
  unfold sapp at h
  cases a with
  | none => exact (sub_none h).elim
  | some x =>
    cases b with
    | none => exact (sub_none h).elim
    | some y =>
      obtain ⟨ys, h1, h2⟩ := h
      cases h1
      exact ⟨⟨x, rfl, fun X hX => h2 X (List.mem_append_left _ hX)⟩, ⟨y, rfl, fun X hX => h2 X (List.mem_append_right _ hX)⟩⟩
/-! which numbers an expression names -/
def sbl (n : Nat) : List (Nat × Int) → Bool
  | [] => true
  | q :: r => Nat.blt q.1 n && sbl n r
def sbe (n : Nat) (e : SE) : Bool := sbl n e.2
theorem sbl_ev {n : Nat} {ρ ρ' : Nat → Int} (ha : ∀ t, t < n → ρ' t = ρ t) : ∀ {l : List (Nat × Int)}, sbl n l = true → svl ρ' l = svl ρ l := by
  intro l
  induction l with
  | nil => intro _; rfl
  | cons q r ih =>
    intro h
    simp only [sbl, Bool.and_eq_true] at h
    simp only [svl, ih h.2, ha q.1 (zblt h.1)]
theorem sbe_ev {n : Nat} {ρ ρ' : Nat → Int} (ha : ∀ t, t < n → ρ' t = ρ t) {e : SE} (h : sbe n e = true) : sev ρ' e = sev ρ e := by
  unfold sev
  rw [sbl_ev ha h]
def sall {α : Type} (f : α → Bool) : List α → Bool
  | [] => true
  | a :: r => cond (f a) (sall f r) false
theorem sall_ok {α : Type} {f : α → Bool} : ∀ {l : List α}, sall f l = true → ∀ a ∈ l, f a = true := by
  intro l
  induction l with
  | nil => intro _ a h; cases h
  | cons b r ih =>
    intro h a ha
    unfold sall at h
    cases hf : f b with
    | false => rw [hf] at h; cases h
    | true =>
      rw [hf, cond_true] at h
      rcases List.mem_cons.mp ha with rfl | ha
      · exact hf
      · exact ih h a ha
def sbM (n : Nat) (q : SM) : Bool := sbe n q.2.1 && (sbe n q.2.2.1 && sbe n q.2.2.2)
def sbK (n : Nat) (K : SK) : Bool := sall (fun q => Nat.blt q.1 n) K.1 && sall (sbe n) K.2
def sbF (n : Nat) (q : SFt) : Bool := sall (sbe n) q.2
def sbW (n : Nat) (w : SW) : Bool := sall (sbM n) w.1.1 && (sall (sbF n) w.1.2 && sbK n w.2.2.1)
def sbS (n : Nat) (lv : SL) (st : List SV) (w : SW) : Bool := sall (fun q => sbe n q.2.2.2) lv && (sall (fun v => sbe n v.2.2) st && sbW n w)
/-! values -/
def sv (fm : List SF) (scr : Nat) (ρ : Nat → Int) (ad : SAd) (v : SV) (c : Value) : Prop :=
  (v.1 = 0 ∧ ∃ x : Int32, c = .int x ∧ x.toInt = sev ρ v.2.2) ∨ (v.1 = 1 ∧ ∃ x : Int64, c = .long x ∧ x.toInt = sev ρ v.2.2) ∨
  (v.1 = 2 ∧ ∃ (j : Nat) (en : SF), (j : Int) = sev ρ v.2.2 ∧ fm[v.2.1]? = some en ∧ j < en.2.2.1 ∧ c = .ref (ad v.2.1 j)) ∨ (v.1 = 3 ∧ c = .ref scr)
def scat (v : SV) : Nat := cond (Nat.beq v.1 1) 2 1
theorem sv_cat {fm : List SF} {scr : Nat} {ρ : Nat → Int} {ad : SAd} {v : SV} {c : Value} (h : sv fm scr ρ ad v c) : c.category = scat v := by
  unfold scat
  rcases h with ⟨h, x, rfl, -⟩ | ⟨h, x, rfl, -⟩ | ⟨h, j, en, -, -, -, rfl⟩ | ⟨h, rfl⟩ <;> rw [h] <;> rfl
theorem sv_ag {fm : List SF} {scr : Nat} {ρ ρ' : Nat → Int} {ad : SAd} {n : Nat} (ha : ∀ t, t < n → ρ' t = ρ t) {v : SV} {c : Value} (hb : sbe n v.2.2 = true) (h : sv fm scr ρ ad v c) : sv fm scr ρ' ad v c := by
  unfold sv at h ⊢
  rw [sbe_ev ha hb]
  exact h
def svs (fm : List SF) (scr : Nat) (ρ : Nat → Int) (ad : SAd) : List SV → List Value → Prop
  | [], [] => True
  | v :: vs, c :: cs => sv fm scr ρ ad v c ∧ svs fm scr ρ ad vs cs
  | _, _ => False
def sls (fm : List SF) (scr : Nat) (ρ : Nat → Int) (ad : SAd) : SL → ZL → Prop
  | [], [] => True
  | v :: vs, c :: cs => v.1 = c.1 ∧ sv fm scr ρ ad v.2 c.2 ∧ sls fm scr ρ ad vs cs
  | _, _ => False
section SVS
variable {fm : List SF} {scr : Nat} {ρ ρ' : Nat → Int} {ad ad' : SAd}
theorem svs_nil {cs : List Value} (h : svs fm scr ρ ad [] cs) : cs = [] := by
  cases cs with
  | nil => rfl
  | cons c r => exact h.elim
theorem svs_cons {v : SV} {vs : List SV} {cs : List Value} (h : svs fm scr ρ ad (v :: vs) cs) : ∃ c r, cs = c :: r ∧ sv fm scr ρ ad v c ∧ svs fm scr ρ ad vs r := by
  cases cs with
  | nil => exact h.elim
  | cons c r => exact ⟨c, r, rfl, h.1, h.2⟩
theorem svs_mono (P : SV → Bool) (hm : ∀ v c, P v = true → sv fm scr ρ ad v c → sv fm scr ρ' ad' v c) : ∀ {vs : List SV} {cs : List Value}, (∀ v ∈ vs, P v = true) → svs fm scr ρ ad vs cs → svs fm scr ρ' ad' vs cs := by
  intro vs
  induction vs with
  | nil =>
    intro cs _ h
    cases svs_nil h
    trivial
  | cons v vs ih =>
    intro cs hp h
    obtain ⟨c, r, rfl, h1, h2⟩ := svs_cons h
    exact ⟨hm v c (hp v List.mem_cons_self) h1, ih (fun v hv => hp v (List.mem_cons_of_mem _ hv)) h2⟩
theorem svs_len : ∀ {vs : List SV} {cs : List Value}, svs fm scr ρ ad vs cs → cs.length = vs.length := by
  intro vs
  induction vs with
  | nil =>
    intro cs h
    cases svs_nil h
    rfl
  | cons v vs ih =>
    intro cs h
    obtain ⟨c, r, rfl, h1, h2⟩ := svs_cons h
    simp [ih h2]
theorem svs_get : ∀ {vs : List SV} {cs : List Value}, svs fm scr ρ ad vs cs → ∀ {k : Nat} {v : SV}, vs[k]? = some v → ∃ c, cs[k]? = some c ∧ sv fm scr ρ ad v c := by
  intro vs
  induction vs with
  | nil =>
    intro cs h k v hk
    cases hk
  | cons w vs ih =>
    intro cs h k v hk
    obtain ⟨c, r, rfl, h1, h2⟩ := svs_cons h
    cases k with
    | zero =>
      cases hk
      exact ⟨c, rfl, h1⟩
    | succ k =>
      obtain ⟨c2, h3, h4⟩ := ih h2 (k := k) (by simpa using hk)
      exact ⟨c2, by simpa using h3, h4⟩
theorem svs_app : ∀ {vs : List SV} {cs : List Value} {ws : List SV} {ds : List Value}, svs fm scr ρ ad vs cs → svs fm scr ρ ad ws ds → svs fm scr ρ ad (vs ++ ws) (cs ++ ds) := by
  intro vs
  induction vs with
  | nil =>
    intro cs ws ds h h2
    cases svs_nil h
    exact h2
  | cons w vs ih =>
    intro cs ws ds h h2
    obtain ⟨d, r, rfl, h3, h4⟩ := svs_cons h
    exact ⟨h3, ih h4 h2⟩
theorem svs_rev : ∀ {vs : List SV} {cs : List Value}, svs fm scr ρ ad vs cs → svs fm scr ρ ad vs.reverse cs.reverse := by
  intro vs
  induction vs with
  | nil =>
    intro cs h
    cases svs_nil h
    trivial
  | cons w vs ih =>
    intro cs h
    obtain ⟨d, r, rfl, h3, h4⟩ := svs_cons h
    rw [List.reverse_cons, List.reverse_cons]
    exact svs_app (ih h4) ⟨h3, trivial⟩
theorem svs_take (n : Nat) : ∀ {vs : List SV} {cs : List Value}, svs fm scr ρ ad vs cs → svs fm scr ρ ad (vs.take n) (cs.take n) ∧ svs fm scr ρ ad (vs.drop n) (cs.drop n) := by
  induction n with
  | zero =>
    intro vs cs h
    exact ⟨by simp [svs], by simpa using h⟩
  | succ n ih =>
    intro vs cs h
    cases vs with
    | nil =>
      cases svs_nil h
      exact ⟨trivial, trivial⟩
    | cons v vs =>
      obtain ⟨d, r, rfl, h3, h4⟩ := svs_cons h
      exact ⟨⟨h3, (ih h4).1⟩, (ih h4).2⟩
theorem svs_sum : ∀ {vs : List SV} {cs : List Value}, svs fm scr ρ ad vs cs → (cs.map fun v => v.category).sum = (vs.map scat).sum := by
  intro vs
  induction vs with
  | nil =>
    intro cs h
    cases svs_nil h
    rfl
  | cons w vs ih =>
    intro cs h
    obtain ⟨d, r, rfl, h3, h4⟩ := svs_cons h
    simp [sv_cat h3, ih h4]
theorem sls_nil {cs : ZL} (h : sls fm scr ρ ad [] cs) : cs = [] := by
  cases cs with
  | nil => rfl
  | cons c r => exact h.elim
theorem sls_cons {v : Nat × SV} {vs : SL} {cs : ZL} (h : sls fm scr ρ ad (v :: vs) cs) : ∃ c r, cs = c :: r ∧ v.1 = c.1 ∧ sv fm scr ρ ad v.2 c.2 ∧ sls fm scr ρ ad vs r := by
  cases cs with
  | nil => exact h.elim
  | cons c r => exact ⟨c, r, rfl, h.1, h.2.1, h.2.2⟩
theorem sls_mono (P : SV → Bool) (hm : ∀ v c, P v = true → sv fm scr ρ ad v c → sv fm scr ρ' ad' v c) : ∀ {vs : SL} {cs : ZL}, (∀ q ∈ vs, P q.2 = true) → sls fm scr ρ ad vs cs → sls fm scr ρ' ad' vs cs := by
  intro vs
  induction vs with
  | nil =>
    intro cs _ h
    cases sls_nil h
    trivial
  | cons v vs ih =>
    intro cs hp h
    obtain ⟨c, r, rfl, h1, h2, h3⟩ := sls_cons h
    exact ⟨h1, hm _ _ (hp v List.mem_cons_self) h2, ih (fun v hv => hp v (List.mem_cons_of_mem _ hv)) h3⟩
def slk (l : SL) (i : Nat) : Option SV := match l with
  | [] => none
  | q :: r => cond (Nat.beq q.1 i) (some q.2) (slk r i)
theorem sls_get {i : Nat} {v : SV} : ∀ {vs : SL} {cs : ZL}, sls fm scr ρ ad vs cs → slk vs i = some v → ∃ (k : Nat) (c : Value), cs[k]? = some (i, c) ∧ sv fm scr ρ ad v c := by
  intro vs
  induction vs with
  | nil =>
    intro cs h hk
    cases hk
  | cons w vs ih =>
    intro cs h hk
    obtain ⟨c, r, rfl, h1, h2, h3⟩ := sls_cons h
    unfold slk at hk
    cases hb : Nat.beq w.1 i with
    | true =>
      rw [hb, cond_true] at hk
      cases hk
      have e1 : c.1 = i := h1.symm.trans (Nat.beq_eq.mp hb)
      obtain ⟨c1, c2⟩ := c
      cases e1
      exact ⟨0, c2, rfl, h2⟩
    | false =>
      rw [hb, cond_false] at hk
      obtain ⟨k, c2, h4, h5⟩ := ih h3 hk
      exact ⟨k + 1, c2, by simpa using h4, h5⟩
def skeep (i : Nat) (q : Nat × SV) : Bool := !(q.1 == i) && !(q.1 + 1 == i && scat q.2 == 2)
theorem sls_filter (i : Nat) : ∀ {vs : SL} {cs : ZL}, sls fm scr ρ ad vs cs → sls fm scr ρ ad (vs.filter (skeep i)) (cs.filter (zkeep i)) := by
  intro vs
  induction vs with
  | nil =>
    intro cs h
    cases sls_nil h
    trivial
  | cons v vs ih =>
    intro cs h
    obtain ⟨c, r, rfl, h1, h2, h3⟩ := sls_cons h
    have e : zkeep i c = skeep i v := by
      unfold zkeep skeep
      rw [h1, sv_cat h2]
    rw [List.filter_cons, List.filter_cons, e]
    cases skeep i v with
    | true => exact ⟨h1, h2, ih h3⟩
    | false => exact ih h3
def sargs (i : Nat) : List SV → SL
  | [] => []
  | v :: vs => (i, v) :: sargs (cond (Nat.beq v.1 1) (i + 2) (i + 1)) vs
theorem sls_args : ∀ {vs : List SV} {cs : List Value} (i : Nat), svs fm scr ρ ad vs cs → sls fm scr ρ ad (sargs i vs) (lv_args i cs) := by
  intro vs
  induction vs with
  | nil =>
    intro cs i h
    cases svs_nil h
    trivial
  | cons v vs ih =>
    intro cs i h
    obtain ⟨c, r, rfl, h1, h2⟩ := svs_cons h
    refine ⟨rfl, h1, ?_⟩
    rw [sv_cat h1]
    unfold scat
    cases Nat.beq v.1 1 with
    | true => exact ih _ h2
    | false => exact ih _ h2
end SVS
/-! the heap -/
def spos (en : SF) (j : Nat) : Nat := en.1 + en.2.1 * j
def slen (M : SMem) (j : Nat) (a : Nat × Nat × Nat × Nat) : Nat := cond (Nat.beq a.2.1 0) a.2.2.1 (M a.2.2.1 j 0).toNat
def sHo (ad : SAd) (M : SMem) (f j : Nat) (o : Nat × List (Nat × Nat × Nat)) (w : va_E) : Prop :=
  ∃ gs : List Value, w = .inr (o.1, gs) ∧ gs.length = o.2.length ∧ ∀ i sp, o.2[i]? = some sp → (sp.1 = 0 → ∃ x : Int32, gs[i]? = some (.int x) ∧ x.toInt = M f j i) ∧ (sp.1 = 1 → gs[i]? = some (.ref (ad sp.2.1 (cond (Nat.beq sp.2.2 0) 0 j))))
def sHa (ad : SAd) (M : SMem) (cA : Nat → ClassId) (f j : Nat) (a : Nat × Nat × Nat × Nat) (w : va_E) : Prop :=
  (a.1 < 3 → ∃ h : Nat → Int32, w = .inl (cA a.1, slen M j a, .inl h) ∧ ∀ i, (h i).toInt = M f j i) ∧
  (a.1 = 3 → ∃ h : Nat → Int64, w = .inl (cA a.1, slen M j a, .inr (.inl h)) ∧ ∀ i, (h i).toInt = M f j i) ∧
  (3 < a.1 → ∃ h : Nat → Option Nat, w = .inl (cA a.1, slen M j a, .inr (.inr (.inr (.inr h)))) ∧ ∀ i, i < slen M j a → h i = some (ad a.2.2.2 i))
def sHe (ad : SAd) (M : SMem) (cA : Nat → ClassId) (f j : Nat) (en : SF) (w : va_E) : Prop := match en.2.2.2 with
  | .inl o => sHo ad M f j o w
  | .inr a => sHa ad M cA f j a w
def sH (fm : List SF) (ad : SAd) (M : SMem) (cA : Nat → ClassId) (ws : va_W) : Prop := ∀ (f : Nat) (en : SF), fm[f]? = some en → ∀ j, j < en.2.2.1 → ∃ w, ws[spos en j]? = some (ad f j, w) ∧ sHe ad M cA f j en w
def sInj (fm : List SF) : Prop := ∀ (f f' : Nat) (en en' : SF), fm[f]? = some en → fm[f']? = some en' → ∀ j j', j < en.2.2.1 → j' < en'.2.2.1 → spos en j = spos en' j' → f = f' ∧ j = j'
/-- what always holds of the numbers: for each kind (0: an object, by the field; else a row) bounds; bounds of single places -/
abbrev SRg : Type := List (Nat × List (Int × Int)) × List (Nat × Nat × Int × Int)
def srg (rg : SRg) (f i : Nat) : Option (Int × Int) := match rg.1[f]? with
  | some q => q.2[cond (Nat.beq q.1 0) i 0]?
  | none => none
def scl (rg : SRg) (f i : Nat) : Nat := match rg.1[f]? with
  | some q => cond (Nat.beq q.1 0) i 0
  | none => i
def sI (rg : SRg) (M : SMem) : Prop := (∀ f i q, srg rg f i = some q → ∀ j, q.1 ≤ M f j i ∧ M f j i ≤ q.2) ∧ ∀ q ∈ rg.2, ∀ j, q.2.2.1 ≤ M q.1 j q.2.1 ∧ M q.1 j q.2.1 ≤ q.2.2.2
def smo (fI : Nat → List Int → SMem → Prop) (ρ : Nat → Int) (M : SMem) (ms : SMS) : Prop := (∀ q ∈ ms.1, ∃ j i : Nat, (j : Int) = sev ρ q.2.1 ∧ (i : Int) = sev ρ q.2.2.1 ∧ M q.1 j i = sev ρ q.2.2.2) ∧
  ∀ q ∈ ms.2, fI q.1 (q.2.map (sev ρ)) M
def sfr (rg : SRg) (M0 M : SMem) (ad0 ad : SAd) (wr : SWr) : Prop := (∀ f j i, (f, scl rg f i) ∉ wr.1 → M f j i = M0 f j i) ∧ (∀ f j, (f, 999999) ∉ wr.1 → ad f j = ad0 f j) ∧ ∀ q ∈ wr.2, ∀ j i : Nat, (i : Int) < q.2 → M q.1 j i = M0 q.1 j i
def sRel (fm : List SF) (rg : SRg) (X : SMem → Prop) (fI : Nat → List Int → SMem → Prop) (wr : SWr) (scr n0 : Nat) (ρ0 : Nat → Int) (M0 : SMem) (ad0 : SAd) (dC : Nat → ClassId) (dI : Nat → Nat → Nat) (cA : Nat → ClassId) (A : Nat → Prop) (H0 : Heap) (nL : Nat) (lv : SL) (st : List SV) (w : SW) (ρ : Nat → Int) (M : SMem) (ad : SAd) (ws : va_W) (H : Heap) (locs : List Loc) (ls : Array Slot) (clv : ZL) (cst : List Value) : Prop :=
  ((∀ t, t < n0 → ρ t = ρ0 t) ∧ n0 ≤ w.2.1 ∧ sK ρ w.2.2.1) ∧ (sH fm ad M cA ws ∧ (sI rg M ∧ X M) ∧ smo fI ρ M w.1 ∧ sfr rg M0 M ad0 ad wr) ∧ va_P (dC, dI) vwCl ws H ∧ va_D A ws ∧ va_S A H0 H locs ∧ lv_has ls nL clv ∧ sls fm scr ρ ad lv clv ∧ svs fm scr ρ ad st cst
/-- from each state of the machine that is as told, it comes to Q; cells and slots are counted from nc0, ns0 on -/
def sW (p : Program) (l : Launch) (e : Env) (R : Room) (s : State) (m : MethodId) (args : Array Value) (below : List Frame) (meth : Method) (c : Code) (Q : State → Prop) (dC : Nat → ClassId) (dI : Nat → Nat → Nat) (cA : Nat → ClassId) (A : Nat → Prop) (nL : Nat) (fm : List SF) (rg : SRg) (X : SMem → Prop) (fI : Nat → List Int → SMem → Prop) (wr : SWr) (scr n0 : Nat) (ρ0 : Nat → Int) (M0 : SMem) (ad0 : SAd) (nc0 ns0 : Nat) (pc : Nat) (lv : SL) (st : List SV) (w : SW) : Prop :=
  ∀ (ρ : Nat → Int) (M : SMem) (ad : SAd) (ws : va_W) (H : Heap) (locs : List Loc) (ls : Array Slot) (clv : ZL) (cst : List Value), sRel fm rg X fI wr scr n0 ρ0 M0 ad0 dC dI cA A s.heap nL lv st w ρ M ad ws H locs ls clv cst → W p l e R s m args below meth c H locs (nc0 + w.2.2.2.1) (ns0 + w.2.2.2.2) Q (F0 m pc ls cst)
