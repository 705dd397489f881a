/-! A machine of values that are known: lists of cells, tokens for what the script holds; run by the kernel. Its steps are the machine's (zx_sound below). -/
abbrev ZL : Type := List (Nat × Value)
abbrev ZE : Type := (Nat × Nat × ZL) ⊕ (Nat × List Value)
abbrev ZS : Type := Nat × ZL × List Value × List ZE × Nat × Nat
abbrev ZX : Type := Except (Nat × Int) ZS
abbrev ZN : Type := List (Int × Int)
def zfail : ZX := .error (1000000, 0)
noncomputable def zn {α : Type} (n : Nat) (k : Nat → α) : α := Nat.rec (motive := fun _ => α) (k 0) (fun m _ => k (m + 1)) n
theorem zn_eq {α : Type} (n : Nat) (k : Nat → α) : zn n k = k n := by cases n <;> rfl
noncomputable def zi {α : Type} (x : Int32) (k : Int32 → α) : α := zn x.toUInt32.toNat (fun n => k (UInt32.ofNat n).toInt32)
theorem zi_eq {α : Type} (x : Int32) (k : Int32 → α) : zi x k = k x := by
  unfold zi
  rw [zn_eq]
  congr 1
  simp
noncomputable def zget {α : Type} (l : List α) : Nat → Option α := List.rec (motive := fun _ => Nat → Option α) (fun _ => none) (fun a _ ih i => Nat.rec (motive := fun _ => Option α) (some a) (fun m _ => ih m) i) l
theorem zget_eq {α : Type} (l : List α) (i : Nat) : zget l i = l[i]? := by
  induction l generalizing i with
  | nil => rfl
  | cons a r ih =>
    cases i with
    | zero => rfl
    | succ m => exact (ih m).trans (by simp)
noncomputable def zsk {α β : Type} (l : List α) (v : α) : Nat → (List α → β) → β := List.rec (motive := fun _ => Nat → (List α → β) → β) (fun _ k => k []) (fun a r ih i k => Nat.rec (motive := fun _ => β) (k (v :: r)) (fun m _ => ih m (fun r' => k (a :: r'))) i) l
theorem zsk_eq {α β : Type} (l : List α) (v : α) (i : Nat) (k : List α → β) : zsk l v i k = k (l.set i v) := by
  induction l generalizing i k with
  | nil => rfl
  | cons a r ih =>
    cases i with
    | zero => rfl
    | succ m => exact (ih m (fun r' => k (a :: r'))).trans (by simp)
noncomputable def zfl {α β : Type} (l : List α) : (List α → β) → β := List.rec (motive := fun _ => (List α → β) → β) (fun k => k []) (fun a _ ih k => ih (fun r => k (a :: r))) l
theorem zfl_eq {α β : Type} (l : List α) (k : List α → β) : zfl l k = k l := by
  induction l generalizing k with
  | nil => rfl
  | cons a r ih => exact ih (fun r => k (a :: r))
noncomputable def zap {α β : Type} (l : List α) (v : α) : (List α → β) → β := List.rec (motive := fun _ => (List α → β) → β) (fun k => k [v]) (fun a _ ih k => ih (fun r => k (a :: r))) l
theorem zap_eq {α β : Type} (l : List α) (v : α) (k : List α → β) : zap l v k = k (l ++ [v]) := by
  induction l generalizing k with
  | nil => rfl
  | cons a r ih => exact ih (fun r => k (a :: r))
noncomputable def zlk (l : ZL) (i : Nat) : Option Value := List.rec (motive := fun _ => Option Value) none (fun p _ ih => cond (Nat.beq p.1 i) (some p.2) ih) l
theorem zlk_cons (p : Nat × Value) (l : ZL) (i : Nat) : zlk (p :: l) i = if p.1 = i then some p.2 else zlk l i := by
  show cond (Nat.beq p.1 i) (some p.2) (zlk l i) = _
  by_cases h : p.1 = i
  · rw [if_pos h, show Nat.beq p.1 i = true from Nat.beq_eq.mpr h]
    rfl
  · rw [if_neg h]
    cases hb : Nat.beq p.1 i with
    | true => exact absurd (Nat.beq_eq.mp hb) h
    | false => rfl
theorem zlk_at {l : ZL} {i : Nat} {v : Value} (h : zlk l i = some v) : ∃ k : Nat, l[k]? = some (i, v) := by
  induction l with
  | nil => cases h
  | cons p r ih =>
    rw [zlk_cons] at h
    by_cases hp : p.1 = i
    · rw [if_pos hp] at h
      refine ⟨0, ?_⟩
      obtain ⟨a, b⟩ := p
      cases hp
      cases h
      rfl
    · rw [if_neg hp] at h
      obtain ⟨k, hk⟩ := ih h
      exact ⟨k + 1, by simpa using hk⟩
/-- an array's store: the place's old row goes -/
def zdrop (us : ZL) (j : Nat) : ZL := us.filter (fun q => !(Nat.beq q.1 j))
theorem zlk_drop {us : ZL} {i j : Nat} (h : i ≠ j) : zlk (zdrop us j) i = zlk us i := by
  induction us with
  | nil => rfl
  | cons p r ih =>
    rw [zlk_cons]
    unfold zdrop at ih ⊢
    rw [List.filter_cons]
    cases hb : Nat.beq p.1 j with
    | true =>
      have hp := Nat.beq_eq.mp hb
      rw [if_neg (by simp), if_neg (by omega)]
      exact ih
    | false =>
      rw [if_pos (by simp), zlk_cons, ih]
theorem zlk_put (us : ZL) (j : Nat) (v : Value) (i : Nat) : zlk ((j, v) :: zdrop us j) i = if i = j then some v else zlk us i := by
  rw [zlk_cons]
  by_cases h : i = j
  · rw [if_pos h, if_pos h.symm]
  · rw [if_neg h, if_neg (fun q => h q.symm), zlk_drop h]
/-! intervals -/
abbrev ZG : Type := (Nat → Int32) × Nat × List Nat
def zen (E : ZN) (g : ZG) : Prop := ∀ (t : Nat) (q : Int × Int), E[t]? = some q → q.1 ≤ (g.1 t).toInt ∧ (g.1 t).toInt ≤ q.2
def zv (ad : List Nat) (g : ZG) (v c : Value) : Prop := match v with
  | .ref k => ∃ a : Nat, ad[k]? = some a ∧ c = .ref a
  | .retAddr t => c = .int (g.1 t)
  | .float _ => c = .ref g.2.1
  | .double _ => False
  | v => c = v
theorem zv_cat {ad : List Nat} {g : ZG} {v c : Value} (h : zv ad g v c) : c.category = v.category := by
  cases v with
  | ref k =>
    obtain ⟨a, -, rfl⟩ := h
    rfl
  | double k => exact h.elim
  | int x =>
    cases (show c = _ from h)
    rfl
  | long x =>
    cases (show c = _ from h)
    rfl
  | float x =>
    cases (show c = _ from h)
    rfl
  | null =>
    cases (show c = _ from h)
    rfl
  | retAddr x =>
    cases (show c = _ from h)
    rfl
theorem zv_mono {ad ad' : List Nat} {g : ZG} (hm : ∀ (k a : Nat), ad[k]? = some a → ad'[k]? = some a) {v c : Value} (h : zv ad g v c) : zv ad' g v c := by
  cases v with
  | ref k =>
    obtain ⟨a, h1, rfl⟩ := h
    exact ⟨a, hm k a h1, rfl⟩
  | double k => exact h.elim
  | int x => exact h
  | long x => exact h
  | float x => exact h
  | null => exact h
  | retAddr x => exact h
def zvs (ad : List Nat) (g : ZG) : List Value → List Value → Prop
  | [], [] => True
  | v :: vs, c :: cs => zv ad g v c ∧ zvs ad g vs cs
  | _, _ => False
theorem zvs_nil {ad : List Nat} {g : ZG} {cs : List Value} (h : zvs ad g [] cs) : cs = [] := by
  cases cs with
  | nil => rfl
  | cons c r => exact h.elim
theorem zvs_cons {ad : List Nat} {g : ZG} {v : Value} {vs cs : List Value} (h : zvs ad g (v :: vs) cs) : ∃ c r, cs = c :: r ∧ zv ad g v c ∧ zvs ad g vs r := by
  cases cs with
  | nil => exact h.elim
  | cons c r => exact ⟨c, r, rfl, h.1, h.2⟩
theorem zvs_mono {ad ad' : List Nat} {g : ZG} (hm : ∀ (k a : Nat), ad[k]? = some a → ad'[k]? = some a) : ∀ {vs cs : List Value}, zvs ad g vs cs → zvs ad' g vs cs := by
  intro vs
  induction vs with
  | nil =>
    intro cs h
    cases zvs_nil h
    trivial
  | cons v vs ih =>
    intro cs h
    obtain ⟨c, r, rfl, h1, h2⟩ := zvs_cons h
    exact ⟨zv_mono hm h1, ih h2⟩
theorem zvs_len {ad : List Nat} {g : ZG} : ∀ {vs cs : List Value}, zvs ad g vs cs → cs.length = vs.length := by
  intro vs
  induction vs with
  | nil =>
    intro cs h
    cases zvs_nil h
    rfl
  | cons v vs ih =>
    intro cs h
    obtain ⟨c, r, rfl, h1, h2⟩ := zvs_cons h
    simp [ih h2]
theorem zvs_get {ad : List Nat} {g : ZG} : ∀ {vs cs : List Value}, zvs ad g vs cs → ∀ {k : Nat} {v : Value}, vs[k]? = some v → ∃ c, cs[k]? = some c ∧ zv ad g v c := by
  intro vs
  induction vs with
  | nil =>
    intro cs h k v hk
    cases hk
  | cons w vs ih =>
    intro cs h k v hk
    obtain ⟨c, r, rfl, h1, h2⟩ := zvs_cons h
    cases k with
    | zero =>
      cases hk
      exact ⟨c, rfl, h1⟩
    | succ k =>
      obtain ⟨c2, h3, h4⟩ := ih h2 (k := k) (by simpa using hk)
      exact ⟨c2, by simpa using h3, h4⟩
theorem zvs_set {ad : List Nat} {g : ZG} {v c : Value} (hv : zv ad g v c) : ∀ {vs cs : List Value}, zvs ad g vs cs → ∀ (k : Nat), zvs ad g (vs.set k v) (cs.set k c) := by
  intro vs
  induction vs with
  | nil =>
    intro cs h k
    cases zvs_nil h
    trivial
  | cons w vs ih =>
    intro cs h k
    obtain ⟨d, r, rfl, h1, h2⟩ := zvs_cons h
    cases k with
    | zero => exact ⟨hv, h2⟩
    | succ k => exact ⟨h1, ih h2 k⟩
theorem zvs_app {ad : List Nat} {g : ZG} : ∀ {vs cs ws ds : List Value}, zvs ad g vs cs → zvs ad g ws ds → zvs ad g (vs ++ ws) (cs ++ ds) := by
  intro vs
  induction vs with
  | nil =>
    intro cs ws ds h h2
    cases zvs_nil h
    exact h2
  | cons w vs ih =>
    intro cs ws ds h h2
    obtain ⟨d, r, rfl, h3, h4⟩ := zvs_cons h
    exact ⟨h3, ih h4 h2⟩
theorem zvs_rev {ad : List Nat} {g : ZG} : ∀ {vs cs : List Value}, zvs ad g vs cs → zvs ad g vs.reverse cs.reverse := by
  intro vs
  induction vs with
  | nil =>
    intro cs h
    cases zvs_nil h
    trivial
  | cons w vs ih =>
    intro cs h
    obtain ⟨d, r, rfl, h3, h4⟩ := zvs_cons h
    rw [List.reverse_cons, List.reverse_cons]
    exact zvs_app (ih h4) ⟨h3, trivial⟩
theorem zvs_take {ad : List Nat} {g : ZG} (n : Nat) : ∀ {vs cs : List Value}, zvs ad g vs cs → zvs ad g (vs.take n) (cs.take n) ∧ zvs ad g (vs.drop n) (cs.drop n) := by
  induction n with
  | zero =>
    intro vs cs h
    exact ⟨by simp [zvs], by simpa using h⟩
  | succ n ih =>
    intro vs cs h
    cases vs with
    | nil =>
      cases zvs_nil h
      exact ⟨trivial, trivial⟩
    | cons v vs =>
      obtain ⟨d, r, rfl, h3, h4⟩ := zvs_cons h
      exact ⟨⟨h3, (ih h4).1⟩, (ih h4).2⟩
theorem zvs_sum {ad : List Nat} {g : ZG} : ∀ {vs cs : List Value}, zvs ad g vs cs → (cs.map fun v => v.category).sum = (vs.map fun v => v.category).sum := by
  intro vs
  induction vs with
  | nil =>
    intro cs h
    cases zvs_nil h
    rfl
  | cons w vs ih =>
    intro cs h
    obtain ⟨d, r, rfl, h3, h4⟩ := zvs_cons h
    simp [zv_cat h3, ih h4]
def zls (ad : List Nat) (g : ZG) : ZL → ZL → Prop
  | [], [] => True
  | v :: vs, c :: cs => v.1 = c.1 ∧ zv ad g v.2 c.2 ∧ zls ad g vs cs
  | _, _ => False
theorem zls_nil {ad : List Nat} {g : ZG} {cs : ZL} (h : zls ad g [] cs) : cs = [] := by
  cases cs with
  | nil => rfl
  | cons c r => exact h.elim
theorem zls_cons {ad : List Nat} {g : ZG} {v : Nat × Value} {vs cs : ZL} (h : zls ad g (v :: vs) cs) : ∃ c r, cs = c :: r ∧ v.1 = c.1 ∧ zv ad g v.2 c.2 ∧ zls ad g vs r := by
  cases cs with
  | nil => exact h.elim
  | cons c r => exact ⟨c, r, rfl, h.1, h.2.1, h.2.2⟩
theorem zls_mono {ad ad' : List Nat} {g : ZG} (hm : ∀ (k a : Nat), ad[k]? = some a → ad'[k]? = some a) : ∀ {vs cs : ZL}, zls ad g vs cs → zls ad' g vs cs := by
  intro vs
  induction vs with
  | nil =>
    intro cs h
    cases zls_nil h
    trivial
  | cons v vs ih =>
    intro cs h
    obtain ⟨c, r, rfl, h1, h2, h3⟩ := zls_cons h
    exact ⟨h1, zv_mono hm h2, ih h3⟩
theorem zls_get {ad : List Nat} {g : ZG} : ∀ {vs cs : ZL}, zls ad g vs cs → ∀ {k : Nat} {i : Nat} {v : Value}, vs[k]? = some (i, v) → ∃ c, cs[k]? = some (i, c) ∧ zv ad g v c := by
  intro vs
  induction vs with
  | nil =>
    intro cs h k i v hk
    cases hk
  | cons w vs ih =>
    intro cs h k i v hk
    obtain ⟨c, r, rfl, h1, h2, h3⟩ := zls_cons h
    cases k with
    | zero =>
      cases hk
      obtain ⟨c1, c2⟩ := c
      cases h1
      exact ⟨c2, rfl, h2⟩
    | succ k =>
      obtain ⟨c2, h4, h5⟩ := ih h3 (k := k) (by simpa using hk)
      exact ⟨c2, by simpa using h4, h5⟩
def zkeep (i : Nat) (q : Nat × Value) : Bool := !(q.1 == i) && !(q.1 + 1 == i && q.2.category == 2)
theorem zls_filter {ad : List Nat} {g : ZG} (i : Nat) : ∀ {vs cs : ZL}, zls ad g vs cs → zls ad g (vs.filter (zkeep i)) (cs.filter (zkeep i)) := by
  intro vs
  induction vs with
  | nil =>
    intro cs h
    cases zls_nil h
    trivial
  | cons v vs ih =>
    intro cs h
    obtain ⟨c, r, rfl, h1, h2, h3⟩ := zls_cons h
    have e : zkeep i c = zkeep i v := by
      unfold zkeep
      rw [h1, zv_cat h2]
    rw [List.filter_cons, List.filter_cons, e]
    cases zkeep i v with
    | true => exact ⟨h1, h2, ih h3⟩
    | false => exact ih h3
theorem zls_args {ad : List Nat} {g : ZG} : ∀ {vs cs : List Value} (i : Nat), zvs ad g vs cs → zls ad g (lv_args i vs) (lv_args i cs) := by
  intro vs
  induction vs with
  | nil =>
    intro cs i h
    cases zvs_nil h
    trivial
  | cons v vs ih =>
    intro cs i h
    obtain ⟨c, r, rfl, h1, h2⟩ := zvs_cons h
    refine ⟨rfl, h1, ?_⟩
    rw [zv_cat h1]
    exact ih _ h2
/-- another base of addresses -/
def zga (g : ZG) (ad : List Nat) : ZG := (g.1, g.2.1, ad)
theorem zv_g {ad : List Nat} {g g' : ZG} (h1 : g'.1 = g.1) (h2 : g'.2.1 = g.2.1) {v c : Value} (h : zv ad g v c) : zv ad g' v c := by
  cases v with
  | ref k => exact h
  | double k => exact h.elim
  | int x => exact h
  | long x => exact h
  | float x => exact (show c = .ref g.2.1 from h).trans (by rw [h2])
  | null => exact h
  | retAddr x => exact (show c = .int (g.1 x) from h).trans (by rw [h1])
theorem zvs_g {ad : List Nat} {g g' : ZG} (h1 : g'.1 = g.1) (h2 : g'.2.1 = g.2.1) : ∀ {vs cs : List Value}, zvs ad g vs cs → zvs ad g' vs cs := by
  intro vs
  induction vs with
  | nil =>
    intro cs h
    cases zvs_nil h
    trivial
  | cons v vs ih =>
    intro cs h
    obtain ⟨c, r, rfl, h3, h4⟩ := zvs_cons h
    exact ⟨zv_g h1 h2 h3, ih h4⟩
