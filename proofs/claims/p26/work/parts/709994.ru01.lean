/-! the run, as a function of what was told -/
theorem kfn13 {c : Int} (h : 0 ≤ c ∧ c ≤ 1000000) : cfn 13 c 32 = c / 32 := by
  show (Int32.ofInt c / Int32.ofInt 32).toInt = c / 32
  rw [Int32.toInt_div, Int32.toInt_ofInt_of_le (by omega) (by omega), show (Int32.ofInt 32).toInt = 32 from rfl, Int.tdiv_eq_ediv_of_nonneg (by omega)]
  exact sbm32 (by omega) (by omega)
theorem kfn14 {c : Int} (h : 0 ≤ c ∧ c ≤ 1000000) : cfn 14 c 32 = c % 32 := by
  show (Int32.ofInt c - Int32.ofInt c / Int32.ofInt 32 * Int32.ofInt 32).toInt = c % 32
  have e1 : (Int32.ofInt c / Int32.ofInt 32).toInt = c / 32 := kfn13 h
  have e2 : (Int32.ofInt c / Int32.ofInt 32 * Int32.ofInt 32).toInt = c / 32 * 32 := simul (by omega) (by rw [e1, show (Int32.ofInt 32).toInt = 32 from rfl])
  rw [Int32.toInt_sub, e2, Int32.toInt_ofInt_of_le (by omega) (by omega), sbm32 (by omega) (by omega)]
  omega
theorem k32 (x : Int32) : -2147483648 ≤ x.toInt ∧ x.toInt ≤ 2147483647 := by
  have h1 := Int32.le_toInt x
  have h2 := Int32.toInt_lt x
  omega
theorem eJ_b (k a b : Int) : -2147483648 ≤ eJ k a b ∧ eJ k a b ≤ 2147483647 := by
  unfold eJ
  split
  · split <;> omega
  split
  · split <;> omega
  split
  · split <;> omega
  split
  · split <;> omega
  split
  · exact k32 _
  split
  · exact k32 _
  · exact k32 _
noncomputable def pIf {α : Type} (P : Prop) (a b : α) : α := @ite α P (Classical.propDecidable P) a b
theorem pIf_y {α : Type} {P : Prop} {a b : α} (h : P) : pIf P a b = a := @if_pos P (Classical.propDecidable P) h α a b
theorem pIf_n {α : Type} {P : Prop} {a b : α} (h : ¬ P) : pIf P a b = b := @if_neg P (Classical.propDecidable P) h α a b
theorem pIf_cg {α : Type} {P Q : Prop} {a b : α} (h : P ↔ Q) : pIf P a b = pIf Q a b := by
  by_cases q : P
  · rw [pIf_y q, pIf_y (h.mp q)]
  · rw [pIf_n q, pIf_n (fun z => q (h.mpr z))]
/-- walls, names on them, widths, lengths and letters of names, ladders, who reads -/
abbrev RZT : Type := (Nat → Nat → Int) × (Nat → Nat → Int) × (Nat → Int) × (Nat → Int) × (Nat → Int) × (Nat → Int) × (Nat → Int)
def rZ (M : SMem) : RZT := (M 64, M 93, M 62 0, M 61 0, M 63 0, M 77 0, M 78 0)
/-- a cut that was made: hand, doing, name -/
abbrev RC : Type := Int × Int × Int
def rTop (st : List RC) : Int := match st[st.length - 1]? with
  | some c => c.2.2
  | none => -1
def rTw (st : List RC) : Int := match st[st.length - 2]? with
  | some c => c.2.2
  | none => -1
theorem rTop_0 : rTop [] = -1 := rfl
theorem rTop_at {st : List RC} {c : RC} (h : st[st.length - 1]? = some c) : rTop st = c.2.2 := by
  unfold rTop
  rw [h]
theorem rTw_at {st : List RC} {c : RC} (h : st[st.length - 2]? = some c) : rTw st = c.2.2 := by
  unfold rTw
  rw [h]
theorem rGet {st : List RC} {k : Nat} (h : k < st.length) : ∃ c, st[k]? = some c := ⟨_, List.getElem?_eq_getElem h⟩
def rAk (Z : RZT) (a b : Nat) : Prop := wAk (fun i => Z.2.2.2.2.1 (8 * a + i)) (fun i => Z.2.2.2.2.1 (8 * b + i)) (Z.2.2.2.1 a).toNat (Z.2.2.2.1 b).toNat
def rBg (Z : RZT) (p : Nat) : List RC := if Z.1 p 0 ≠ 0 ∧ 0 < Z.1 p 5 ∧ Z.2.1 p 0 ≠ -1 then [(-1, 0, Z.2.1 p 0)] else []
def rFc (Z : RZT) (p : Nat) (st : List RC) (k : Int) : Int := if k = 8 then Z.1 p 2 else if k = 9 then Z.1 p 1 else if k = 10 then Z.1 p 3 else if k = 11 then (if rTop st = -1 then 0 else Z.2.2.1 (rTop st).toNat) else if k = 12 then (p : Int) else if k = 13 then (st.length : Int) else if rTop st = -1 then 99 else rTop st
def rCn (Z : RZT) (r p : Nat) (st : List RC) (d t : Int) : Prop := st.length < 6 ∧ (((d = 1 ∨ d = 2) ∧ (rTop st = t ∨ (rTop st ≠ -1 ∧ Z.2.2.2.2.2.2 r = 0 ∧ rAk Z (rTop st).toNat t.toNat))) ∨ (¬ (d = 1 ∨ d = 2) ∧ rTop st = -1 ∧ Z.2.2.1 t.toNat ≤ Z.1 p 1 + 2 ∧ (d = 3 ∨ (2 ≤ st.length ∧ rTw st = t))))
def rWk (r : Nat) (st : List RC) (d t : Int) : List RC := st ++ [((r : Int), d, if d = 1 ∨ d = 2 then -1 else t)]
def rSp (st : List RC) (d t : Int) : Int := if (d = 1 ∨ d = 2) ∧ rTop st ≠ t then 1 else 0
abbrev RX : Type := List RC × Int
noncomputable def rOne (Z : RZT) (r p : Nat) (q : OLn) (x : RX) : RX := pIf (rCn Z r p x.1 (q.1 + 1) q.2.1 ∧ eV (rFc Z p x.1) q.2.2 ≠ 0) (rWk r x.1 (q.1 + 1) q.2.1, x.2 + rSp x.1 (q.1 + 1) q.2.1) x
noncomputable def rLs (Z : RZT) (r p : Nat) : List OLn → RX → RX
  | [], x => x
  | q :: ls, x => rLs Z r p ls (rOne Z r p q x)
noncomputable def rOb (Z : RZT) (r p : Nat) (ls : List OLn) (x : RX) : RX := if x.1.length = 0 ∨ Z.2.2.2.2.2.1 r < Z.1 p 2 then x else rLs Z r p ls x
abbrev RST : Type := (Nat → List RC) × Int
noncomputable def rPs (Z : RZT) (r : Nat) (ls : List OLn) (X : RST) : Nat → RST
  | 0 => X
  | k + 1 => ((fun p => if p = k then (rOb Z r k ls ((rPs Z r ls X k).1 k, (rPs Z r ls X k).2)).1 else (rPs Z r ls X k).1 p), (rOb Z r k ls ((rPs Z r ls X k).1 k, (rPs Z r ls X k).2)).2)
noncomputable def rRun (Z : RZT) (B : Nat → List OLn) : Nat → RST
  | 0 => (rBg Z, 0)
  | r + 1 => rPs Z r (B r) (rRun Z B r) 12
/-- what stands is of one of a reign's lines that put away -/
def rAg (ls : List OLn) (t : Int) : Prop := ∃ (k : Nat) (q : OLn), ls[k]? = some q ∧ (q.1 + 1 = 1 ∨ q.1 + 1 = 2) ∧ q.2.1 = t
noncomputable def rMs (Z : RZT) (B : Nat → List OLn) (r : Nat) : Int := wBt (wDc (fun p => rTop ((rRun Z B (r + 1)).1 p) ≠ -1 ∧ rAg (B r) (rTop ((rRun Z B (r + 1)).1 p)))) 12
/-- how a place may stand -/
def rWf (st : List RC) : Prop := st.length ≤ 6 ∧ (∀ c : RC, st[0]? = some c → c.2.2 ≠ -1) ∧ ∀ (k : Nat) (c : RC), st[k]? = some c → (-1 ≤ c.1 ∧ c.1 ≤ 5) ∧ (0 ≤ c.2.1 ∧ c.2.1 ≤ 4) ∧ -1 ≤ c.2.2 ∧ c.2.2 ≤ 7
theorem rWf_top {st : List RC} (h : rWf st) : -1 ≤ rTop st ∧ rTop st ≤ 7 := by
  by_cases z : st.length = 0
  · rw [List.length_eq_zero_iff.mp z]
    exact ⟨by decide, by decide⟩
  · obtain ⟨c, hc⟩ := rGet (st := st) (k := st.length - 1) (by omega)
    rw [rTop_at hc]
    exact (h.2.2 _ c hc).2.2
theorem rWf_two {st : List RC} (h : rWf st) (h0 : st.length ≠ 0) (ht : rTop st = -1) : 2 ≤ st.length := by
  rcases Nat.lt_or_ge st.length 2 with q | q
  · have e : st.length - 1 = 0 := by omega
    obtain ⟨c, hc⟩ := rGet (st := st) (k := st.length - 1) (by omega)
    rw [rTop_at hc] at ht
    rw [e] at hc
    exact absurd ht (h.2.1 c hc)
  · exact q
theorem rWf_wk {r : Nat} {st : List RC} {d t : Int} (h : rWf st) (h6 : st.length < 6) (h0 : st.length ≠ 0) (hr : r < 6) (hd : 1 ≤ d ∧ d ≤ 4) (ht : 0 ≤ t ∧ t ≤ 7) : rWf (rWk r st d t) := by
  obtain ⟨w1, w2, w3⟩ := h
  unfold rWk
  refine ⟨by rw [List.length_append]; exact h6, fun c hc => ?_, fun k c hc => ?_⟩
  · rw [List.getElem?_append_left (by omega)] at hc
    exact w2 c hc
  · rcases Nat.lt_or_ge k st.length with q | q
    · rw [List.getElem?_append_left q] at hc
      exact w3 k c hc
    · rw [List.getElem?_append_right q] at hc
      have e : k - st.length = 0 := by
        have : k - st.length < 1 := (List.getElem?_eq_some_iff.mp hc).1
        omega
      rw [e] at hc
      cases hc
      refine ⟨⟨by dsimp only; omega, by dsimp only; omega⟩, ⟨by dsimp only; omega, by dsimp only; omega⟩, ?_⟩
      dsimp only
      split <;> omega
theorem rWk_len {r : Nat} {st : List RC} {d t : Int} : (rWk r st d t).length = st.length + 1 := by
  unfold rWk
  rw [List.length_append]
  rfl
theorem rSp_b (st : List RC) (d t : Int) : 0 ≤ rSp st d t ∧ rSp st d t ≤ 1 := by
  unfold rSp
  split <;> omega
theorem rOne_wf {Z : RZT} {r p : Nat} {q : OLn} {x : RX} (hr : r < 6) (hq : oLnk q) (h : rWf x.1) (h0 : x.1.length ≠ 0) : rWf (rOne Z r p q x).1 ∧ (rOne Z r p q x).1.length ≠ 0 ∧ x.2 ≤ (rOne Z r p q x).2 ∧ (rOne Z r p q x).2 ≤ x.2 + 1 := by
  obtain ⟨-, q1, q2, q3, q4⟩ := hq
  unfold rOne
  by_cases z : rCn Z r p x.1 (q.1 + 1) q.2.1 ∧ eV (rFc Z p x.1) q.2.2 ≠ 0
  · rw [pIf_y z]
    have b := rSp_b x.1 (q.1 + 1) q.2.1
    refine ⟨rWf_wk h z.1.1 h0 hr (by omega) (by omega), ?_, ?_, ?_⟩
    · dsimp only
      rw [rWk_len]
      omega
    · dsimp only
      omega
    · dsimp only
      omega
  · rw [pIf_n z]
    exact ⟨h, h0, by omega, by omega⟩
theorem rLs_wf {Z : RZT} {r p : Nat} (hr : r < 6) : ∀ {ls : List OLn} {x : RX}, (∀ q ∈ ls, oLnk q) → rWf x.1 → x.1.length ≠ 0 → rWf (rLs Z r p ls x).1 ∧ (rLs Z r p ls x).1.length ≠ 0 ∧ x.2 ≤ (rLs Z r p ls x).2 ∧ (rLs Z r p ls x).2 ≤ x.2 + ls.length := by
  intro ls
  induction ls with
  | nil => intro x _ h h0; exact ⟨h, h0, Int.le_refl _, by show x.2 ≤ x.2 + ((0 : Nat) : Int); omega⟩
  | cons q ls ih =>
    intro x hq h h0
    obtain ⟨g1, g2, g3, g4⟩ := rOne_wf (Z := Z) (p := p) hr (hq q (List.mem_cons_self)) h h0
    obtain ⟨k1, k2, k3, k4⟩ := ih (fun q' h' => hq q' (List.mem_cons_of_mem _ h')) g1 g2
    refine ⟨k1, k2, ?_, ?_⟩
    · show x.2 ≤ (rLs Z r p ls (rOne Z r p q x)).2
      omega
    · show (rLs Z r p ls (rOne Z r p q x)).2 ≤ x.2 + ((ls.length + 1 : Nat) : Int)
      omega
theorem rOb_wf {Z : RZT} {r p : Nat} {ls : List OLn} {x : RX} (hr : r < 6) (hl : ls.length ≤ 12) (hq : ∀ q ∈ ls, oLnk q) (h : rWf x.1) : rWf (rOb Z r p ls x).1 ∧ x.2 ≤ (rOb Z r p ls x).2 ∧ (rOb Z r p ls x).2 ≤ x.2 + 12 := by
  unfold rOb
  by_cases z : x.1.length = 0 ∨ Z.2.2.2.2.2.1 r < Z.1 p 2
  · rw [if_pos z]
    exact ⟨h, by omega, by omega⟩
  · rw [if_neg z]
    obtain ⟨k1, k2, k3, k4⟩ := rLs_wf (Z := Z) (p := p) hr hq h (fun q => z (Or.inl q))
    exact ⟨k1, k3, by omega⟩
def rBk (B : Nat → List OLn) : Prop := ∀ r, r < 6 → (B r).length ≤ 12 ∧ ∀ q ∈ B r, oLnk q
theorem rPs_wf {Z : RZT} {r : Nat} {ls : List OLn} {X : RST} (hr : r < 6) (hl : ls.length ≤ 12) (hq : ∀ q ∈ ls, oLnk q) (h : ∀ p, rWf (X.1 p)) : ∀ k, (∀ p, rWf ((rPs Z r ls X k).1 p)) ∧ X.2 ≤ (rPs Z r ls X k).2 ∧ (rPs Z r ls X k).2 ≤ X.2 + 12 * k := by
  intro k
  induction k with
  | zero => exact ⟨h, Int.le_refl _, by show X.2 ≤ X.2 + 12 * ((0 : Nat) : Int); omega⟩
  | succ k ih =>
    obtain ⟨i1, i2, i3⟩ := ih
    obtain ⟨g1, g2, g3⟩ := rOb_wf (Z := Z) (p := k) (x := ((rPs Z r ls X k).1 k, (rPs Z r ls X k).2)) hr hl hq (i1 k)
    refine ⟨fun p => ?_, ?_, ?_⟩
    · show rWf (if p = k then (rOb Z r k ls ((rPs Z r ls X k).1 k, (rPs Z r ls X k).2)).1 else (rPs Z r ls X k).1 p)
      by_cases e : p = k
      · rw [if_pos e]; exact g1
      · rw [if_neg e]; exact i1 p
    · show X.2 ≤ (rOb Z r k ls ((rPs Z r ls X k).1 k, (rPs Z r ls X k).2)).2
      have g2 : (rPs Z r ls X k).2 ≤ (rOb Z r k ls ((rPs Z r ls X k).1 k, (rPs Z r ls X k).2)).2 := g2
      omega
    · show (rOb Z r k ls ((rPs Z r ls X k).1 k, (rPs Z r ls X k).2)).2 ≤ X.2 + 12 * ((k + 1 : Nat) : Int)
      have g3 : (rOb Z r k ls ((rPs Z r ls X k).1 k, (rPs Z r ls X k).2)).2 ≤ (rPs Z r ls X k).2 + 12 := g3
      omega
theorem rBg_wf {Z : RZT} (hn : ∀ p, -1 ≤ Z.2.1 p 0 ∧ Z.2.1 p 0 ≤ 7) (p : Nat) : rWf (rBg Z p) := by
  unfold rBg
  have b := hn p
  by_cases z : Z.1 p 0 ≠ 0 ∧ 0 < Z.1 p 5 ∧ Z.2.1 p 0 ≠ -1
  · rw [if_pos z]
    refine ⟨by show 1 ≤ 6; omega, fun c hc => ?_, fun k c hc => ?_⟩
    · cases hc
      exact z.2.2
    · have e : k = 0 := by
        have : k < 1 := (List.getElem?_eq_some_iff.mp hc).1
        omega
      subst e
      cases hc
      exact ⟨⟨by dsimp only; omega, by dsimp only; omega⟩, ⟨by dsimp only; omega, by dsimp only; omega⟩, b⟩
  · rw [if_neg z]
    exact ⟨by show 0 ≤ 6; omega, fun c hc => (by cases hc), fun k c hc => by cases hc⟩
theorem rRun_wf {Z : RZT} {B : Nat → List OLn} (hn : ∀ p, -1 ≤ Z.2.1 p 0 ∧ Z.2.1 p 0 ≤ 7) (hB : rBk B) : ∀ r, r ≤ 6 → (∀ p, rWf ((rRun Z B r).1 p)) ∧ 0 ≤ (rRun Z B r).2 ∧ (rRun Z B r).2 ≤ 144 * r := by
  intro r
  induction r with
  | zero => intro _; exact ⟨rBg_wf hn, Int.le_refl _, by show (0 : Int) ≤ 144 * ((0 : Nat) : Int); omega⟩
  | succ r ih =>
    intro h6
    obtain ⟨i1, i2, i3⟩ := ih (by omega)
    obtain ⟨g1, g2, g3⟩ := rPs_wf (Z := Z) (r := r) (ls := B r) (X := rRun Z B r) (by omega) (hB r (by omega)).1 (hB r (by omega)).2 i1 12
    refine ⟨g1, ?_, ?_⟩
    · show 0 ≤ (rPs Z r (B r) (rRun Z B r) 12).2
      omega
    · show (rPs Z r (B r) (rRun Z B r) 12).2 ≤ 144 * ((r + 1 : Nat) : Int)
      omega
/-- how a place lies in rows -/
def rLg (f0 f1 f2 f3 : Nat) (M : SMem) (p : Nat) (st : List RC) : Prop := M f0 0 p = (st.length : Int) ∧ ∀ (k : Nat) (c : RC), st[k]? = some c → M f1 0 (6 * p + k) = c.1 ∧ M f2 0 (6 * p + k) = c.2.1 ∧ M f3 0 (6 * p + k) = c.2.2
theorem rLg_cg {f0 f1 f2 f3 : Nat} {M M' : SMem} {p : Nat} {st : List RC} (h0 : M' f0 0 p = M f0 0 p) (h : ∀ f k, (f = f1 ∨ f = f2 ∨ f = f3) → k < st.length → M' f 0 (6 * p + k) = M f 0 (6 * p + k)) (g : rLg f0 f1 f2 f3 M p st) : rLg f0 f1 f2 f3 M' p st := by
  refine ⟨h0.trans g.1, fun k c hc => ?_⟩
  have hk := (List.getElem?_eq_some_iff.mp hc).1
  obtain ⟨g1, g2, g3⟩ := g.2 k c hc
  exact ⟨(h f1 k (Or.inl rfl) hk).trans g1, (h f2 k (Or.inr (Or.inl rfl)) hk).trans g2, (h f3 k (Or.inr (Or.inr rfl)) hk).trans g3⟩
theorem rLg_top {f0 f1 f2 f3 : Nat} {M : SMem} {p n : Nat} {st : List RC} (hn : n = st.length) (h0 : n ≠ 0) (g : rLg f0 f1 f2 f3 M p st) : M f3 0 (6 * p + n - 1) = rTop st := by
  subst hn
  obtain ⟨c, hc⟩ := rGet (st := st) (k := st.length - 1) (by omega)
  rw [rTop_at hc, ← (g.2 _ c hc).2.2]
  exact congrArg (M f3 0) (by omega)
theorem rLg_two {f0 f1 f2 f3 : Nat} {M : SMem} {p n : Nat} {st : List RC} (hn : n = st.length) (h2 : 2 ≤ n) (g : rLg f0 f1 f2 f3 M p st) : M f3 0 (6 * p + n - 2) = rTw st := by
  subst hn
  obtain ⟨c, hc⟩ := rGet (st := st) (k := st.length - 2) (by omega)
  rw [rTw_at hc, ← (g.2 _ c hc).2.2]
  exact congrArg (M f3 0) (by omega)
/-- a cut more -/
def rAdd (f0 f1 f2 f3 : Nat) (M : SMem) (p n : Nat) (a b c : Int) : SMem := supd (supd (supd (supd M f1 0 (6 * p + n) a) f2 0 (6 * p + n) b) f3 0 (6 * p + n) c) f0 0 p ((n : Int) + 1)
theorem rAdd_o {f0 f1 f2 f3 : Nat} {M : SMem} {p n : Nat} {a b c : Int} {f j i : Nat} (h : f ≠ f0 ∧ f ≠ f1 ∧ f ≠ f2 ∧ f ≠ f3) : rAdd f0 f1 f2 f3 M p n a b c f j i = M f j i := by
  unfold rAdd
  rw [supd_f h.1, supd_f h.2.2.2, supd_f h.2.2.1, supd_f h.2.1]
theorem rAdd_q {f0 f1 f2 f3 : Nat} (hf : f0 ≠ f1 ∧ f0 ≠ f2 ∧ f0 ≠ f3) {M : SMem} {p p' n : Nat} {a b c : Int} {st : List RC} (hn : n < 6) (h6 : st.length ≤ 6) (hp : p' ≠ p) (g : rLg f0 f1 f2 f3 M p' st) : rLg f0 f1 f2 f3 (rAdd f0 f1 f2 f3 M p n a b c) p' st := by
  have w : ∀ (f : Nat) (z : Int) (M9 : SMem) (f' k : Nat), k < 6 → supd M9 f 0 (6 * p + n) z f' 0 (6 * p' + k) = M9 f' 0 (6 * p' + k) := fun f z M9 f' k hk => supd_i (by omega)
  refine rLg_cg ?_ (fun f k hf' hk => ?_) g
  · unfold rAdd
    rw [supd_i hp, supd_f hf.2.2, supd_f hf.2.1, supd_f hf.1]
  · unfold rAdd
    rw [supd_f (by omega), w _ _ _ _ _ (by omega), w _ _ _ _ _ (by omega), w _ _ _ _ _ (by omega)]
theorem rAdd_p {f0 f1 f2 f3 : Nat} (hf : f0 ≠ f1 ∧ f0 ≠ f2 ∧ f0 ≠ f3 ∧ f1 ≠ f2 ∧ f1 ≠ f3 ∧ f2 ≠ f3) {M : SMem} {p n : Nat} {a b c : Int} {st : List RC} (hn : n = st.length) (g : rLg f0 f1 f2 f3 M p st) : rLg f0 f1 f2 f3 (rAdd f0 f1 f2 f3 M p n a b c) p (st ++ [(a, b, c)]) := by
  subst hn
  unfold rAdd
  refine ⟨by rw [supd_at, List.length_append]; rfl, fun k q hk => ?_⟩
  have w : ∀ (f : Nat) (z : Int) (M9 : SMem) (f' : Nat), k ≠ st.length → supd M9 f 0 (6 * p + st.length) z f' 0 (6 * p + k) = M9 f' 0 (6 * p + k) := fun f z M9 f' h => supd_i (by omega)
  rcases Nat.lt_or_ge k st.length with z | z
  · rw [List.getElem?_append_left z] at hk
    obtain ⟨g1, g2, g3⟩ := g.2 k q hk
    have hne : k ≠ st.length := by omega
    refine ⟨?_, ?_, ?_⟩
    · rw [supd_f (by omega), w _ _ _ _ hne, w _ _ _ _ hne, w _ _ _ _ hne, g1]
    · rw [supd_f (by omega), w _ _ _ _ hne, w _ _ _ _ hne, w _ _ _ _ hne, g2]
    · rw [supd_f (by omega), w _ _ _ _ hne, w _ _ _ _ hne, w _ _ _ _ hne, g3]
  · rw [List.getElem?_append_right z] at hk
    have e : k = st.length := by
      have : k - st.length < 1 := (List.getElem?_eq_some_iff.mp hk).1
      omega
    subst e
    rw [Nat.sub_self] at hk
    cases hk
    refine ⟨?_, ?_, ?_⟩
    · rw [supd_f (by omega), supd_f (by omega), supd_f (by omega), supd_at]
    · rw [supd_f (by omega), supd_f (by omega), supd_at]
    · rw [supd_f (by omega), supd_at]
