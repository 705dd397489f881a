/-! cells: an array by the kind of its elements (0 int, 1 boolean, 2 char, 3 long, 4 Wall, 5 Order), an object by its class in vwCl -/
def zdv (t : Nat) : Value := cond (Nat.blt t 3) (.int 0) (cond (Nat.beq t 3) (.long 0) .null)
noncomputable def zel (t : Nat) (us : ZL) (j : Nat) : Value := match zlk us j with
  | some v => v
  | none => zdv t
theorem zel_put (t : Nat) (us : ZL) (j : Nat) (v : Value) (i : Nat) : zel t ((j, v) :: zdrop us j) i = if i = j then v else zel t us i := by
  unfold zel
  rw [zlk_put]
  by_cases h : i = j
  · rw [if_pos h, if_pos h]
  · rw [if_neg h, if_neg h]
def za (ad : List Nat) (g : ZG) (t : Nat) (us : ZL) (arr : (Nat → Int32) ⊕ (Nat → Int64) ⊕ (Nat → UInt32) ⊕ (Nat → UInt64) ⊕ (Nat → Option Nat)) : Prop :=
  (t < 3 → ∃ f : Nat → Int32, arr = .inl f ∧ ∀ j, zv ad g (zel t us j) (.int (f j))) ∧
  (t = 3 → ∃ f : Nat → Int64, arr = .inr (.inl f) ∧ ∀ j, zel t us j = .long (f j)) ∧
  (3 < t → ∃ f : Nat → Option Nat, arr = .inr (.inr (.inr (.inr f))) ∧ ∀ j, zv ad g (zel t us j) (va_rf (f j)))
def ze (ad : List Nat) (g : ZG) (cA : Nat → ClassId) (e : ZE) (w : va_E) : Prop := match e with
  | .inl x => ∃ arr, w = .inl (cA x.1, x.2.1, arr) ∧ za ad g x.1 x.2.2 arr
  | .inr x => ∃ gs, w = .inr (x.1, gs) ∧ zvs ad g x.2 gs
theorem za_mono {ad ad' : List Nat} {g : ZG} (hm : ∀ (k a : Nat), ad[k]? = some a → ad'[k]? = some a) {t : Nat} {us : ZL} {arr : (Nat → Int32) ⊕ (Nat → Int64) ⊕ (Nat → UInt32) ⊕ (Nat → UInt64) ⊕ (Nat → Option Nat)} (h : za ad g t us arr) : za ad' g t us arr := by
  obtain ⟨h1, h2, h3⟩ := h
  refine ⟨fun q => ?_, h2, fun q => ?_⟩
  · obtain ⟨f, e, hf⟩ := h1 q
    exact ⟨f, e, fun j => zv_mono hm (hf j)⟩
  · obtain ⟨f, e, hf⟩ := h3 q
    exact ⟨f, e, fun j => zv_mono hm (hf j)⟩
theorem ze_mono {ad ad' : List Nat} {g : ZG} {cA : Nat → ClassId} (hm : ∀ (k a : Nat), ad[k]? = some a → ad'[k]? = some a) {e : ZE} {w : va_E} (h : ze ad g cA e w) : ze ad' g cA e w := by
  cases e with
  | inl x =>
    obtain ⟨arr, e1, h1⟩ := h
    exact ⟨arr, e1, za_mono hm h1⟩
  | inr x =>
    obtain ⟨gs, e1, h1⟩ := h
    exact ⟨gs, e1, zvs_mono hm h1⟩
def zad (ws : va_W) : List Nat := ws.map Prod.fst
def zh (g : ZG) (cA : Nat → ClassId) (hp : List ZE) (ws : va_W) : Prop := ws.length = hp.length ∧ (∀ (k : Nat) (e : ZE) (w : Nat × va_E), hp[k]? = some e → ws[k]? = some w → ze (zad ws) g cA e w.2) ∧ ∀ (k a : Nat), g.2.2[k]? = some a → (zad ws)[k]? = some a
theorem zad_get {ws : va_W} {k : Nat} {a : Nat} (h : (zad ws)[k]? = some a) : ∃ w, ws[k]? = some (a, w) := by
  unfold zad at h
  rw [List.getElem?_map] at h
  cases hw : ws[k]? with
  | none => rw [hw] at h; cases h
  | some q =>
    rw [hw] at h
    obtain ⟨x, y⟩ := q
    cases h
    exact ⟨y, rfl⟩
theorem zad_of {ws : va_W} {k a : Nat} {w : va_E} (h : ws[k]? = some (a, w)) : (zad ws)[k]? = some a := by
  unfold zad
  rw [List.getElem?_map, h]
  rfl
theorem zad_set {ws : va_W} {k a : Nat} {w w' : va_E} (h : ws[k]? = some (a, w)) : zad (ws.set k (a, w')) = zad ws := by
  unfold zad
  rw [List.map_set]
  apply List.ext_getElem?
  intro i
  rw [List.getElem?_set]
  by_cases hi : k = i
  · subst hi
    rw [if_pos rfl, List.getElem?_map, h]
    have hl : k < ws.length := (List.getElem?_eq_some_iff.mp h).1
    simp [hl]
  · rw [if_neg hi]
theorem zad_app (ws : va_W) (q : Nat) (w : va_E) (k a : Nat) (h : (zad ws)[k]? = some a) : (zad (ws ++ [(q, w)]))[k]? = some a := by
  unfold zad at h ⊢
  rw [List.map_append, List.getElem?_append_left]
  · exact h
  · exact (List.getElem?_eq_some_iff.mp h).1
/-- a cell that is there -/
theorem zh_at {g : ZG} {cA : Nat → ClassId} {hp : List ZE} {ws : va_W} (h : zh g cA hp ws) {k : Nat} {e : ZE} {a : Nat} (he : hp[k]? = some e) (ha : (zad ws)[k]? = some a) : ∃ w, ws[k]? = some (a, w) ∧ ze (zad ws) g cA e w := by
  obtain ⟨w, hw⟩ := zad_get ha
  exact ⟨w, hw, h.2.1 k e (a, w) he hw⟩
theorem zh_set {g : ZG} {cA : Nat → ClassId} {hp : List ZE} {ws : va_W} (h : zh g cA hp ws) {k a : Nat} {e' : ZE} {w w' : va_E} (hw : ws[k]? = some (a, w)) (he : ze (zad ws) g cA e' w') : zh g cA (hp.set k e') (ws.set k (a, w')) := by
  refine ⟨by simp [h.1], fun i e q h1 h2 => ?_, fun i x hi => by rw [zad_set hw]; exact h.2.2 i x hi⟩
  rw [zad_set hw]
  rw [List.getElem?_set] at h1 h2
  by_cases hi : k = i
  · subst hi
    rw [if_pos rfl] at h1 h2
    split at h1
    · split at h2
      · cases h1
        cases h2
        exact he
      · cases h2
    · cases h1
  · rw [if_neg hi] at h1 h2
    exact h.2.1 i e q h1 h2
theorem zh_app {g : ZG} {cA : Nat → ClassId} {hp : List ZE} {ws : va_W} (h : zh g cA hp ws) (q : Nat) {e' : ZE} {w' : va_E} (he : ze (zad (ws ++ [(q, w')])) g cA e' w') : zh g cA (hp ++ [e']) (ws ++ [(q, w')]) := by
  refine ⟨by simp [h.1], fun i e x h1 h2 => ?_, fun i x hi => zad_app ws q w' i x (h.2.2 i x hi)⟩
  by_cases hi : i < hp.length
  · rw [List.getElem?_append_left hi] at h1
    rw [List.getElem?_append_left (by rw [h.1]; exact hi)] at h2
    exact ze_mono (zad_app ws q w') (h.2.1 i e x h1 h2)
  · rw [List.getElem?_append_right (by omega)] at h1
    rw [List.getElem?_append_right (by rw [h.1]; omega)] at h2
    rw [h.1] at h2
    cases hj : i - hp.length with
    | zero =>
      rw [hj] at h1 h2
      cases h1
      cases h2
      exact he
    | succ n =>
      rw [hj] at h1
      cases h1
theorem zad_last (ws : va_W) (q : Nat) (w : va_E) : (zad (ws ++ [(q, w)]))[ws.length]? = some q := by
  unfold zad
  rw [List.map_append, List.getElem?_append_right (by simp)]
  simp
def ztys (cA : Nat → ClassId) : List (ClassId × FieldType) := [(cA 0, .int), (cA 1, .boolean), (cA 2, .char), (cA 3, .long), (cA 4, .object "NamesUnder$Wall"), (cA 5, .object "NamesUnder$Order")]
def zty (t : Nat) : FieldType := match t with
  | 0 => .int
  | 1 => .boolean
  | 2 => .char
  | 3 => .long
  | 4 => .object "NamesUnder$Wall"
  | _ => .object "NamesUnder$Order"
theorem ztys_at (cA : Nat → ClassId) {t : Nat} (h : t < 6) : (ztys cA)[t]? = some (cA t, zty t) := by
  match t, h with
  | 0, _ => rfl
  | 1, _ => rfl
  | 2, _ => rfl
  | 3, _ => rfl
  | 4, _ => rfl
  | 5, _ => rfl
/-- stores -/
theorem za_putI {ad : List Nat} {g : ZG} {t : Nat} {us : ZL} {f : Nat → Int32} (ht : t < 3) (hf : ∀ j, zv ad g (zel t us j) (.int (f j))) {i : Nat} {v : Value} {x : Int32} (hv : zv ad g v (.int x)) : za ad g t ((i, v) :: zdrop us i) (.inl (upd f i x)) := by
  refine ⟨fun _ => ⟨_, rfl, fun j => ?_⟩, fun h => by omega, fun h => by omega⟩
  rw [zel_put]
  unfold upd
  by_cases h : j = i
  · rw [if_pos h, if_pos h]
    exact hv
  · rw [if_neg h, if_neg h]
    exact hf j
theorem za_putL {ad : List Nat} {g : ZG} {us : ZL} {f : Nat → Int64} (hf : ∀ j, zel 3 us j = .long (f j)) {i : Nat} {x : Int64} : za ad g 3 ((i, .long x) :: zdrop us i) (.inr (.inl (vp_updL f i x))) := by
  refine ⟨fun h => by omega, fun _ => ⟨_, rfl, fun j => ?_⟩, fun h => by omega⟩
  rw [zel_put]
  unfold vp_updL
  by_cases h : j = i
  · rw [if_pos h, if_pos h]
  · rw [if_neg h, if_neg h]
    exact hf j
theorem za_putR {ad : List Nat} {g : ZG} {t : Nat} {us : ZL} {f : Nat → Option Nat} (ht : 3 < t) (hf : ∀ j, zv ad g (zel t us j) (va_rf (f j))) {i : Nat} {v : Value} {x : Nat} (hv : zv ad g v (.ref x)) : za ad g t ((i, v) :: zdrop us i) (.inr (.inr (.inr (.inr (va_up f i (some x)))))) := by
  refine ⟨fun h => by omega, fun h => by omega, fun _ => ⟨_, rfl, fun j => ?_⟩⟩
  rw [zel_put]
  unfold va_up
  by_cases h : j = i
  · rw [if_pos h, if_pos h]
    exact hv
  · rw [if_neg h, if_neg h]
    exact hf j
/-! known ints, and tokens within bounds -/
noncomputable def zrg (E : ZN) (v : Value) (k : Int → Int → Nat → ZX) : ZX := match v with
  | .int x => k x.toInt x.toInt 0
  | .retAddr t => (match zget E t with
    | some q => k q.1 q.2 t
    | none => zfail)
  | _ => zfail
theorem zrg_ok {E : ZN} {g : ZG} {ad : List Nat} {v c : Value} {k : Int → Int → Nat → ZX} {r : ZS} (hE : zen E g) (hv : zv ad g v c) (h : zrg E v k = .ok r) : ∃ (x : Int32) (lo hi : Int) (t : Nat), c = .int x ∧ lo ≤ x.toInt ∧ x.toInt ≤ hi ∧ k lo hi t = .ok r := by
  cases v with
  | int x =>
    cases (show c = _ from hv)
    exact ⟨x, x.toInt, x.toInt, 0, rfl, by omega, by omega, h⟩
  | retAddr t =>
    cases (show c = _ from hv)
    simp only [zrg, zget_eq] at h
    cases hq : E[t]? with
    | none => simp only [hq] at h; cases h
    | some q =>
      simp only [hq] at h
      exact ⟨g.1 t, q.1, q.2, t, rfl, (hE t q hq).1, (hE t q hq).2, h⟩
  | ref k => cases h
  | double k => cases h
  | long x => cases h
  | float x => cases h
  | null => cases h
noncomputable def zI (E : ZN) (v : Value) (k : Int32 → ZX) : ZX := match v with
  | .int x => k x
  | .retAddr t => (match zget E t with
    | some q => cond (decide (q.1 = q.2)) (zi (Int32.ofInt q.1) k) (.error (t, q.1 + 1))
    | none => zfail)
  | _ => zfail
theorem zI_ok {E : ZN} {g : ZG} {ad : List Nat} {v c : Value} {k : Int32 → ZX} {r : ZS} (hE : zen E g) (hv : zv ad g v c) (h : zI E v k = .ok r) : ∃ x : Int32, c = .int x ∧ k x = .ok r := by
  cases v with
  | int x =>
    cases (show c = _ from hv)
    exact ⟨x, rfl, h⟩
  | retAddr t =>
    cases (show c = _ from hv)
    simp only [zI, zget_eq] at h
    cases hq : E[t]? with
    | none => simp only [hq] at h; cases h
    | some q =>
      simp only [hq] at h
      have he := hE t q hq
      by_cases hc : q.1 = q.2
      · rw [decide_eq_true hc] at h
        rw [cond_true, zi_eq] at h
        have hx : (g.1 t).toInt = q.1 := by omega
        rw [← hx, Int32.ofInt_toInt] at h
        exact ⟨g.1 t, rfl, h⟩
      · rw [decide_eq_false hc] at h
        cases h
  | ref k => cases h
  | double k => cases h
  | long x => cases h
  | float x => cases h
  | null => cases h
noncomputable def zlt (lo hi b : Int) (t : Nat) (k : Bool → ZX) : ZX := cond (decide (hi < b)) (k true) (cond (decide (b ≤ lo)) (k false) (.error (t, b)))
theorem zlt_ok {lo hi b : Int} {t : Nat} {k : Bool → ZX} {r : ZS} {z : Int} (h1 : lo ≤ z) (h2 : z ≤ hi) (h : zlt lo hi b t k = .ok r) : k (decide (z < b)) = .ok r := by
  unfold zlt at h
  by_cases ha : hi < b
  · rw [decide_eq_true ha, cond_true] at h
    rw [decide_eq_true (by omega)]
    exact h
  · rw [decide_eq_false ha, cond_false] at h
    by_cases hb : b ≤ lo
    · rw [decide_eq_true hb, cond_true] at h
      rw [decide_eq_false (by omega)]
      exact h
    · rw [decide_eq_false hb] at h
      cases h
def zro (op : ClassFile.Cond) (a b : Int) : Bool := match op with
  | .eq => decide (a = b)
  | .ne => !(decide (a = b))
  | .lt => decide (a < b)
  | .ge => !(decide (a < b))
  | .gt => !(decide (a < b + 1))
  | .le => decide (a < b + 1)
noncomputable def zcp (op : ClassFile.Cond) (lo hi b : Int) (t : Nat) (k : Bool → ZX) : ZX := match op with
  | .eq => zlt lo hi b t (fun d => cond d (k false) (zlt lo hi (b + 1) t k))
  | .ne => zlt lo hi b t (fun d => cond d (k true) (zlt lo hi (b + 1) t (fun d => k (!d))))
  | .lt => zlt lo hi b t k
  | .ge => zlt lo hi b t (fun d => k (!d))
  | .gt => zlt lo hi (b + 1) t (fun d => k (!d))
  | .le => zlt lo hi (b + 1) t k
theorem zcp_ok {op : ClassFile.Cond} {lo hi b : Int} {t : Nat} {k : Bool → ZX} {r : ZS} {z : Int} (h1 : lo ≤ z) (h2 : z ≤ hi) (h : zcp op lo hi b t k = .ok r) : k (zro op z b) = .ok r := by
  cases op with
  | eq =>
    have h3 := zlt_ok h1 h2 (show zlt lo hi b t (fun d => cond d (k false) (zlt lo hi (b + 1) t k)) = .ok r from h)
    show k (decide (z = b)) = .ok r
    by_cases hz : z < b
    · rw [decide_eq_true hz, cond_true] at h3
      rw [decide_eq_false (by omega)]
      exact h3
    · rw [decide_eq_false hz, cond_false] at h3
      have h4 := zlt_ok h1 h2 h3
      rw [show decide (z = b) = decide (z < b + 1) from decide_eq_decide.mpr (by omega)]
      exact h4
  | ne =>
    have h3 := zlt_ok h1 h2 (show zlt lo hi b t (fun d => cond d (k true) (zlt lo hi (b + 1) t (fun d => k (!d)))) = .ok r from h)
    show k (!(decide (z = b))) = .ok r
    by_cases hz : z < b
    · rw [decide_eq_true hz, cond_true] at h3
      rw [decide_eq_false (by omega)]
      exact h3
    · rw [decide_eq_false hz, cond_false] at h3
      have h4 := zlt_ok h1 h2 h3
      rw [show decide (z = b) = decide (z < b + 1) from decide_eq_decide.mpr (by omega)]
      exact h4
  | lt => exact zlt_ok h1 h2 h
  | ge => exact zlt_ok h1 h2 (show zlt lo hi b t (fun d => k (!d)) = .ok r from h)
  | gt => exact zlt_ok h1 h2 (show zlt lo hi (b + 1) t (fun d => k (!d)) = .ok r from h)
  | le => exact zlt_ok h1 h2 (show zlt lo hi (b + 1) t k = .ok r from h)
noncomputable def zcmp (E : ZN) (op : ClassFile.Cond) (x y : Value) (k : Bool → ZX) : ZX := zI E y (fun b => zrg E x (fun lo hi t => zcp op lo hi b.toInt t k))
theorem zcmp_ok {E : ZN} {g : ZG} {ad : List Nat} {op : ClassFile.Cond} {x y cx cy : Value} {k : Bool → ZX} {r : ZS} (hE : zen E g) (hx : zv ad g x cx) (hy : zv ad g y cy) (h : zcmp E op x y k = .ok r) : ∃ a b : Int32, cx = .int a ∧ cy = .int b ∧ k (zro op a.toInt b.toInt) = .ok r := by
  obtain ⟨b, e2, h⟩ := zI_ok hE hy h
  obtain ⟨a, lo, hi, t, e1, h1, h2, h3⟩ := zrg_ok hE hx h
  exact ⟨a, b, e1, e2, zcp_ok h1 h2 h3⟩
def zint (v : Value) : Bool := match v with
  | .int _ => true
  | .retAddr _ => true
  | _ => false
theorem zint_ok {g : ZG} {ad : List Nat} {v c : Value} (h : zint v = true) (hv : zv ad g v c) : ∃ x : Int32, c = .int x := by
  cases v with
  | int x => exact ⟨_, hv⟩
  | retAddr t => exact ⟨_, hv⟩
  | ref k => cases h
  | double k => cases h
  | long x => cases h
  | float x => cases h
  | null => cases h
def zref (v : Value) : Bool := match v with
  | .ref _ => true
  | .float _ => true
  | _ => false
theorem zref_ok {g : ZG} {ad : List Nat} {v c : Value} (h : zref v = true) (hv : zv ad g v c) : ∃ a : Nat, c = .ref a := by
  cases v with
  | int x => cases h
  | retAddr t => cases h
  | ref k =>
    obtain ⟨a, -, e⟩ := hv
    exact ⟨a, e⟩
  | double k => cases h
  | long x => cases h
  | float x => exact ⟨_, hv⟩
  | null => cases h
noncomputable def zrf (hp : List ZE) (v : Value) (k : Nat → ZE → ZX) : ZX := match v with
  | .ref q => (match zget hp q with
    | some e => k q e
    | none => zfail)
  | _ => zfail
theorem zrf_ok {g : ZG} {cA : Nat → ClassId} {hp : List ZE} {ws : va_W} {v c : Value} {k : Nat → ZE → ZX} {r : ZS} (hh : zh g cA hp ws) (hv : zv (zad ws) g v c) (h : zrf hp v k = .ok r) : ∃ (q : Nat) (e : ZE) (a : Nat) (w : va_E), v = .ref q ∧ hp[q]? = some e ∧ c = .ref a ∧ ws[q]? = some (a, w) ∧ ze (zad ws) g cA e w ∧ k q e = .ok r := by
  cases v with
  | ref q =>
    obtain ⟨a, h1, rfl⟩ := hv
    simp only [zrf, zget_eq] at h
    cases hq : hp[q]? with
    | none => simp only [hq] at h; cases h
    | some e =>
      simp only [hq] at h
      obtain ⟨w, h2, h3⟩ := zh_at hh hq h1
      exact ⟨q, e, a, w, rfl, hq, rfl, h2, h3, h⟩
  | int x => cases h
  | retAddr t => cases h
  | double k => cases h
  | long x => cases h
  | float x => cases h
  | null => cases h
theorem za_g {ad : List Nat} {g g' : ZG} (h1 : g'.1 = g.1) (h2 : g'.2.1 = g.2.1) {t : Nat} {us : ZL} {arr : (Nat → Int32) ⊕ (Nat → Int64) ⊕ (Nat → UInt32) ⊕ (Nat → UInt64) ⊕ (Nat → Option Nat)} (h : za ad g t us arr) : za ad g' t us arr := by
  obtain ⟨q1, q2, q3⟩ := h
  refine ⟨fun q => ?_, q2, fun q => ?_⟩
  · obtain ⟨f, e, hf⟩ := q1 q
    exact ⟨f, e, fun j => zv_g h1 h2 (hf j)⟩
  · obtain ⟨f, e, hf⟩ := q3 q
    exact ⟨f, e, fun j => zv_g h1 h2 (hf j)⟩
theorem ze_g {ad : List Nat} {g g' : ZG} {cA : Nat → ClassId} (h1 : g'.1 = g.1) (h2 : g'.2.1 = g.2.1) {e : ZE} {w : va_E} (h : ze ad g cA e w) : ze ad g' cA e w := by
  cases e with
  | inl x =>
    obtain ⟨arr, e1, q⟩ := h
    exact ⟨arr, e1, za_g h1 h2 q⟩
  | inr x =>
    obtain ⟨gs, e1, q⟩ := h
    exact ⟨gs, e1, zvs_g h1 h2 q⟩
theorem zh_g {g g' : ZG} {cA : Nat → ClassId} {hp : List ZE} {ws : va_W} (h1 : g'.1 = g.1) (h2 : g'.2.1 = g.2.1) (h3 : ∀ (k a : Nat), g'.2.2[k]? = some a → (zad ws)[k]? = some a) (h : zh g cA hp ws) : zh g' cA hp ws := ⟨h.1, fun k e w q1 q2 => ze_g h1 h2 (h.2.1 k e w q1 q2), h3⟩
