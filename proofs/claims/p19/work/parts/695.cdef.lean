/-! what a method does, as a function of the heap's numbers: its steps as a list of what is read, asked, called and written -/
abbrev CN : Type := Nat × Nat × Nat × List SV
abbrev CX : Type := Option (List CN)
abbrev CRt : Type := Nat → Nat → SL → List SV → CX
abbrev CA : Type := Nat × Nat × Int
/-- the numbers so far, by their place -/
def cen (l : List Int) (t : Nat) : Int := match l, t with
  | [], _ => 0
  | a :: _, 0 => a
  | _ :: r, k + 1 => cen r k
theorem cen_app : ∀ {l r : List Int} {t : Nat}, t < l.length → cen (l ++ r) t = cen l t := by
  intro l
  induction l with
  | nil => intro r t h; cases h
  | cons a l ih =>
    intro r t h
    cases t with
    | zero => rfl
    | succ t => exact ih (Nat.lt_of_succ_lt_succ h)
theorem cen_new {x : Int} {r : List Int} : ∀ {l : List Int} {n : Nat}, l.length = n → cen (l ++ x :: r) n = x := by
  intro l
  induction l with
  | nil => intro n h; cases h; rfl
  | cons a l ih =>
    intro n h
    cases n with
    | zero => cases h
    | succ n => exact ih (Nat.succ.inj h)
/-- kinds of numbers: int, boolean, char, long -/
def clo (k : Nat) : Int := match k with
  | 0 => -2147483648
  | 1 => 0
  | 2 => 0
  | _ => -9223372036854775808
def chi (k : Nat) : Int := match k with
  | 0 => 2147483647
  | 1 => 1
  | 2 => 65535
  | _ => 9223372036854775807
def cCmp (k : Nat) (x : Int) : Prop := match k with
  | 0 => x = 0
  | 1 => x ≠ 0
  | 2 => x < 0
  | 3 => 0 ≤ x
  | 4 => 0 < x
  | _ => x ≤ 0
def copn (op : ClassFile.Cond) : Nat := match op with
  | .eq => 0
  | .ne => 1
  | .lt => 2
  | .ge => 3
  | .gt => 4
  | .le => 5
theorem cCmp_eq (op : ClassFile.Cond) (x : Int) : cCmp (copn op) x = sCmp op x := by cases op <;> rfl
/-- what two numbers come to, where that is no sum -/
def cfn (o : Nat) (a b : Int) : Int := match o with
  | 0 => (Int32.ofInt a &&& Int32.ofInt b).toInt
  | 1 => (Int32.ofInt a ||| Int32.ofInt b).toInt
  | 2 => (Int32.ofInt a <<< (Int32.ofInt b &&& 31)).toInt
  | 3 => (Int32.ofInt a >>> (Int32.ofInt b &&& 31)).toInt
  | 4 => (Int32.ofInt a * Int32.ofInt b).toInt
  | 5 => (Int64.ofInt a &&& Int64.ofInt b).toInt
  | 6 => (Int64.ofInt a ||| Int64.ofInt b).toInt
  | 7 => (Int64.ofInt a <<< ((Int32.ofInt b).toInt64 &&& 63)).toInt
  | 8 => (Int64.ofInt a >>> ((Int32.ofInt b).toInt64 &&& 63)).toInt
  | 9 => ((Int64.ofInt a).toUInt64 >>> ((Int32.ofInt b).toInt64.toUInt64 &&& Int64.toUInt64 63)).toInt64.toInt
  | 10 => (Int64.ofInt a).toInt32.toInt
  | 11 => if a < b then b else a
  | 12 => if b < a then b else a
  | 13 => (Int32.ofInt a / Int32.ofInt b).toInt
  | 14 => (Int32.ofInt a - Int32.ofInt a / Int32.ofInt b * Int32.ofInt b).toInt
  | _ => 0
def cE2 (v : List Int) (q : SV) : Int := sev (cen v) q.2.2
def cAs (v : List Int) (as : List SV) : List CA := as.map (fun a => (a.1, a.2.1, cE2 v a))
/-- one of them -/
def cnode (E : Nat → List CA → SMem → (List Int → SMem → Prop) → Prop) (Qr : List Int → SMem → Prop) (C : Nat → List Int → SMem → Prop) (k : List CN → List Int → SMem → Prop) (t a b : Nat) (as : List SV) (r : List CN) (v : List Int) (M : SMem) : Prop := match t with
  | 0 => (match as with
    | [j] => ∃ jn : Nat, (jn : Int) = cE2 v j ∧ k r (v ++ [M a jn b]) M
    | _ => False)
  | 1 => (match as with
    | [j, x] => ∃ (jn : Nat) (z : Int), (jn : Int) = cE2 v j ∧ z = cE2 v x ∧ k r v (supd M a jn b z)
    | _ => False)
  | 2 => (match as with
    | [j, i] => ∃ jn i0 : Nat, (jn : Int) = cE2 v j ∧ (i0 : Int) = cE2 v i ∧ i0 < b ∧ k r (v ++ [M a jn i0]) M
    | _ => False)
  | 3 => (match as with
    | [j, i, x] => ∃ (jn i0 : Nat) (z : Int), (jn : Int) = cE2 v j ∧ (i0 : Int) = cE2 v i ∧ i0 < b ∧ z = cE2 v x ∧ k r v (supd M a jn i0 z)
    | _ => False)
  | 4 => (match as with
    | [d] => (cCmp a (cE2 v d) → k (r.take b) v M) ∧ (¬ cCmp a (cE2 v d) → k (r.drop b) v M)
    | _ => False)
  | 5 => (match as with
    | [x, y] => k r (v ++ [cfn a (cE2 v x) (cE2 v y)]) M
    | _ => False)
  | 6 => (match as with
    | [x] => (clo a ≤ cE2 v x ∧ cE2 v x ≤ chi a) ∧ k r v M
    | _ => False)
  | 7 => (match as with
    | [i] => (0 ≤ cE2 v i ∧ cE2 v i < (a : Int)) ∧ k r v M
    | _ => False)
  | 8 => ∃ post : List Int → SMem → Prop, E a (cAs v as) M post ∧ ∀ (rr : List Int) (M' : SMem), post rr M' → rr.length = b ∧ k r (v ++ rr) M'
  | 9 => ∃ v' : List Int, v' = as.map (cE2 v) ∧ C a v' M
  | 10 => ∃ v' : List Int, v' = as.map (cE2 v) ∧ (∀ x ∈ v', clo a ≤ x ∧ x ≤ chi a) ∧ Qr v' M
  | 11 => (match as with
    | [i] => ∃ i0 : Nat, (i0 : Int) = cE2 v i ∧ (i0 : Int) < M 108 0 0 ∧ k r (v ++ [M 107 0 i0]) M
    | _ => False)
  | 12 => (match as with
    | [x, y, q] => ∃ j0 j1 nn : Nat, (j0 : Int) = cE2 v x ∧ (j1 : Int) = cE2 v y ∧ (nn : Int) = cE2 v q ∧ nn ≤ a ∧ nn ≤ b ∧ k r v (sMcp M x.2.1 j0 y.2.1 j1 nn)
    | _ => False)
  | _ => False
/-- the whole list -/
def cden (E : Nat → List CA → SMem → (List Int → SMem → Prop) → Prop) (Qr : List Int → SMem → Prop) (C : Nat → List Int → SMem → Prop) : Nat → List CN → List Int → SMem → Prop
  | 0, _, _, _ => False
  | _ + 1, [], _, _ => False
  | n + 1, q :: r, v, M => cnode E Qr C (cden E Qr C n) q.1 q.2.1 q.2.2.1 q.2.2.2 r v M
section CDN
variable {E : Nat → List CA → SMem → (List Int → SMem → Prop) → Prop} {Qr : List Int → SMem → Prop} {C : Nat → List Int → SMem → Prop} {n : Nat} {r : List CN} {v : List Int} {M : SMem} {a b : Nat}
theorem cden_s {q : CN} (h : cden E Qr C n (q :: r) v M) : ∃ n', n = n' + 1 ∧ cnode E Qr C (cden E Qr C n') q.1 q.2.1 q.2.2.1 q.2.2.2 r v M := by
  cases n with
  | zero => exact h.elim
  | succ n => exact ⟨n, rfl, h⟩
/-! for use -/
theorem d_fld {j : SV} (jn : Nat) (h1 : (jn : Int) = cE2 v j) (h : cden E Qr C n r (v ++ [M a jn b]) M) : cden E Qr C (n + 1) ((0, a, b, [j]) :: r) v M := ⟨jn, h1, h⟩
theorem d_put {j x : SV} (jn : Nat) (z : Int) (h1 : (jn : Int) = cE2 v j) (h2 : z = cE2 v x) (h : cden E Qr C n r v (supd M a jn b z)) : cden E Qr C (n + 1) ((1, a, b, [j, x]) :: r) v M := ⟨jn, z, h1, h2, h⟩
theorem d_row {j i : SV} (jn i0 : Nat) (h1 : (jn : Int) = cE2 v j) (h2 : (i0 : Int) = cE2 v i) (h3 : i0 < b) (h : cden E Qr C n r (v ++ [M a jn i0]) M) : cden E Qr C (n + 1) ((2, a, b, [j, i]) :: r) v M := ⟨jn, i0, h1, h2, h3, h⟩
theorem d_set {j i x : SV} (jn i0 : Nat) (z : Int) (h1 : (jn : Int) = cE2 v j) (h2 : (i0 : Int) = cE2 v i) (h3 : i0 < b) (h4 : z = cE2 v x) (h : cden E Qr C n r v (supd M a jn i0 z)) : cden E Qr C (n + 1) ((3, a, b, [j, i, x]) :: r) v M := ⟨jn, i0, z, h1, h2, h3, h4, h⟩
theorem d_br {d : SV} (h1 : cCmp a (cE2 v d) → cden E Qr C n (r.take b) v M) (h2 : ¬ cCmp a (cE2 v d) → cden E Qr C n (r.drop b) v M) : cden E Qr C (n + 1) ((4, a, b, [d]) :: r) v M := ⟨h1, h2⟩
theorem d_op {x y : SV} (z : Int) (h1 : cfn a (cE2 v x) (cE2 v y) = z) (h : cden E Qr C n r (v ++ [z]) M) : cden E Qr C (n + 1) ((5, a, b, [x, y]) :: r) v M := by
  subst h1
  exact h
theorem d_rng {x : SV} (h1 : clo a ≤ cE2 v x ∧ cE2 v x ≤ chi a) (h : cden E Qr C n r v M) : cden E Qr C (n + 1) ((6, a, b, [x]) :: r) v M := ⟨h1, h⟩
theorem d_idx {i : SV} (h1 : 0 ≤ cE2 v i ∧ cE2 v i < (a : Int)) (h : cden E Qr C n r v M) : cden E Qr C (n + 1) ((7, a, b, [i]) :: r) v M := ⟨h1, h⟩
theorem d_call {as : List SV} {cas : List CA} {post : List Int → SMem → Prop} (h1 : E a cas M post) (h2 : cas = cAs v as) (h : ∀ (rr : List Int) (M' : SMem), post rr M' → rr.length = b ∧ cden E Qr C n r (v ++ rr) M') : cden E Qr C (n + 1) ((8, a, b, as) :: r) v M := ⟨post, by rw [← h2]; exact h1, h⟩
theorem d_cut {es : List SV} (v' : List Int) (h1 : v' = es.map (cE2 v)) (h : C a v' M) : cden E Qr C (n + 1) ((9, a, b, es) :: r) v M := ⟨v', h1, h⟩
theorem d_ret {es : List SV} (v' : List Int) (h1 : v' = es.map (cE2 v)) (h2 : ∀ x ∈ v', clo a ≤ x ∧ x ≤ chi a) (h : Qr v' M) : cden E Qr C (n + 1) ((10, a, b, es) :: r) v M := ⟨v', h1, h2, h⟩
theorem d_scr {i : SV} (i0 : Nat) (h1 : (i0 : Int) = cE2 v i) (h2 : (i0 : Int) < M 108 0 0) (h : cden E Qr C n r (v ++ [M 107 0 i0]) M) : cden E Qr C (n + 1) ((11, a, b, [i]) :: r) v M := ⟨i0, h1, h2, h⟩
theorem d_cpy {x y q : SV} (j0 j1 nn : Nat) (h1 : (j0 : Int) = cE2 v x) (h2 : (j1 : Int) = cE2 v y) (h3 : (nn : Int) = cE2 v q) (h4 : nn ≤ a) (h5 : nn ≤ b) (h : cden E Qr C n r v (sMcp M x.2.1 j0 y.2.1 j1 nn)) : cden E Qr C (n + 1) ((12, a, b, [x, y, q]) :: r) v M := ⟨j0, j1, nn, h1, h2, h3, h4, h5, h⟩
end CDN
/-- from a place of the method, with these numbers, it ends so: the least that is closed -/
def cEnds (E : Nat → List CA → SMem → (List Int → SMem → Prop) → Prop) (Qr : List Int → SMem → Prop) (F : Nat) (sg : List (Nat × SL × Nat × List CN)) (pc : Nat) (v : List Int) (M : SMem) : Prop := ∀ I : Nat → List Int → SMem → Prop, (∀ q ∈ sg, ∀ (v : List Int) (M : SMem), v.length = q.2.2.1 → cden E Qr I F q.2.2.2 v M → I q.1 v M) → I pc v M
theorem cnode_mono {E : Nat → List CA → SMem → (List Int → SMem → Prop) → Prop} {Qr : List Int → SMem → Prop} {C C' : Nat → List Int → SMem → Prop} (hC : ∀ p v M, C p v M → C' p v M) {k k' : List CN → List Int → SMem → Prop} (hk : ∀ r v M, k r v M → k' r v M) {t a b : Nat} {as : List SV} {r : List CN} {v : List Int} {M : SMem} (h : cnode E Qr C k t a b as r v M) : cnode E Qr C' k' t a b as r v M := by
  match t, as, h with
  | 0, [j], h => obtain ⟨jn, h1, h2⟩ := h; exact ⟨jn, h1, hk _ _ _ h2⟩
  | 1, [j, x], h => obtain ⟨jn, z, h1, h2, h3⟩ := h; exact ⟨jn, z, h1, h2, hk _ _ _ h3⟩
  | 2, [j, i], h => obtain ⟨jn, i0, h1, h2, h3, h4⟩ := h; exact ⟨jn, i0, h1, h2, h3, hk _ _ _ h4⟩
  | 3, [j, i, x], h => obtain ⟨jn, i0, z, h1, h2, h3, h4, h5⟩ := h; exact ⟨jn, i0, z, h1, h2, h3, h4, hk _ _ _ h5⟩
  | 4, [d], h => exact ⟨fun q => hk _ _ _ (h.1 q), fun q => hk _ _ _ (h.2 q)⟩
  | 5, [x, y], h => exact hk _ _ _ h
  | 6, [x], h => exact ⟨h.1, hk _ _ _ h.2⟩
  | 7, [i], h => exact ⟨h.1, hk _ _ _ h.2⟩
  | 8, as, h => obtain ⟨post, h1, h2⟩ := h; exact ⟨post, h1, fun rr M' q => ⟨(h2 rr M' q).1, hk _ _ _ (h2 rr M' q).2⟩⟩
  | 9, as, h => obtain ⟨v', h1, h2⟩ := h; exact ⟨v', h1, hC _ _ _ h2⟩
  | 10, as, h => exact h
  | 11, [i], h => obtain ⟨i0, h1, h2, h3⟩ := h; exact ⟨i0, h1, h2, hk _ _ _ h3⟩
  | 0, [], h => exact h.elim
  | 0, _ :: _ :: _, h => exact h.elim
  | 1, [], h => exact h.elim
  | 1, [_], h => exact h.elim
  | 1, _ :: _ :: _ :: _, h => exact h.elim
  | 2, [], h => exact h.elim
  | 2, [_], h => exact h.elim
  | 2, _ :: _ :: _ :: _, h => exact h.elim
  | 3, [], h => exact h.elim
  | 3, [_], h => exact h.elim
  | 3, [_, _], h => exact h.elim
  | 3, _ :: _ :: _ :: _ :: _, h => exact h.elim
  | 4, [], h => exact h.elim
  | 4, _ :: _ :: _, h => exact h.elim
  | 5, [], h => exact h.elim
  | 5, [_], h => exact h.elim
  | 5, _ :: _ :: _ :: _, h => exact h.elim
  | 6, [], h => exact h.elim
  | 6, _ :: _ :: _, h => exact h.elim
  | 7, [], h => exact h.elim
  | 7, _ :: _ :: _, h => exact h.elim
  | 11, [], h => exact h.elim
  | 11, _ :: _ :: _, h => exact h.elim
  | 12, [x, y, q], h => obtain ⟨j0, j1, nn, h1, h2, h3, h4, h5, h6⟩ := h; exact ⟨j0, j1, nn, h1, h2, h3, h4, h5, hk _ _ _ h6⟩
  | 12, [], h => exact h.elim
  | 12, [_], h => exact h.elim
  | 12, [_, _], h => exact h.elim
  | 12, _ :: _ :: _ :: _ :: _, h => exact h.elim
  | t + 13, as, h => exact h.elim
theorem cden_mono {E : Nat → List CA → SMem → (List Int → SMem → Prop) → Prop} {Qr : List Int → SMem → Prop} {C C' : Nat → List Int → SMem → Prop} (hC : ∀ p v M, C p v M → C' p v M) : ∀ {n : Nat} {r : List CN} {v : List Int} {M : SMem}, cden E Qr C n r v M → cden E Qr C' n r v M := by
  intro n
  induction n with
  | zero => intro r v M h; exact h.elim
  | succ n ih =>
    intro r v M h
    cases r with
    | nil => exact h.elim
    | cons q r => exact cnode_mono hC (fun _ _ _ h => ih h) h
theorem cEnds_at {E : Nat → List CA → SMem → (List Int → SMem → Prop) → Prop} {Qr : List Int → SMem → Prop} {F : Nat} {sg : List (Nat × SL × Nat × List CN)} {pc n : Nat} {lv : SL} {L : List CN} (hq : (pc, lv, n, L) ∈ sg) {v : List Int} {M : SMem} (hv : v.length = n) (h : cden E Qr (cEnds E Qr F sg) F L v M) : cEnds E Qr F sg pc v M := by
  intro I hI
  exact hI _ hq v M hv (cden_mono (fun p v M h => h I hI) h)
